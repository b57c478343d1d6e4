/-! item, bits, of, place, count. -/
theorem call_item {G : gG} {b n : Nat} {A : AS} (h : REL G b n A) (a1 a2 : Int32) (a3 : Int64) : C2 b n A (f_X5_item G b a1 a2 a3) (fun G' => f_X6_item G' (b + 9) a1 a2 a3) := by
  obtain ⟨w, hn, ⟨sr, se, row, c⟩, ⟨asd, spr, sd, ss, f15, f16, m⟩⟩ := h
  have mx : MX G (b + 9) A := ⟨_, _, _, _, _, _, m⟩
  rcases kn w c a1 with ⟨i, hi, rfl, k, t⟩ | ⟨k, t⟩
  · have T := c.c i hi
    have hz := w.sz i hi
    have e1 : f_X5_item G b (nI i) a2 a3 = if A.gone i = 0 then (gb (f_X4_hasItem G (b + 18 + 4 * i) a2) fun r4 => if r4 = 0 then (gb2 (f_X5_failed G b 2 (-3)) fun r7 G8 => some (r7, G8)) else gb (f_X4_write G (b + 18 + 4 * i) a2 (f_X1_lowestBits a3 (A.lane i))) fun G6 => some (1, G6)) else gb2 (f_X5_failed G b 1 (-3)) fun r5 G6 => some (r5, G6) := by
      unfold f_X5_item
      rw [gck_true (cf_o c.o), k, gb_some]
      show (gb (g_fI G (b + 18 + 4 * i) 3 3) _) = _
      rw [to_3 T.o, gb_some, gck_true (to_o T.o), gck_true (cf_o c.o), gck_true (cf_o c.o), to_0 T.o, gb_some, gck_true (to_o T.o)]
    have e2 : ∀ G', MR G' (b + 9) A asd spr sd ss f15 f16 → f_X6_item G' (b + 9) (nI i) a2 a3 = if A.gone i = 0 then (if f_X6_in (Int32.toInt64 a2) 0 (Int32.toInt64 (nI (sz3 (A.ex i)) - 1)) = 0 then (gb2 (f_X6_fails G' (b + 9) 2 (-3)) fun r G'' => some (r, G'')) else gb (g_ls G' (b + 9 + 6) (((240 : Int32) * nI i) + a2) (f_X6_kept a3 (A.lane i))) fun G9 => some (1, G9)) else gb2 (f_X6_fails G' (b + 9) 1 (-3)) fun r6 G7 => some (r6, G7) := by
      intro G' mm
      unfold f_X6_item
      rw [gck_true (mo_o mm.o), t G' ⟨_, _, _, _, _, _, mm⟩, gb_some, if_neg (by decide), mo_5 mm.o, gb_some, mm.gone w hi, gb_some, gck_true (mo_o mm.o), mo_4 mm.o, gb_some, mm.size w hi, gb_some, gck_true (mo_o mm.o), mo_6 mm.o, gb_some, mo_1 mm.o, gb_some, mm.lane w hi, gb_some]
    by_cases g : A.gone i = 0
    · rcases has_ok T hz a2 with ⟨j, hj, rfl, hh⟩ | ⟨hb, hh⟩
      · have hin : f_X6_in (Int32.toInt64 (nI j)) 0 (Int32.toInt64 (nI (sz3 (A.ex i)) - 1)) = 1 := by
          rcases in_N (nI j) (N := sz3 (A.ex i)) (by omega) with ⟨_, _, _, q⟩ | ⟨q, -⟩
          · exact q
          · exfalso
            rcases q with q | q
            · exact nI_pos (by omega) q
            · have := (nI_leI (by omega) (by omega)).mp q
              omega
        obtain ⟨ce, d1, d2⟩ := T.i.ls hj (by omega) (f_X6_kept a3 (A.lane i))
        have fc : FC G (g_up G (b + 18 + 4 * i + 3) ce) b := FC.up (by omega)
        have m1 := m.frame fc
        obtain ⟨G2, r1, r2, r3⟩ := m1.put w hi hj (f_X6_kept a3 (A.lane i))
        refine fin2 (r := 1) (w.seti (fun x hx => ?_)) ?_ m1 (c.items hi d2) ?_ r2 r3 hn
        · by_cases z : x = j
          · rw [z, fset_s]; exact val_kept (w.ln i hi) _
          · rw [fset_n z]; exact w.vl i hi x hx
        · rw [e1, if_pos g, hh, gb_some, if_neg (by decide), low_kept (w.ln i hi)]
          unfold f_X4_write
          rw [gck_true (to_o T.o), hh, gb_some, if_neg (by decide), to_2 T.o, gb_some, d1, gb_some, gb_some]
        · show f_X6_item _ (b + 9) (nI i) (nI j) a3 = _
          rw [e2 _ m1, if_pos g, hin, if_neg (by decide), r1, gb_some]
      · have hin : f_X6_in (Int32.toInt64 a2) 0 (Int32.toInt64 (nI (sz3 (A.ex i)) - 1)) = 0 := by
          rcases in_N a2 (N := sz3 (A.ex i)) (by omega) with ⟨j, hj, rfl, -⟩ | ⟨-, q⟩
          · exfalso
            rcases hb with q | q
            · exact nI_pos (by omega) q
            · have := (nI_leI (by omega) (by omega)).mp q
              omega
          · exact q
        refine fail2 w c m hn 2 (-3) (by rw [e1, if_pos g, hh, gb_some, if_pos rfl]) (fun G' mm => ?_)
        show f_X6_item _ (b + 9) (nI i) a2 a3 = _
        rw [e2 _ mm, if_pos g, hin, if_pos rfl]
    · refine fail2 w c m hn 1 (-3) (by rw [e1, if_neg g]) (fun G' mm => ?_)
      show f_X6_item _ (b + 9) (nI i) a2 a3 = _
      rw [e2 _ mm, if_neg g]
  · refine same2 (r := -1) w c m hn ?_ ?_
    · unfold f_X5_item
      rw [gck_true (cf_o c.o), k, gb_some]; rfl
    · show f_X6_item _ (b + 9) a1 a2 a3 = _
      unfold f_X6_item
      rw [gck_true (mo_o m.o), t G mx, gb_some, if_pos rfl]
theorem call_bits {G : gG} {b n : Nat} {A : AS} (h : REL G b n A) (a1 a2 a3 : Int32) : C2 b n A (f_X5_bits G b a1 a2 a3) (fun G' => f_X6_bits G' (b + 9) a1 a2 a3) := by
  obtain ⟨w, hn, ⟨sr, se, row, c⟩, ⟨asd, spr, sd, ss, f15, f16, m⟩⟩ := h
  have mx : MX G (b + 9) A := ⟨_, _, _, _, _, _, m⟩
  rcases kn w c a1 with ⟨i, hi, rfl, k, t⟩ | ⟨k, t⟩
  · have T := c.c i hi
    have hz := w.sz i hi
    rcases lane_cs a3 with ⟨hl, l1, l2⟩ | ⟨l1, l2⟩
    · have e1 : f_X5_bits G b (nI i) a2 a3 = if A.gone i = 0 then (if A.lane i = a3 then (gb (f_X4_hasItem G (b + 18 + 4 * i) a2) fun r4 => if r4 = 0 then (gb2 (f_X5_failed G b 2 (-3)) fun r7 G8 => some (Int32.toInt64 r7, G8)) else gb (f_X4_read G (b + 18 + 4 * i) a2) fun r6 => some (r6, G)) else gb2 (f_X5_failed G b 4 (-3)) fun r7 G8 => some (Int32.toInt64 r7, G8)) else gb2 (f_X5_failed G b 1 (-3)) fun r5 G6 => some (Int32.toInt64 r5, G6) := by
        unfold f_X5_bits
        rw [gck_true (cf_o c.o), k, gb_some]
        show (if f_X1_isLane a3 = 0 then _ else gb (g_fI G (b + 18 + 4 * i) 3 3) _) = _
        rw [l1, if_neg (by decide), to_3 T.o, gb_some, to_0 T.o, gb_some, gck_true (to_o T.o), gck_true (cf_o c.o), gck_true (cf_o c.o), gck_true (cf_o c.o), gck_true (to_o T.o)]
      have e2 : ∀ G', MR G' (b + 9) A asd spr sd ss f15 f16 → f_X6_bits G' (b + 9) (nI i) a2 a3 = if A.gone i = 0 then (if A.lane i = a3 then (if f_X6_in (Int32.toInt64 a2) 0 (Int32.toInt64 (nI (sz3 (A.ex i)) - 1)) = 0 then (gb2 (f_X6_fails G' (b + 9) 2 (-3)) fun r G'' => some (Int32.toInt64 r, G'')) else gb (g_ll G' (b + 9 + 6) (((240 : Int32) * nI i) + a2)) fun v => some (v, G')) else gb2 (f_X6_fails G' (b + 9) 4 (-3)) fun r G'' => some (Int32.toInt64 r, G'')) else gb2 (f_X6_fails G' (b + 9) 1 (-3)) fun r6 G7 => some (Int32.toInt64 r6, G7) := by
        intro G' mm
        unfold f_X6_bits
        rw [gck_true (mo_o mm.o), t G' ⟨_, _, _, _, _, _, mm⟩, gb_some, if_neg (by decide), l2, if_neg (by decide), mo_5 mm.o, gb_some, mm.gone w hi, gb_some, mo_1 mm.o, gb_some, mm.lane w hi, gb_some, mo_4 mm.o, gb_some, mm.size w hi, gb_some, gck_true (mo_o mm.o), gck_true (mo_o mm.o), gck_true (mo_o mm.o), mo_6 mm.o, gb_some]
      by_cases g : A.gone i = 0
      · by_cases q : A.lane i = a3
        · rcases has_ok T hz a2 with ⟨j, hj, rfl, hh⟩ | ⟨hb, hh⟩
          · have hin : f_X6_in (Int32.toInt64 (nI j)) 0 (Int32.toInt64 (nI (sz3 (A.ex i)) - 1)) = 1 := by
              rcases in_N (nI j) (N := sz3 (A.ex i)) (by omega) with ⟨_, _, _, q⟩ | ⟨q, -⟩
              · exact q
              · exfalso
                rcases q with q | q
                · exact nI_pos (by omega) q
                · have := (nI_leI (by omega) (by omega)).mp q
                  omega
            refine same2 (r := A.it i j) w c m hn ?_ ?_
            · rw [e1, if_pos g, if_pos q, hh, gb_some, if_neg (by decide), read_ok T hz hj, gb_some]
            · show f_X6_bits _ (b + 9) (nI i) (nI j) a3 = _
              rw [e2 _ m, if_pos g, if_pos q, hin, if_neg (by decide), m.item w hi hj, gb_some]
          · have hin : f_X6_in (Int32.toInt64 a2) 0 (Int32.toInt64 (nI (sz3 (A.ex i)) - 1)) = 0 := by
              rcases in_N a2 (N := sz3 (A.ex i)) (by omega) with ⟨j, hj, rfl, -⟩ | ⟨-, q⟩
              · exfalso
                rcases hb with q | q
                · exact nI_pos (by omega) q
                · have := (nI_leI (by omega) (by omega)).mp q
                  omega
              · exact q
            refine fail2' w c m hn Int32.toInt64 2 (-3) (by rw [e1, if_pos g, if_pos q, hh, gb_some, if_pos rfl]) (fun G' mm => ?_)
            show f_X6_bits _ (b + 9) (nI i) a2 a3 = _
            rw [e2 _ mm, if_pos g, if_pos q, hin, if_pos rfl]
        · refine fail2' w c m hn Int32.toInt64 4 (-3) (by rw [e1, if_pos g, if_neg q]) (fun G' mm => ?_)
          show f_X6_bits _ (b + 9) (nI i) a2 a3 = _
          rw [e2 _ mm, if_pos g, if_neg q]
      · refine fail2' w c m hn Int32.toInt64 1 (-3) (by rw [e1, if_neg g]) (fun G' mm => ?_)
        show f_X6_bits _ (b + 9) (nI i) a2 a3 = _
        rw [e2 _ mm, if_neg g]
    · refine same2 (r := -1) w c m hn ?_ ?_
      · unfold f_X5_bits
        rw [gck_true (cf_o c.o), k, gb_some]
        show (if f_X1_isLane a3 = 0 then _ else _) = _
        rw [l1, if_pos rfl]
      · show f_X6_bits _ (b + 9) (nI i) a2 a3 = _
        unfold f_X6_bits
        rw [gck_true (mo_o m.o), t G mx, gb_some, if_neg (by decide), l2, if_pos rfl]
  · refine same2 (r := -1) w c m hn ?_ ?_
    · unfold f_X5_bits
      rw [gck_true (cf_o c.o), k, gb_some]; rfl
    · show f_X6_bits _ (b + 9) a1 a2 a3 = _
      unfold f_X6_bits
      rw [gck_true (mo_o m.o), t G mx, gb_some, if_pos rfl]
theorem call_of {G : gG} {b n : Nat} {A : AS} (h : REL G b n A) (a1 a2 : Int32) : C2 b n A (f_X5_of G b a1 a2) (fun G' => f_X6_of G' (b + 9) a1 a2) := by
  obtain ⟨w, hn, ⟨sr, se, row, c⟩, ⟨asd, spr, sd, ss, f15, f16, m⟩⟩ := h
  have mx : MX G (b + 9) A := ⟨_, _, _, _, _, _, m⟩
  rcases kn w c a1 with ⟨i, hi, rfl, k, t⟩ | ⟨k, t⟩
  · have T := c.c i hi
    have TS := c.tsh hi
    have hz := w.sz i hi
    have hk := w.rk3 i hi
    have h16 := w.n16
    rcases in_cs a2 (h := 5) (by omega) with ⟨q, hq, rfl, h3⟩ | ⟨hb, h3⟩
    · have h3 : f_X6_in (Int32.toInt64 (nI q)) 0 5 = 1 := h3
      have c5 : nI q ≤ 5 := (nI_leI (a := q) (b := 5) (by omega) (by omega)).mpr hq
      have e1 : f_X5_of G b (nI i) (nI q) = if A.gone i = 0 then (if nI q = 0 then some (A.lane i, G) else if nI q = 1 then some (nI (A.rk i), G) else if nI q = 2 then some (nI (sz3 (A.ex i)), G) else gb (f_X3_extentFromFirst G (b + 18 + 4 * i + 1) (nI q - 3)) fun r10 => some (r10, G)) else gb2 (f_X5_failed G b 1 (-3)) fun r5 G6 => some (r5, G6) := by
        unfold f_X5_of
        rw [gck_true (cf_o c.o), k, gb_some]
        show (if nI q < 0 then _ else if nI q ≤ 5 then gb (g_fI G (b + 18 + 4 * i) 3 3) _ else _) = _
        rw [if_neg (nI_pos (by omega)), if_pos c5, to_3 T.o, gb_some, to_0 T.o, gb_some, to_1 T.o, gb_some, so_0 T.s, gb_some, gb_some, gck_true (so_o T.s), TS.size, gb_some, gb_some, gck_true (so_o T.s), gck_true (cf_o c.o)]
      have e2 : ∀ G', MR G' (b + 9) A asd spr sd ss f15 f16 → f_X6_of G' (b + 9) (nI i) (nI q) = if A.gone i = 0 then (if nI q = 0 then some (A.lane i, G') else if nI q = 1 then some (nI (A.rk i), G') else if nI q = 2 then some (nI (sz3 (A.ex i)), G') else (if nI (A.rk i) ≤ nI q - 3 then some (-3, G') else gb (g_il G' (b + 9 + 3) ((((3 : Int32) * nI i) + nI q) - 3)) fun v7 => some (v7, G'))) else gb2 (f_X6_fails G' (b + 9) 1 (-3)) fun r6 G7 => some (r6, G7) := by
        intro G' mm
        unfold f_X6_of
        rw [gck_true (mo_o mm.o), t G' ⟨_, _, _, _, _, _, mm⟩, gb_some, if_neg (by decide), h3, if_neg (by decide), mo_5 mm.o, gb_some, mm.gone w hi, gb_some, mo_1 mm.o, gb_some, mm.lane w hi, gb_some, mo_2 mm.o, gb_some, mm.dim w hi, gb_some, mo_4 mm.o, gb_some, mm.size w hi, gb_some, gb_some, mm.dim w hi, gb_some, mo_3 mm.o, gb_some, gck_true (mo_o mm.o)]
      by_cases g : A.gone i = 0
      · by_cases q0 : nI q = 0
        · refine same2 (r := A.lane i) w c m hn (by rw [e1, if_pos g, if_pos q0]) ?_
          show f_X6_of _ (b + 9) (nI i) (nI q) = _
          rw [e2 _ m, if_pos g, if_pos q0]
        · by_cases q1 : nI q = 1
          · refine same2 (r := nI (A.rk i)) w c m hn (by rw [e1, if_pos g, if_neg q0, if_pos q1]) ?_
            show f_X6_of _ (b + 9) (nI i) (nI q) = _
            rw [e2 _ m, if_pos g, if_neg q0, if_pos q1]
          · by_cases q2 : nI q = 2
            · refine same2 (r := nI (sz3 (A.ex i))) w c m hn (by rw [e1, if_pos g, if_neg q0, if_neg q1, if_pos q2]) ?_
              show f_X6_of _ (b + 9) (nI i) (nI q) = _
              rw [e2 _ m, if_pos g, if_neg q0, if_neg q1, if_pos q2]
            · have q3 : 3 ≤ q := by
                have n0 : ¬ q = 0 := fun z => q0 (by rw [z]; rfl)
                have n1 : ¬ q = 1 := fun z => q1 (by rw [z]; rfl)
                have n2 : ¬ q = 2 := fun z => q2 (by rw [z]; rfl)
                omega
              have eq : nI q - 3 = nI (q - 3) := pk_sub (b := 3) q3
              have cr : nI (A.rk i) ≤ nI (q - 3) ↔ A.rk i ≤ q - 3 := nI_leI (by omega) (by omega)
              obtain ⟨v, hv1, hv2⟩ : ∃ v, f_X3_extentFromFirst G (b + 18 + 4 * i + 1) (nI (q - 3)) = some v ∧ (if nI (A.rk i) ≤ nI (q - 3) then some ((-3 : Int32), G) else gb (g_il G (b + 9 + 3) ((((3 : Int32) * nI i) + nI q) - 3)) fun v7 => some (v7, G)) = some (v, G) := by
                unfold f_X3_extentFromFirst
                rw [so_0 TS.1, gb_some]
                simp only [gl]
                rw [if_neg (nI_pos (by omega))]
                by_cases d : A.rk i ≤ q - 3
                · refine ⟨-3, ?_, by rw [ifp cr d]⟩
                  have hlt : nI (A.rk i) - 1 - nI (q - 3) < 0 := by
                    rw [Int32.lt_iff_toInt_lt, nI_jI, nI_jI, show (1 : Int32) = jI 1 from rfl, jI_sub, jI_sub, jI_toInt (by omega)]
                    show _ < (0 : Int)
                    omega
                  rw [if_pos hlt]
                · have e3 : nI (A.rk i) - 1 - nI (q - 3) = nI (A.rk i - 1 - (q - 3)) := by
                    rw [show (1 : Int32) = nI 1 from rfl, pk_sub (by omega), pk_sub (by omega)]
                  have c3 : ¬ (3 : Int32) ≤ nI (A.rk i - 1 - (q - 3)) := fun z => by
                    have := (nI_leI (a := 3) (by omega) (by omega)).mp z
                    omega
                  refine ⟨nI (A.ex i (A.rk i - 1 - (q - 3))), ?_, ?_⟩
                  · rw [e3, if_neg (nI_pos (by omega)), if_neg c3, so_1 TS.1, gb_some, TS.il (by omega), gb_some]
                  · have e4 : (((3 : Int32) * nI i) + nI q) - 3 = nI (3 * i + (q - 3)) := by
                      rw [show (3 : Int32) = nI 3 from rfl, pk_mul, nI_add, pk_sub (by omega)]
                      exact congrArg nI (by omega)
                    obtain ⟨L1, L2, L3, L4, L5, L6, a1, a2', a3, a4, a5, a6, a7⟩ := m.r
                    have := a7.l3 i hi (A.rk i - 1 - (q - 3)) (by omega)
                    rw [ifn cr d, e4, a3.il (by omega) (by omega), gb_some, ← this]
                    exact congrArg (fun z => some (L3 z, G)) (by omega)
              refine same2 (r := v) w c m hn ?_ ?_
              · rw [e1, if_pos g, if_neg q0, if_neg q1, if_neg q2, eq, hv1, gb_some]
              · show f_X6_of _ (b + 9) (nI i) (nI q) = _
                rw [e2 _ m, if_pos g, if_neg q0, if_neg q1, if_neg q2, eq]
                exact hv2
      · refine fail2 w c m hn 1 (-3) (by rw [e1, if_neg g]) (fun G' mm => ?_)
        show f_X6_of _ (b + 9) (nI i) (nI q) = _
        rw [e2 _ mm, if_neg g]
    · refine same2 (r := -1) w c m hn ?_ ?_
      · unfold f_X5_of
        rw [gck_true (cf_o c.o), k, gb_some]
        show (if a2 < 0 then some ((-1 : Int32), G) else if a2 ≤ 5 then _ else some (-1, G)) = _
        by_cases d : a2 < 0
        · rw [if_pos d]
        · obtain ⟨q, hq, rfl⟩ := nI_of d
          have : 5 < q := by
            rcases hb with z | z
            · exact absurd z d
            · exact (nI_ltI (a := 5) (by omega) hq).mp z
          rw [if_neg d, if_neg (fun z => by have := (nI_leI (b := 5) hq (by omega)).mp z; omega)]
      · show f_X6_of _ (b + 9) (nI i) a2 = _
        unfold f_X6_of
        have h3 : f_X6_in (Int32.toInt64 a2) 0 5 = 0 := h3
        rw [gck_true (mo_o m.o), t G mx, gb_some, if_neg (by decide), h3, if_pos rfl]
  · refine same2 (r := -1) w c m hn ?_ ?_
    · unfold f_X5_of
      rw [gck_true (cf_o c.o), k, gb_some]; rfl
    · show f_X6_of _ (b + 9) a1 a2 = _
      unfold f_X6_of
      rw [gck_true (mo_o m.o), t G mx, gb_some, if_pos rfl]
theorem call_place {G : gG} {b n : Nat} {A : AS} (h : REL G b n A) : ∃ r, f_X5_place G b = some r ∧ f_X6_place G (b + 9) = some r := by
  obtain ⟨w, hn, ⟨sr, se, row, c⟩, ⟨asd, spr, sd, ss, f15, f16, m⟩⟩ := h
  refine ⟨A.pla, ?_, ?_⟩
  · unfold f_X5_place
    rw [cf_8 c.o, gb_some]
  · unfold f_X6_place
    rw [mo_11 m.o, gb_some]
/-- the tensors not gone, from j on -/
def ngF (g : Nat → Int32) : Nat → Nat → Nat → Nat
  | 0, _, acc => acc
  | k + 1, j, acc => ngF g k (j + 1) (if g j = 0 then acc + 1 else acc)
theorem ng_class {G : gG} {b : Nat} {A : AS} {sr : Nat} {se : Nat → Nat} {row : Nat → Int64} (c : CR G b A sr se row) (w : WF A) : ∀ (k j fu acc : Nat), j + k = A.N → f_X5_notGone_4 (fu + k + 1) G b (nI acc) (nI j) = some (nI (ngF A.gone k j acc)) := by
  have h16 := w.n16
  intro k
  induction k with
  | zero =>
    intro j fu acc hk
    have cc : nI A.N ≤ nI j := (nI_leI (by omega) (by omega)).mpr (by omega)
    rw [Nat.add_zero, f_X5_notGone_4, cf_4 c.o, gb_some, if_pos cc]
    rfl
  | succ k ih =>
    intro j fu acc hk
    have cc : nI A.N ≤ nI j ↔ A.N ≤ j := nI_leI (by omega) (by omega)
    have hj : j < A.N := by omega
    have T := c.c j hj
    have kj : f_X5_known G b (nI j) = some (some (b + 18 + 4 * j)) := by
      rcases known_ok c w (nI j) with ⟨i, hi, e, q⟩ | ⟨q, -⟩
      · have : j = i := (nI_eq (by omega) (by omega)).mp e
        rw [q, this]
      · exact absurd (bad_n h16 hj rfl q) id
    rw [show fu + (k + 1) + 1 = (fu + k + 1) + 1 by omega, f_X5_notGone_4, cf_4 c.o, gb_some, ifn cc (by omega), gck_true (cf_o c.o), kj, gb_some]
    show (gb (g_fI G (b + 18 + 4 * j) 3 3) _) = _
    rw [to_3 T.o, gb_some]
    unfold f_X5_notGone_32
    simp only [gl]
    rw [nI_1, nI_1]
    show _ = some (nI (ngF A.gone k (j + 1) (if A.gone j = 0 then acc + 1 else acc)))
    by_cases g : A.gone j = 0
    · rw [if_pos g, if_pos g]; exact ih (j + 1) fu (acc + 1) (by omega)
    · rw [if_neg g, if_neg g]; exact ih (j + 1) fu acc (by omega)
theorem ng_ref {G : gG} {m : Nat} {A : AS} {asd : Nat → Int64} {spr : Nat → Int32} {sd ss f15 f16 : Int32} (h : MR G m A asd spr sd ss f15 f16) (w : WF A) (a : Int32) : ∀ (k j fu acc : Nat), j + k = A.N → f_X6_count_4 (fu + k + 1) G m a (nI acc) (nI j) = some (if a = 0 then nI A.N else if a = 1 then nI (ngF A.gone k j acc) else if a = 2 then A.mis else if a = 3 then A.fai else -1) := by
  have h16 := w.n16
  intro k
  induction k with
  | zero =>
    intro j fu acc hk
    have cc : nI A.N ≤ nI j := (nI_leI (by omega) (by omega)).mpr (by omega)
    rw [Nat.add_zero, f_X6_count_4, mo_0 h.o, gb_some, if_pos cc, gb_some, mo_9 h.o, gb_some, mo_10 h.o, gb_some]
    show _ = some (if a = 0 then nI A.N else if a = 1 then nI acc else if a = 2 then A.mis else if a = 3 then A.fai else -1)
    by_cases c0 : a = 0
    · rw [if_pos c0, if_pos c0]
    · rw [if_neg c0, if_neg c0]
      by_cases c1 : a = 1
      · rw [if_pos c1, if_pos c1]
      · rw [if_neg c1, if_neg c1]
        by_cases c2 : a = 2
        · rw [if_pos c2, if_pos c2]
        · rw [if_neg c2, if_neg c2]
          by_cases c3 : a = 3
          · rw [if_pos c3, if_pos c3]
          · rw [if_neg c3, if_neg c3]
  | succ k ih =>
    intro j fu acc hk
    have cc : nI A.N ≤ nI j ↔ A.N ≤ j := nI_leI (by omega) (by omega)
    have hj : j < A.N := by omega
    rw [show fu + (k + 1) + 1 = (fu + k + 1) + 1 by omega, f_X6_count_4, mo_0 h.o, gb_some, ifn cc (by omega), mo_5 h.o, gb_some, h.gone w hj, gb_some]
    unfold f_X6_count_27
    simp only [gl]
    rw [show (1 : Int32) = nI 1 from rfl, show (0 : Int32) = nI 0 from rfl, nI_add, nI_add, nI_add, Nat.add_zero]
    have e : ngF A.gone (k + 1) j acc = ngF A.gone k (j + 1) (if A.gone j = 0 then acc + 1 else acc) := rfl
    rw [e]
    by_cases g : A.gone j = 0
    · rw [if_pos (show A.gone j = nI 0 from g), if_pos g]; exact ih (j + 1) fu (acc + 1) (by omega)
    · rw [if_neg (show ¬ A.gone j = nI 0 from g), if_neg g]; exact ih (j + 1) fu acc (by omega)
theorem call_count {G : gG} {b n : Nat} {A : AS} (h : REL G b n A) (a : Int32) : ∃ r, f_X5_count G b a = some r ∧ f_X6_count G (b + 9) a = some r := by
  obtain ⟨w, hn, ⟨sr, se, row, c⟩, ⟨asd, spr, sd, ss, f15, f16, m⟩⟩ := h
  have h16 := w.n16
  obtain ⟨fu, hfu⟩ : ∃ fu : Nat, 5000 = fu + A.N + 1 := ⟨4999 - A.N, by omega⟩
  refine ⟨if a = 0 then nI A.N else if a = 1 then nI (ngF A.gone A.N 0 0) else if a = 2 then A.mis else if a = 3 then A.fai else -1, ?_, ?_⟩
  · have e : f_X5_notGone G b = some (nI (ngF A.gone A.N 0 0)) := by
      unfold f_X5_notGone
      rw [hfu]
      exact ng_class c w A.N 0 fu 0 (by omega)
    unfold f_X5_count
    rw [cf_4 c.o, gb_some, gck_true (cf_o c.o), e, gb_some, cf_6 c.o, gb_some, cf_7 c.o, gb_some]
    by_cases c0 : a = 0
    · rw [if_pos c0, if_pos c0]
    · rw [if_neg c0, if_neg c0]
      by_cases c1 : a = 1
      · rw [if_pos c1, if_pos c1]
      · rw [if_neg c1, if_neg c1]
        by_cases c2 : a = 2
        · rw [if_pos c2, if_pos c2]
        · rw [if_neg c2, if_neg c2]
          by_cases c3 : a = 3
          · rw [if_pos c3, if_pos c3]
          · rw [if_neg c3, if_neg c3]
  · unfold f_X6_count
    rw [hfu]
    exact ng_ref m w a A.N 0 fu 0 (by omega)
