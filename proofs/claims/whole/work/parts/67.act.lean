/-! act. -/
theorem spE_und {e1 e2 : Nat → Nat} (ok : ∀ j, j < 3 → okj (e1 j) (e2 j)) : ∀ j, j < 3 → (e1 j = 1 ∨ e1 j = spE e1 e2 j) ∧ (e2 j = 1 ∨ e2 j = spE e1 e2 j) := by
  intro j hj
  unfold spE spj
  rcases ok j hj with q | q | q
  · rw [if_pos q]; exact ⟨Or.inl q, Or.inr rfl⟩
  · by_cases z : e1 j = 1
    · rw [if_pos z]; exact ⟨Or.inl z, Or.inr rfl⟩
    · rw [if_neg z]; exact ⟨Or.inr rfl, Or.inl q⟩
  · by_cases z : e1 j = 1
    · rw [if_pos z]; exact ⟨Or.inl z, Or.inr rfl⟩
    · rw [if_neg z]; exact ⟨Or.inr rfl, Or.inr q⟩
theorem spE_60 {e1 e2 : Nat → Nat} (h1 : ∀ j, j < 3 → e1 j ≤ 60) (h2 : ∀ j, j < 3 → e2 j ≤ 60) : ∀ j, j < 3 → spE e1 e2 j ≤ 60 := by
  intro j hj
  unfold spE spj
  split
  · exact h2 j hj
  · exact h1 j hj
theorem spE_1 {e1 e2 : Nat → Nat} {r1 r2 : Nat} (h1 : ∀ j, r1 ≤ j → j < 3 → e1 j = 1) (h2 : ∀ j, r2 ≤ j → j < 3 → e2 j = 1) : ∀ j, max r1 r2 ≤ j → j < 3 → spE e1 e2 j = 1 := by
  intro j a b
  unfold spE spj
  rw [if_pos (h1 j (by omega) b), h2 j (by omega) b]
theorem sz_60 {e : Nat → Nat} (h : ∀ j, j < 3 → e j ≤ 60) : sz3 e ≤ 60 * 60 * 60 := Nat.mul_le_mul (Nat.mul_le_mul (h 0 (by omega)) (h 1 (by omega))) (h 2 (by omega))
/-- the class spreads two -/
theorem CR.spO {G : gG} {b : Nat} {A : AS} {sr : Nat} {se : Nat → Nat} {row : Nat → Int64} (c : CR G b A sr se row) (w : WF A) {i1 i2 : Nat} (h1 : i1 < A.N) (h2 : i2 < A.N) :
    ∃ G' sr' se', CR G' b A sr' se' row ∧ FC G G' b ∧ ((spF (A.ex i1) (A.ex i2) < 3 ∧ f_X5_spreadOf G b (b + 18 + 4 * i1) (b + 18 + 4 * i2) = some (nI (spF (A.ex i1) (A.ex i2)), G')) ∨
      (spF (A.ex i1) (A.ex i2) = 3 ∧ f_X5_spreadOf G b (b + 18 + 4 * i1) (b + 18 + 4 * i2) = some (-3, G') ∧ sr' = max (A.rk i1) (A.rk i2) ∧ se' = spE (A.ex i1) (A.ex i2))) := by
  have T1 := c.c i1 h1
  obtain ⟨G1, q1, q2, q3⟩ := c.sas h1
  have T2 := q2.c i2 h2
  obtain ⟨G2, sr', se', r1, r2, r3⟩ := q2.spw h2 w (w.e60 i1 h1) (w.rk3 i1 h1)
  have e : f_X5_spreadOf G b (b + 18 + 4 * i1) (b + 18 + 4 * i2) = gb2 (f_X3_spreadWith G1 (b + 6) (b + 18 + 4 * i2 + 1)) fun r6 G7 => some (r6, G7) := by
    unfold f_X5_spreadOf
    rw [cf_2 c.o, gb_some, to_1 T1.o, gb_some, gck_true (so_o c.s), q1, gb_some, cf_2 q2.o, gb_some, to_1 T2.o, gb_some, gck_true (so_o q2.s)]
  refine ⟨G2, sr', se', r1, q3.trans r2, ?_⟩
  rcases r3 with ⟨a1, a2⟩ | ⟨a1, a2, a3, a4⟩
  · exact Or.inl ⟨a1, by rw [e, a2, gb2_some]⟩
  · exact Or.inr ⟨a1, by rw [e, a2, gb2_some], a3, a4⟩
theorem nI_n3' {x : Nat} (hx : x < 2 ^ 20) : ¬ nI x = -3 := fun q => by
  have := congrArg Int32.toInt q
  rw [nI_toInt (by omega), show (-3 : Int32).toInt = -3 by decide] at this
  omega
/-- both fail, the class in a later state -/
theorem fail3' {G G1 : gG} {b n : Nat} {A : AS} {sr : Nat} {se : Nat → Nat} {row : Nat → Int64} {asd : Nat → Int64} {spr : Nat → Int32} {sd ss f15 f16 : Int32} {f : Option (Int32 × gG × Nat)} {g : gG → Option (Int32 × gG)} (w : WF A) (c : CR G1 b A sr se row) (m : MR G1 (b + 9) A asd spr sd ss f15 f16) (hn : n = b + 18 + 4 * A.N) (k p : Int32) (e1 : f = gb2 (f_X5_failed G1 b k p) fun r G' => some (r, G', n)) (e2 : ∀ G', MR G' (b + 9) A asd spr sd ss f15 f16 → ∃ G'' asd' spr' sd' ss' f15' f16', g G' = some (-10 - k, G'') ∧ MR G'' (b + 9) (A.own A.set A.mis (A.fai + 1) p) asd' spr' sd' ss' f15' f16' ∧ FM G' G'' b) : C3 b A f g := by
  obtain ⟨G2, q1, q2, q3⟩ := c.fail k p
  have m1 := m.frame q3
  obtain ⟨G3, asd', spr', sd', ss', f15', f16', r1, r2, r3⟩ := e2 G2 m1
  exact fin3 (w.own w.st _ _ _) (by rw [e1, q1, gb2_some]) m1 q2 r1 r2 r3 hn
/-- the reference fails in a later state -/
theorem MR.fl {G : gG} {b : Nat} {A : AS} {asd : Nat → Int64} {spr : Nat → Int32} {sd ss f15 f16 : Int32} (m : MR G (b + 9) A asd spr sd ss f15 f16) (k p : Int32) : ∃ G', (gb2 (f_X6_fails G (b + 9) k p) fun r G'' => some (r, G'')) = some (-10 - k, G') ∧ MR G' (b + 9) (A.own A.set A.mis (A.fai + 1) p) asd spr sd ss f15 f16 ∧ FM G G' b := by
  obtain ⟨G', q1, q2, q3⟩ := m.fail (b := b) rfl k p
  exact ⟨G', by rw [q1, gb2_some], q2, q3⟩
theorem acts_start {G : gG} {b : Nat} {A : AS} {asd : Nat → Int64} {spr : Nat → Int32} {sd ss f15 f16 : Int32} (m : MR G (b + 9) A asd spr sd ss f15 f16) (w : WF A) {i1 i2 : Nat} (h1 : i1 < A.N) (h2 : i2 < A.N) {o : Nat} (ho : o < 23) : f_X6_acts G (b + 9) (nI o) (nI i1) (nI i2) = f_X6_acts_55 5000 (g_up G (b + 9) (mob (b + 9) (nI A.N) A.set A.mis A.fai A.pla sd ss (resL o (f_X6_laneOf (nI o) (f_X6_joined (A.lane i1) (A.lane i2)))) 0)) (b + 9) (nI o) (nI i1) (nI i2) (f_X6_laneOf (nI o) (f_X6_joined (A.lane i1) (A.lane i2))) 0 := by
  have c18 : nI o < 18 ↔ o < 18 := nI_ltI (b := 18) (by omega) (by omega)
  have c21 : (21 : Int32) < nI o ↔ 21 < o := nI_ltI (a := 21) (by omega) (by omega)
  have e44 : ∀ s : Int32, f_X6_acts_44 G (b + 9) (nI o) (nI i1) (nI i2) (f_X6_laneOf (nI o) (f_X6_joined (A.lane i1) (A.lane i2))) s (b + 9) = f_X6_acts_55 5000 (g_up G (b + 9) (mob (b + 9) (nI A.N) A.set A.mis A.fai A.pla sd ss s 0)) (b + 9) (nI o) (nI i1) (nI i2) (f_X6_laneOf (nI o) (f_X6_joined (A.lane i1) (A.lane i2))) 0 := by
    intro s
    unfold f_X6_acts_44
    rw [ms_15 m.o, gb_some, ms_16 (g_up_same _ _ _), gb_some, g_up_up]
  unfold f_X6_acts f_X6_acts_42
  rw [mo_1 m.o, gb_some, m.lane w h1, gb_some, gb_some, m.lane w h2, gb_some]
  simp only [gl]
  rw [e44, e44]
  unfold resL
  by_cases d : 18 ≤ o ∧ o ≤ 21
  · rw [if_pos d, ifn c18 (by omega), ifn c21 (by omega)]
  · rw [if_neg d]
    by_cases d18 : o < 18
    · rw [ifp c18 d18]
    · rw [ifn c18 d18, ifp c21 (by omega)]
theorem call_act {G : gG} {b n : Nat} {A : AS} (h : REL G b n A) (a1 a2 a3 : Int32) : C3 b A (f_X5_act G n b a1 a2 a3) (fun G' => f_X6_act G' (b + 9) a1 a2 a3) := by
  obtain ⟨w, hn, ⟨sr, se, row, c⟩, ⟨asd, spr, sd, ss, f15, f16, m⟩⟩ := h
  have mx : MX G (b + 9) A := ⟨_, _, _, _, _, _, m⟩
  have h16 := w.n16
  have K1 : ∃ k1 : Option Nat, f_X5_known G b a2 = some k1 := by
    rcases kn w c a2 with ⟨_, _, _, k, _⟩ | ⟨k, _⟩
    · exact ⟨_, k⟩
    · exact ⟨_, k⟩
  have K2 : ∃ k2 : Option Nat, f_X5_known G b a3 = some k2 := by
    rcases kn w c a3 with ⟨_, _, _, k, _⟩ | ⟨k, _⟩
    · exact ⟨_, k⟩
    · exact ⟨_, k⟩
  rcases op_cs a1 with ⟨o, ho, rfl, o1, o2⟩ | ⟨o1, o2⟩
  · rcases kn w c a2 with ⟨i1, h1, rfl, k1, t1⟩ | ⟨k1, t1⟩
    · rcases kn w c a3 with ⟨i2, h2, rfl, k2, t2⟩ | ⟨k2, t2⟩
      · have T1 := c.c i1 h1
        have T2 := c.c i2 h2
        by_cases hN : A.N = 16
        · refine same3 (r := -2) w c m hn ?_ ?_
          · unfold f_X5_act
            rw [gck_true (cf_o c.o), k1, gb_some, gck_true (cf_o c.o), k2, gb_some]
            show (if f_X0_isAct (nI o) = 0 then _ else _) = _
            rw [o1, if_neg (by decide), gck_true (cf_o c.o), full_ok c w, gb_some, if_pos hN, if_neg (by decide)]
          · show f_X6_act _ (b + 9) (nI o) (nI i1) (nI i2) = _
            unfold f_X6_act
            rw [o2, if_neg (by decide), gck_true (mo_o m.o), t1 G mx, gb_some, if_neg (by decide), gck_true (mo_o m.o), t2 G mx, gb_some, if_neg (by decide), mo_0 m.o, gb_some, ifp (full_I w) hN]
        · obtain ⟨L, hLd⟩ : ∃ L, f_X6_laneOf (nI o) (f_X6_joined (A.lane i1) (A.lane i2)) = L := ⟨_, rfl⟩
          have tab := act_ok ho (w.ln i1 h1) (w.ln i2 h2)
          rw [hLd] at tab
          have e1 : f_X5_act G n b (nI o) (nI i1) (nI i2) = if A.gone i1 = 0 then (if A.gone i2 = 0 then (if f_X1_ofAct (nI o) (A.lane i1) (A.lane i2) = -3 then (gb2 (f_X5_failed G b 4 (-3)) fun r G' => some (r, G', n)) else gb2 (f_X5_spreadOf G b (b + 18 + 4 * i1) (b + 18 + 4 * i2)) fun r11 G12 => if r11 = -3 then (gb (g_fA G12 b 4 2) fun g13 => gck (g_isO G12 g13 2) <| gb (f_X3_size G12 g13) fun r14 => if r14 ≤ 240 then (gck (g_isO G12 b 4) <| gb2 (f_X5_rowByAct G12 b (nI o) (f_X1_ofAct (nI o) (A.lane i1) (A.lane i2)) (b + 18 + 4 * i1) (b + 18 + 4 * i2)) fun r15 G16 => if r15 = -3 then (gck (g_isO G16 b 4) <| gb3 (f_X5_madeOfRow G16 n b (f_X1_ofResult (nI o) (f_X1_ofAct (nI o) (A.lane i1) (A.lane i2)))) fun r17 G18 n19 => some (r17, G18, n19)) else (gck (g_isO G16 b 4) <| gb2 (f_X5_failed G16 b 5 r15) fun r20 G21 => some (r20, G21, n))) else (gck (g_isO G12 b 4) <| gb2 (f_X5_failed G12 b 6 (-3)) fun r22 G23 => some (r22, G23, n))) else (gck (g_isO G12 b 4) <| gb2 (f_X5_failed G12 b 6 r11) fun r24 G25 => some (r24, G25, n))) else gb2 (f_X5_failed G b 1 (-3)) fun r G' => some (r, G', n)) else gb2 (f_X5_failed G b 1 (-3)) fun r G' => some (r, G', n) := by
            unfold f_X5_act f_X5_act_59
            rw [gck_true (cf_o c.o), k1, gb_some, gck_true (cf_o c.o), k2, gb_some]
            show (if f_X0_isAct (nI o) = 0 then _ else _) = _
            rw [o1, if_neg (by decide), gck_true (cf_o c.o), full_ok c w, gb_some, if_neg hN, if_pos rfl, to_3 T1.o, gb_some, to_3 T2.o, gb_some, to_0 T1.o, gb_some, to_0 T2.o, gb_some]
            simp only [gl, gck_true (cf_o c.o)]
          have e2 : ∀ G', MX G' (b + 9) A → f_X6_act G' (b + 9) (nI o) (nI i1) (nI i2) = if A.gone i1 = 0 then (if A.gone i2 = 0 then (if L < 0 then (gb2 (f_X6_fails G' (b + 9) 4 (-3)) fun r G'' => some (r, G'')) else gb2 (f_X6_spreads G' (b + 9) (nI i1) (nI i2)) fun r9 G10 => if (0 : Int32) ≤ r9 then (gck (g_isO G10 (b + 9) 5) <| gb2 (f_X6_acts G10 (b + 9) (nI o) (nI i1) (nI i2)) fun r11 G12 => f_X6_act_111 G12 (b + 9) r11) else f_X6_act_111 G10 (b + 9) r9) else gb2 (f_X6_fails G' (b + 9) 1 (-3)) fun r G'' => some (r, G'')) else gb2 (f_X6_fails G' (b + 9) 1 (-3)) fun r G'' => some (r, G'') := by
            rintro G' ⟨_, _, _, _, _, _, mm⟩
            have il : f_X6_isLane G' (b + 9) (nI o) (nI i1) (nI i2) = some (if L < 0 then 0 else 1) := by
              unfold f_X6_isLane
              rw [mo_1 mm.o, gb_some, mm.lane w h1, gb_some, gb_some, mm.lane w h2, gb_some, hLd]
              split <;> rfl
            unfold f_X6_act f_X6_act_60
            rw [o2, if_neg (by decide), gck_true (mo_o mm.o), t1 G' ⟨_, _, _, _, _, _, mm⟩, gb_some, if_neg (by decide), gck_true (mo_o mm.o), t2 G' ⟨_, _, _, _, _, _, mm⟩, gb_some, if_neg (by decide), mo_0 mm.o, gb_some, ifn (full_I w) hN, mo_5 mm.o, gb_some, mm.gone w h1, gb_some, gb_some, mm.gone w h2, gb_some, il]
            simp only [gck_true (mo_o mm.o), gb_some]
            by_cases d : L < 0
            · simp only [if_pos d, if_true]
            · simp only [if_neg d, if_neg (show ¬ (1 : Int32) = 0 by decide)]
          by_cases g1 : A.gone i1 = 0
          · by_cases g2 : A.gone i2 = 0
            · simp only [if_pos g1, if_pos g2] at e1 e2
              rcases tab with ⟨l1, l2⟩ | ⟨l1, hL, hv⟩
              · refine fail3 w c m hn 4 (-3) (by rw [e1, if_pos l1]) (fun G' mm => ?_)
                show f_X6_act _ (b + 9) (nI o) (nI i1) (nI i2) = _
                rw [e2 _ ⟨_, _, _, _, _, _, mm⟩, if_pos l2]
              · have Ln := hL.n3
                rw [l1, if_neg Ln.1] at e1
                simp only [if_neg Ln.2] at e2
                have s60 := spE_60 (w.e60 i1 h1) (w.e60 i2 h2)
                have sM := sz_60 s60
                have c240 : nI (sz3 (spE (A.ex i1) (A.ex i2))) ≤ 240 ↔ sz3 (spE (A.ex i1) (A.ex i2)) ≤ 240 := nI_leI (b := 240) (by omega) (by omega)
                obtain ⟨G1, sr', se', c1, f1, cs⟩ := c.spO w h1 h2
                have m1 := m.frame f1
                -- the reference's spread
                have rsp : ∀ G', MR G' (b + 9) A asd spr sd ss f15 f16 → (spF (A.ex i1) (A.ex i2) < 3 → ∃ G'' spr' sd' ss', f_X6_spreads G' (b + 9) (nI i1) (nI i2) = some (-16, G'') ∧ MR G'' (b + 9) (A.own A.set A.mis (A.fai + 1) (nI (spF (A.ex i1) (A.ex i2)))) asd spr' sd' ss' f15 f16 ∧ FM G' G'' b) ∧ (spF (A.ex i1) (A.ex i2) = 3 → (sz3 (spE (A.ex i1) (A.ex i2)) ≤ 240 → ∃ G'', f_X6_spreads G' (b + 9) (nI i1) (nI i2) = some (0, G'') ∧ MR G'' (b + 9) A asd (fun j => nI (spE (A.ex i1) (A.ex i2) j)) (nI (max (A.rk i1) (A.rk i2))) (nI (sz3 (spE (A.ex i1) (A.ex i2)))) f15 f16 ∧ FM G' G'' b) ∧ (¬ sz3 (spE (A.ex i1) (A.ex i2)) ≤ 240 → ∃ G'' spr' sd' ss', f_X6_spreads G' (b + 9) (nI i1) (nI i2) = some (-16, G'') ∧ MR G'' (b + 9) (A.own A.set A.mis (A.fai + 1) (-3)) asd spr' sd' ss' f15 f16 ∧ FM G' G'' b)) := by
                  intro G' mm
                  obtain ⟨Ga, b1, b2, b3⟩ := mm.begin (b := b) rfl w h1
                  have S := b2.spw (b := b) rfl w h2 (se := A.ex i1) (sr := A.rk i1) (fun j _ => rfl) rfl (w.e60 i1 h1) (w.rk3 i1 h1) (w.e1 i1 h1)
                  have st : f_X6_spreads G' (b + 9) (nI i1) (nI i2) = gb2 (f_X6_spreadWith Ga (b + 9) (nI i2)) fun r2 G3 => if r2 < 0 then (gb (g_fI G3 (b + 9) 5 14) fun v4 => if v4 ≤ 240 then some (0, G3) else gck (g_isO G3 (b + 9) 5) <| gb2 (f_X6_fails G3 (b + 9) 6 (-3)) fun r5 G6 => some (r5, G6)) else gck (g_isO G3 (b + 9) 5) <| gb2 (f_X6_fails G3 (b + 9) 6 r2) fun r7 G8 => some (r7, G8) := by
                    unfold f_X6_spreads
                    rw [gck_true (mo_o mm.o), b1, gb_some, gck_true (mo_o b2.o)]
                  rcases S with ⟨q1, q2⟩ | ⟨q1, Gb, q2, q3, q4⟩
                  · refine ⟨fun _ => ?_, fun q => by omega⟩
                    obtain ⟨Gc, d1, d2, d3⟩ := b2.fl 6 (nI (spF (A.ex i1) (A.ex i2)))
                    refine ⟨Gc, _, _, _, ?_, d2, b3.trans d3⟩
                    rw [st, q2, gb2_some, if_neg (nI_pos (by omega)), gck_true (mo_o b2.o), d1]
                    rfl
                  · refine ⟨fun q => by omega, fun _ => ⟨fun hz => ?_, fun hz => ?_⟩⟩
                    · refine ⟨Gb, ?_, q3, b3.trans q4⟩
                      rw [st, q2, gb2_some, if_pos (by decide), mo_14 q3.o, gb_some, ifp c240 hz]
                    · obtain ⟨Gc, d1, d2, d3⟩ := q3.fl 6 (-3)
                      refine ⟨Gc, _, _, _, ?_, d2, (b3.trans q4).trans d3⟩
                      rw [st, q2, gb2_some, if_pos (by decide), mo_14 q3.o, gb_some, ifn c240 hz, gck_true (mo_o q3.o), d1]
                      rfl
                have neg111 : ∀ G' (s : Int32), ¬ (0 : Int32) ≤ s → f_X6_act_111 G' (b + 9) s = some (s, G') := fun G' s q => by
                  unfold f_X6_act_111
                  rw [if_neg q]
                rcases cs with ⟨F, cE⟩ | ⟨F, cE, rfl, rfl⟩
                · rw [cE, gb2_some, if_neg (nI_n3' (by omega)), gck_true (cf_o c1.o)] at e1
                  refine fail3' (G := G) w c1 m1 hn 6 (nI (spF (A.ex i1) (A.ex i2))) e1 (fun G' mm => ?_)
                  obtain ⟨G'', spr', sd', ss', d1, d2, d3⟩ := (rsp G' mm).1 F
                  refine ⟨G'', asd, spr', sd', ss', f15, f16, ?_, d2, d3⟩
                  show f_X6_act _ (b + 9) (nI o) (nI i1) (nI i2) = _
                  rw [e2 _ ⟨_, _, _, _, _, _, mm⟩, d1, gb2_some, if_neg (by decide), neg111 _ _ (by decide)]
                  rfl
                · rw [cE, gb2_some, if_pos rfl, cf_2 c1.o, gb_some, gck_true (so_o c1.s), c1.sh.size, gb_some] at e1
                  have rk1 := w.rk3 i1 h1
                  have rk2 := w.rk3 i2 h2
                  by_cases hz : sz3 (spE (A.ex i1) (A.ex i2)) ≤ 240
                  · rw [ifp c240 hz, gck_true (cf_o c1.o)] at e1
                    rcases spF_cs (A.ex i1) (A.ex i2) with ⟨-, ok⟩ | ⟨q, -⟩
                    · have U := spE_und ok
                      have u1 : UND A i1 (spE (A.ex i1) (A.ex i2)) := ⟨h1, fun j hj => (U j hj).1⟩
                      have u2 : UND A i2 (spE (A.ex i1) (A.ex i2)) := ⟨h2, fun j hj => (U j hj).2⟩
                      obtain ⟨fu, hfu⟩ : ∃ fu : Nat, 5000 = fu + sz3 (spE (A.ex i1) (A.ex i2)) + 1 := ⟨4999 - sz3 (spE (A.ex i1) (A.ex i2)), by omega⟩
                      have R := rba (sr := max (A.rk i1) (A.rk i2)) w s60 hz u1 u2 ho hL hv (sz3 (spE (A.ex i1) (A.ex i2))) 0 fu G1 row (by omega) c1 (fun t ht => by omega) (fun _ t ht => by omega)
                      rw [← hfu, nI_0] at R
                      have eR : f_X5_rowByAct G1 b (nI o) L (b + 18 + 4 * i1) (b + 18 + 4 * i2) = f_X5_rowByAct_15 5000 G1 b (nI o) L (b + 18 + 4 * i1) (b + 18 + 4 * i2) (nI (sz3 (spE (A.ex i1) (A.ex i2)))) (cz A i2 (spE (A.ex i1) (A.ex i2)) o L 0) 0 := by
                        unfold f_X5_rowByAct
                        rw [cf_2 c1.o, gb_some, gck_true (so_o c1.s), c1.sh.size, gb_some]
                        rfl
                      rw [eR] at e1
                      -- the reference's row
                      have mv : ∀ t, t < sz3 (spE (A.ex i1) (A.ex i2)) → (f_X6_to (A.it i1 (offU (A.ex i1) (spE (A.ex i1) (A.ex i2)) t)) (A.lane i1) L = some (opd A i1 (spE (A.ex i1) (A.ex i2)) L t) ∧ VAL L (opd A i1 (spE (A.ex i1) (A.ex i2)) L t)) ∧ (f_X6_to (A.it i2 (offU (A.ex i2) (spE (A.ex i1) (A.ex i2)) t)) (A.lane i2) L = some (opd A i2 (spE (A.ex i1) (A.ex i2)) L t) ∧ VAL L (opd A i2 (spE (A.ex i1) (A.ex i2)) L t)) := fun t ht => ⟨opd_val c1 w u1 (sz_pos (by omega)) hL t, opd_val c1 w u2 (sz_pos (by omega)) hL t⟩
                      have r2 : ∀ t, t < sz3 (spE (A.ex i1) (A.ex i2)) → ¬ byZ o L (opd A i2 (spE (A.ex i1) (A.ex i2)) L t) → refTwo (nI o) L (opd A i1 (spE (A.ex i1) (A.ex i2)) L t) (opd A i2 (spE (A.ex i1) (A.ex i2)) L t) = some (twoD o L (opd A i1 (spE (A.ex i1) (A.ex i2)) L t) (opd A i2 (spE (A.ex i1) (A.ex i2)) L t)) ∧ VAL (resL o L) (twoD o L (opd A i1 (spE (A.ex i1) (A.ex i2)) L t) (opd A i2 (spE (A.ex i1) (A.ex i2)) L t)) := fun t ht hb => by
                        obtain ⟨_, _, _, _, q4, q5⟩ := c1.twoi ho hL hv (mv t ht).1.2 (mv t ht).2.2 hb
                        exact ⟨q4, q5⟩
                      have actV : ∀ t, t < sz3 (spE (A.ex i1) (A.ex i2)) → VAL (resL o L) (actI A i1 i2 (spE (A.ex i1) (A.ex i2)) o L t) := fun t ht => by
                        rcases byZ_dec o L (opd A i2 (spE (A.ex i1) (A.ex i2)) L t) with q | q
                        · rw [actI_z q]; exact val_z (resL_ln hL)
                        · rw [actI_n q]; exact (r2 t ht q).2
                      have RR : ∀ G', MR G' (b + 9) A asd spr sd ss f15 f16 → ∃ Gs, f_X6_act G' (b + 9) (nI o) (nI i1) (nI i2) = (gb2 (f_X6_acts_55 5000 Gs (b + 9) (nI o) (nI i1) (nI i2) L 0) fun r11 G12 => f_X6_act_111 G12 (b + 9) r11) ∧ MR Gs (b + 9) A asd (fun j => nI (spE (A.ex i1) (A.ex i2) j)) (nI (max (A.rk i1) (A.rk i2))) (nI (sz3 (spE (A.ex i1) (A.ex i2)))) (resL o L) 0 ∧ FM G' Gs b := by
                        intro G' mm
                        obtain ⟨G'', d1, d2, d3⟩ := ((rsp G' mm).2 F).1 hz
                        have S := acts_start d2 w h1 h2 ho
                        rw [hLd] at S
                        refine ⟨_, ?_, d2.scr _ _ (resL o L) 0, d3.trans (FM.up (by omega))⟩
                        rw [e2 _ ⟨_, _, _, _, _, _, mm⟩, d1, gb2_some, if_pos (by decide), gck_true (mo_o d2.o), S]
                      have AL := fun (Gs : gG) (ms : MR Gs (b + 9) A asd (fun j => nI (spE (A.ex i1) (A.ex i2) j)) (nI (max (A.rk i1) (A.rk i2))) (nI (sz3 (spE (A.ex i1) (A.ex i2)))) (resL o L) 0) => acts_loop w (se := spE (A.ex i1) (A.ex i2)) (fun j _ => rfl) rfl s60 hz u1 u2 ho hL (fun t ht => (mv t ht).1.1) (fun t ht => (mv t ht).2.1) (fun t ht q => (r2 t ht q).1) (sz3 (spE (A.ex i1) (A.ex i2))) 0 fu Gs asd (by omega) ms (fun t ht => by omega) (fun _ t ht => by omega)
                      rcases R with ⟨t, ta, tb, tc, td, G2, row2, te, tf, tg⟩ | ⟨ta, G2, row2, tb, tc, td, te⟩
                      · rw [te, gb2_some, if_neg (nI_n3' (by omega)), gck_true (cf_o tf.o)] at e1
                        refine fail3' (G := G) w tf (m1.frame tg) hn 5 (nI t) e1 (fun G' mm => ?_)
                        obtain ⟨Gs, x1, x2, x3⟩ := RR G' mm
                        have A1 := AL Gs x2
                        rw [← hfu, nI_0] at A1
                        rcases A1 with ⟨t', ya, yb, yc, yd, Gq, asd', f16', ye, yf, yg⟩ | ⟨ya, -⟩
                        · have : t' = t := by
                            rcases Nat.lt_trichotomy t' t with z | z | z
                            · exact absurd yc (td t' z)
                            · exact z
                            · exact absurd tc (yd t z)
                          subst this
                          refine ⟨Gq, asd', _, _, _, _, f16', ?_, yf, x3.trans yg⟩
                          show f_X6_act _ (b + 9) (nI o) (nI i1) (nI i2) = _
                          rw [x1, ye, gb2_some, neg111 _ _ (by decide)]
                          rfl
                        · exact absurd tc (ya tb t ta)
                      · rw [tb, gb2_some, if_pos rfl, gck_true (cf_o tc.o), resL_ok ho] at e1
                        have w' := w.own (A := A) w.st (A.mis + cz A i2 (spE (A.ex i1) (A.ex i2)) o L (sz3 (spE (A.ex i1) (A.ex i2)))) A.fai A.pla
                        have m2 := m1.frame te
                        obtain ⟨G3, y1, y2, y3⟩ := tc.made (by show A.N < 16; omega) hz (resL o L)
                        have m3 := m2.frame y3
                        obtain ⟨Gs, x1, x2, x3⟩ := RR G3 m3
                        have A1 := AL Gs x2
                        rw [← hfu, nI_0] at A1
                        rcases A1 with ⟨t', ya, yb, yc, -⟩ | ⟨-, Gq, asd', f16', ye, yf, yg, yh⟩
                        · exact absurd yc (ta yb t' ya)
                        · obtain ⟨Gr, z1, z2, z3⟩ := yf.made (b := b) rfl w' (by show A.N < 16; omega) (se := spE (A.ex i1) (A.ex i2)) (sr := max (A.rk i1) (A.rk i2)) (fun j hj => rfl) rfl rfl (by omega) hz (resL o L)
                          refine fin3 (r := nI A.N) (n1 := b + 18 + 4 * (A.N + 1)) (w'.add (by show A.N < 16; omega) (resL_ln hL) (by omega) s60 (spE_1 (w.e1 i1 h1) (w.e1 i2 h2)) hz (fun j hj => by rw [td j hj]; exact actV j hj)) ?_ m3 y2 ?_ (z2.addc (fun j hj => by rw [yg j hj, td j hj])) ((x3.trans yh).trans z3) rfl
                          · rw [e1, hn]
                            have y1 : f_X5_madeOfRow G2 (b + 18 + 4 * A.N) b (resL o L) = some (nI A.N, G3, b + 18 + 4 * (A.N + 1)) := y1
                            rw [y1, gb3_some]
                          · show f_X6_act _ (b + 9) (nI o) (nI i1) (nI i2) = _
                            have z1 : f_X6_made Gq (b + 9) (resL o L) = some (nI A.N, Gr) := z1
                            rw [x1, ye, gb2_some]
                            unfold f_X6_act_111
                            rw [if_pos (by decide), mo_15 yf.o, gb_some, gck_true (mo_o yf.o), z1, gb2_some]
                    · omega
                  · rw [ifn c240 hz, gck_true (cf_o c1.o)] at e1
                    refine fail3' (G := G) w c1 m1 hn 6 (-3) e1 (fun G' mm => ?_)
                    obtain ⟨G'', spr', sd', ss', d1, d2, d3⟩ := ((rsp G' mm).2 F).2 hz
                    refine ⟨G'', asd, spr', sd', ss', f15, f16, ?_, d2, d3⟩
                    show f_X6_act _ (b + 9) (nI o) (nI i1) (nI i2) = _
                    rw [e2 _ ⟨_, _, _, _, _, _, mm⟩, d1, gb2_some, if_neg (by decide), neg111 _ _ (by decide)]
                    rfl
            · refine fail3 w c m hn 1 (-3) (by rw [e1, if_pos g1, if_neg g2]) (fun G' mm => ?_)
              show f_X6_act _ (b + 9) (nI o) (nI i1) (nI i2) = _
              rw [e2 _ ⟨_, _, _, _, _, _, mm⟩, if_pos g1, if_neg g2]
          · refine fail3 w c m hn 1 (-3) (by rw [e1, if_neg g1]) (fun G' mm => ?_)
            show f_X6_act _ (b + 9) (nI o) (nI i1) (nI i2) = _
            rw [e2 _ ⟨_, _, _, _, _, _, mm⟩, if_neg g1]
      · refine same3 (r := -1) w c m hn ?_ ?_
        · unfold f_X5_act
          rw [gck_true (cf_o c.o), k1, gb_some, gck_true (cf_o c.o), k2, gb_some]; rfl
        · show f_X6_act _ (b + 9) (nI o) (nI i1) a3 = _
          unfold f_X6_act
          rw [o2, if_neg (by decide), gck_true (mo_o m.o), t1 G mx, gb_some, if_neg (by decide), gck_true (mo_o m.o), t2 G mx, gb_some, if_pos rfl]
    · refine same3 (r := -1) w c m hn ?_ ?_
      · obtain ⟨k2, q2⟩ := K2
        unfold f_X5_act
        rw [gck_true (cf_o c.o), k1, gb_some, gck_true (cf_o c.o), q2, gb_some]; rfl
      · show f_X6_act _ (b + 9) (nI o) a2 a3 = _
        unfold f_X6_act
        rw [o2, if_neg (by decide), gck_true (mo_o m.o), t1 G mx, gb_some, if_pos rfl]
  · refine same3 (r := -1) w c m hn ?_ ?_
    · obtain ⟨k1, q1⟩ := K1
      obtain ⟨k2, q2⟩ := K2
      unfold f_X5_act
      rw [gck_true (cf_o c.o), q1, gb_some, gck_true (cf_o c.o), q2, gb_some]
      cases k1 with
      | none => rfl
      | some p =>
        cases k2 with
        | none => rfl
        | some q =>
          show (if f_X0_isAct a1 = 0 then _ else _) = _
          rw [o1, if_pos rfl]
    · show f_X6_act _ (b + 9) a1 a2 a3 = _
      unfold f_X6_act
      rw [o2, if_pos rfl]
