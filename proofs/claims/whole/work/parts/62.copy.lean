/-! copy. -/
theorem MR.put2 {G : gG} {b : Nat} {A : AS} {asd : Nat → Int64} {spr : Nat → Int32} {sd ss f15 f16 : Int32} {i : Nat} {f : Nat → Int64} (m : MR G (b + 9) (A.seti i f) asd spr sd ss f15 f16) (w : WF A) (hi : i < A.N) {j : Nat} (hj : j < sz3 (A.ex i)) (v : Int64) : ∃ G', g_ls G (b + 9 + 6) (nI (240 * i + j)) v = some G' ∧ MR G' (b + 9) (A.seti i (fset f j v)) asd spr sd ss f15 f16 ∧ FM G G' b := by
  obtain ⟨L1, L2, L3, L4, L5, L6, H, T⟩ := m.mh
  have h16 := w.n16
  have hz := w.sz i hi
  obtain ⟨c, a1, a2⟩ := H.2.2.2.2.2.2.1.ls (i := 240 * i + j) (by omega) (by omega) v
  refine ⟨g_up G (b + 9 + 6) c, a1, MH.mr (A := A.seti i (fset f j v)) (H.u6 a2) ⟨T.l1, T.l2, T.l3, T.l4, T.l5, fun k hk x hx => ?_, T.g0⟩, FM.up (by omega)⟩
  rw [seti_it]
  have hk : k < A.N := hk
  have hx : x < sz3 (A.ex k) := hx
  have hzk := w.sz k hk
  have T6 := T.l6 k hk x hx
  rw [seti_it] at T6
  by_cases z : k = i
  · subst z
    rw [fset_s] at T6 ⊢
    by_cases y : x = j
    · rw [y, fset_s, fset_s]
    · rw [fset_n (by omega), fset_n y]; exact T6
  · rw [fset_n z] at T6 ⊢
    rw [fset_n (by omega)]; exact T6
theorem MR.itc {G : gG} {m : Nat} {A : AS} {asd : Nat → Int64} {spr : Nat → Int32} {sd ss f15 f16 : Int32} {i : Nat} {f g : Nat → Int64} (h : MR G m (A.seti i f) asd spr sd ss f15 f16) (e : ∀ j, j < sz3 (A.ex i) → f j = g j) : MR G m (A.seti i g) asd spr sd ss f15 f16 := by
  obtain ⟨L1, L2, L3, L4, L5, L6, H, T⟩ := h.mh
  refine MH.mr (A := A.seti i g) H ⟨T.l1, T.l2, T.l3, T.l4, T.l5, fun k hk x hx => ?_, T.g0⟩
  have T6 := T.l6 k hk x hx
  rw [seti_it] at T6 ⊢
  by_cases z : k = i
  · subst z
    rw [fset_s] at T6 ⊢
    rw [T6, e x hx]
  · rw [fset_n z] at T6 ⊢
    exact T6
theorem MR.self {G : gG} {m : Nat} {A : AS} {asd : Nat → Int64} {spr : Nat → Int32} {sd ss f15 f16 : Int32} (h : MR G m A asd spr sd ss f15 f16) (i : Nat) : MR G m (A.seti i (A.it i)) asd spr sd ss f15 f16 := by
  obtain ⟨L1, L2, L3, L4, L5, L6, H, T⟩ := h.mh
  refine MH.mr (A := A.seti i (A.it i)) H ⟨T.l1, T.l2, T.l3, T.l4, T.l5, fun k hk x hx => ?_, T.g0⟩
  have T6 := T.l6 k hk x hx
  rw [seti_it]
  by_cases z : k = i
  · subst z
    rw [fset_s]; exact T6
  · rw [fset_n z]; exact T6
theorem ix240 (i x j : Nat) : (((240 : Int32) * nI i) + nI x) + nI j = nI (240 * i + (x + j)) := by
  rw [show (240 : Int32) = nI 240 from rfl, pk_mul, nI_add, nI_add]
  exact congrArg nI (by omega)
theorem MR.item2 {G : gG} {m : Nat} {A : AS} {asd : Nat → Int64} {spr : Nat → Int32} {sd ss f15 f16 : Int32} (h : MR G m A asd spr sd ss f15 f16) (w : WF A) {i : Nat} (hi : i < A.N) {j : Nat} (hj : j < sz3 (A.ex i)) : g_ll G (m + 6) (nI (240 * i + j)) = some (A.it i j) := by
  have := h.item w hi hj
  rw [show (240 : Int32) = nI 240 from rfl, pk_mul, nI_add] at this
  exact this
theorem cp127 {b : Nat} {A : AS} {spr : Nat → Int32} {sd ss f15 f16 : Int32} (w : WF A) {i : Nat} (hi : i < A.N) {x kk : Nat} (hx : x + kk ≤ sz3 (A.ex i)) {a3 a4 : Int32} : ∀ (k j fu : Nat) (G : gG) (asd : Nat → Int64), j + k = kk → MR G (b + 9) A asd spr sd ss f15 f16 → (∀ t, t < j → asd t = A.it i (x + t)) →
    ∃ G' asd', f_X6_copy_127 (fu + k + 1) G (b + 9) (nI i) (nI x) a3 a4 (nI kk) (nI j) = f_X6_copy_165 5000 G' (b + 9) a3 a4 (nI kk) 0 ∧ MR G' (b + 9) A asd' spr sd ss f15 f16 ∧ (∀ t, t < kk → asd' t = A.it i (x + t)) ∧ FM G G' b := by
  have hz := w.sz i hi
  intro k
  induction k with
  | zero =>
    intro j fu G asd hk h hq
    have : j = kk := by omega
    subst this
    have c : nI j ≤ nI j := (nI_leI (by omega) (by omega)).mpr (Nat.le_refl _)
    refine ⟨G, asd, ?_, h, hq, FM.refl _ _⟩
    rw [Nat.add_zero, f_X6_copy_127, if_pos c]
  | succ k ih =>
    intro j fu G asd hk h hq
    have c : nI kk ≤ nI j ↔ kk ≤ j := nI_leI (by omega) (by omega)
    obtain ⟨c7, d1, d2⟩ := h.w.ls (i := j) (by omega) (by omega) (A.it i (x + j))
    obtain ⟨G', asd', q1, q2, q3, q4⟩ := ih (j + 1) fu _ _ (by omega) (h.asd d2) (fun t ht => by
      by_cases z : t = j
      · rw [z, fset_s]
      · rw [fset_n z]; exact hq t (by omega))
    refine ⟨G', asd', ?_, q2, q3, (FM.up (by omega)).trans q4⟩
    rw [← q1, show fu + (k + 1) + 1 = (fu + k + 1) + 1 by omega, f_X6_copy_127, ifn c (by omega), mo_7 h.o, gb_some, mo_6 h.o, gb_some, ix240, h.item2 w hi (by omega), gb_some, d1, gb_some]
    simp only [gl]
    rw [nI_1]
def cpF (y : Nat) (asd it : Nat → Int64) (j : Nat) : Nat → Int64 := fun x => if y ≤ x ∧ x < y + j then asd (x - y) else it x
theorem cp165 {b : Nat} {A : AS} {asd : Nat → Int64} {spr : Nat → Int32} {sd ss f15 f16 : Int32} (w : WF A) {i : Nat} (hi : i < A.N) {y kk : Nat} (hy : y + kk ≤ sz3 (A.ex i)) : ∀ (k j fu : Nat) (G : gG), j + k = kk → MR G (b + 9) (A.seti i (cpF y asd (A.it i) j)) asd spr sd ss f15 f16 →
    ∃ G', f_X6_copy_165 (fu + k + 1) G (b + 9) (nI i) (nI y) (nI kk) (nI j) = some (nI kk, G') ∧ MR G' (b + 9) (A.seti i (cpF y asd (A.it i) kk)) asd spr sd ss f15 f16 ∧ FM G G' b := by
  have hz := w.sz i hi
  intro k
  induction k with
  | zero =>
    intro j fu G hk h
    have : j = kk := by omega
    subst this
    have c : nI j ≤ nI j := (nI_leI (by omega) (by omega)).mpr (Nat.le_refl _)
    exact ⟨G, by rw [Nat.add_zero, f_X6_copy_165, if_pos c], h, FM.refl _ _⟩
  | succ k ih =>
    intro j fu G hk h
    have c : nI kk ≤ nI j ↔ kk ≤ j := nI_leI (by omega) (by omega)
    obtain ⟨G1, d1, d2, d3⟩ := h.put2 w hi (j := y + j) (by omega) (asd j)
    obtain ⟨G', q1, q2, q3⟩ := ih (j + 1) fu G1 (by omega) (d2.itc (fun t ht => by
      unfold cpF
      by_cases z : t = y + j
      · rw [z, fset_s, if_pos ⟨by omega, by omega⟩]
        exact congrArg asd (by omega)
      · rw [fset_n z]
        by_cases q : y ≤ t ∧ t < y + j
        · rw [if_pos q, if_pos ⟨by omega, by omega⟩]
        · rw [if_neg q, if_neg (by omega)]))
    refine ⟨G', ?_, q2, d3.trans q3⟩
    rw [← q1, show fu + (k + 1) + 1 = (fu + k + 1) + 1 by omega, f_X6_copy_165, ifn c (by omega), mo_6 h.o, gb_some, mo_7 h.o, gb_some, h.w.ll (by omega) (by omega), gb_some, ix240, d1, gb_some]
    simp only [gl]
    rw [nI_1]
theorem call_copy {G : gG} {b n : Nat} {A : AS} (h : REL G b n A) (a1 a2 a3 a4 a5 : Int32) : C2 b n A (f_X5_copy G b a1 a2 a3 a4 a5) (fun G' => f_X6_copy G' (b + 9) a1 a2 a3 a4 a5) := by
  obtain ⟨w, hn, ⟨sr, se, row, c⟩, ⟨asd, spr, sd, ss, f15, f16, m⟩⟩ := h
  have mx : MX G (b + 9) A := ⟨_, _, _, _, _, _, m⟩
  rcases kn w c a1 with ⟨i1, hi1, rfl, k1, t1⟩ | ⟨k1, t1⟩
  · rcases kn w c a3 with ⟨i2, hi2, rfl, k2, t2⟩ | ⟨k2, t2⟩
    · have T1 := c.c i1 hi1
      have T2 := c.c i2 hi2
      have z1 := w.sz i1 hi1
      have z2 := w.sz i2 hi2
      have f112 : f_X5_copy_112 G b = gb2 (f_X5_failed G b 2 (-3)) fun r G' => some (r, G') := by unfold f_X5_copy_112; rw [gck_true (cf_o c.o)]
      have f116 : ∀ G', MR G' (b + 9) A asd spr sd ss f15 f16 → f_X6_copy_116 G' (b + 9) = gb2 (f_X6_fails G' (b + 9) 2 (-3)) fun r G'' => some (r, G'') := fun G' mm => by unfold f_X6_copy_116; rw [gck_true (mo_o mm.o)]
      have e1 : f_X5_copy G b (nI i1) a2 (nI i2) a4 a5 = if A.gone i1 = 0 then (if A.gone i2 = 0 then (if A.lane i1 = A.lane i2 then (if a2 < 0 then f_X5_copy_112 G b else if a4 < 0 then f_X5_copy_112 G b else if a5 < 0 then f_X5_copy_112 G b else if (nI (sz3 (A.ex i1)) - a2) < a5 then f_X5_copy_112 G b else if a5 ≤ (nI (sz3 (A.ex i2)) - a4) then (gb (g_cp G (b + 18 + 4 * i1 + 3) a2 (b + 18 + 4 * i2 + 3) a4 a5) fun G15 => some (a5, G15)) else f_X5_copy_112 G b) else gb2 (f_X5_failed G b 4 (-3)) fun r G' => some (r, G')) else gb2 (f_X5_failed G b 1 (-3)) fun r G' => some (r, G')) else gb2 (f_X5_failed G b 1 (-3)) fun r G' => some (r, G') := by
        unfold f_X5_copy f_X5_copy_42
        rw [gck_true (cf_o c.o), k1, gb_some, gck_true (cf_o c.o), k2, gb_some]
        show (gb (g_fI G (b + 18 + 4 * i1) 3 3) _) = _
        rw [to_3 T1.o, gb_some, to_3 T2.o, gb_some, to_0 T1.o, gb_some, to_0 T2.o, gb_some, to_2 T1.o, gb_some, T1.i.len, gb_some, to_2 T2.o, gb_some, T2.i.len, gb_some, gb_some, gb_some, gck_true (cf_o c.o), gck_true (cf_o c.o)]
      have e2 : ∀ G', MR G' (b + 9) A asd spr sd ss f15 f16 → f_X6_copy G' (b + 9) (nI i1) a2 (nI i2) a4 a5 = if A.gone i1 = 0 then (if A.gone i2 = 0 then (if A.lane i1 = A.lane i2 then (if a2 < 0 then f_X6_copy_116 G' (b + 9) else if a4 < 0 then f_X6_copy_116 G' (b + 9) else if a5 < 0 then f_X6_copy_116 G' (b + 9) else if Int32.toInt64 (nI (sz3 (A.ex i1))) < Int32.toInt64 a2 + Int32.toInt64 a5 then f_X6_copy_116 G' (b + 9) else if Int32.toInt64 a4 + Int32.toInt64 a5 ≤ Int32.toInt64 (nI (sz3 (A.ex i2))) then f_X6_copy_127 5000 G' (b + 9) (nI i1) a2 (nI i2) a4 a5 0 else f_X6_copy_116 G' (b + 9)) else gb2 (f_X6_fails G' (b + 9) 4 (-3)) fun r G'' => some (r, G'')) else gb2 (f_X6_fails G' (b + 9) 1 (-3)) fun r G'' => some (r, G'')) else gb2 (f_X6_fails G' (b + 9) 1 (-3)) fun r G'' => some (r, G'') := by
        intro G' mm
        unfold f_X6_copy f_X6_copy_36
        rw [gck_true (mo_o mm.o), t1 G' ⟨_, _, _, _, _, _, mm⟩, gb_some, if_neg (by decide), gck_true (mo_o mm.o), t2 G' ⟨_, _, _, _, _, _, mm⟩, gb_some, if_neg (by decide), mo_5 mm.o, gb_some, mm.gone w hi1, gb_some, gb_some, mm.gone w hi2, gb_some, mo_1 mm.o, gb_some, mm.lane w hi1, gb_some, gb_some, mm.lane w hi2, gb_some, mo_4 mm.o, gb_some, mm.size w hi1, gb_some, gb_some, mm.size w hi2, gb_some, gck_true (mo_o mm.o), gck_true (mo_o mm.o)]
      have F : (f_X5_copy G b (nI i1) a2 (nI i2) a4 a5 = f_X5_copy_112 G b) → (∀ G', MR G' (b + 9) A asd spr sd ss f15 f16 → f_X6_copy G' (b + 9) (nI i1) a2 (nI i2) a4 a5 = f_X6_copy_116 G' (b + 9)) → C2 b n A (f_X5_copy G b (nI i1) a2 (nI i2) a4 a5) (fun G' => f_X6_copy G' (b + 9) (nI i1) a2 (nI i2) a4 a5) := fun q1 q2 => fail2 w c m hn 2 (-3) (q1.trans f112) (fun G' mm => (q2 G' mm).trans (f116 G' mm))
      by_cases g1 : A.gone i1 = 0
      · by_cases g2 : A.gone i2 = 0
        · by_cases gl' : A.lane i1 = A.lane i2
          · simp only [if_pos g1, if_pos g2, if_pos gl'] at e1 e2
            by_cases n2 : a2 < 0
            · exact F (by rw [e1, if_pos n2]) (fun G' mm => by rw [e2 _ mm, if_pos n2])
            by_cases n4 : a4 < 0
            · exact F (by rw [e1, if_neg n2, if_pos n4]) (fun G' mm => by rw [e2 _ mm, if_neg n2, if_pos n4])
            by_cases n5 : a5 < 0
            · exact F (by rw [e1, if_neg n2, if_neg n4, if_pos n5]) (fun G' mm => by rw [e2 _ mm, if_neg n2, if_neg n4, if_pos n5])
            simp only [if_neg n2, if_neg n4, if_neg n5] at e1 e2
            obtain ⟨x, hx, rfl⟩ := nI_of n2
            obtain ⟨y, hy, rfl⟩ := nI_of n4
            obtain ⟨kk, hkk, rfl⟩ := nI_of n5
            have ca : (nI (sz3 (A.ex i1)) - nI x) < nI kk ↔ sz3 (A.ex i1) < x + kk := by
              rw [nI_jI, nI_jI, nI_jI, jI_sub, jI_lt (by omega) (by omega)]
              omega
            have cb : Int32.toInt64 (nI (sz3 (A.ex i1))) < Int32.toInt64 (nI x) + Int32.toInt64 (nI kk) ↔ sz3 (A.ex i1) < x + kk := by
              rw [nI_l (by omega), nI_l hx, nI_l hkk, lN_add, pk_lLT (by omega) (by omega)]
            have cc : nI kk ≤ (nI (sz3 (A.ex i2)) - nI y) ↔ y + kk ≤ sz3 (A.ex i2) := by
              rw [nI_jI, nI_jI, nI_jI, jI_sub, jI_le (by omega) (by omega)]
              omega
            have cd : Int32.toInt64 (nI y) + Int32.toInt64 (nI kk) ≤ Int32.toInt64 (nI (sz3 (A.ex i2))) ↔ y + kk ≤ sz3 (A.ex i2) := by
              rw [nI_l hy, nI_l hkk, nI_l (show sz3 (A.ex i2) < 2 ^ 31 by omega), lN_add, pk_lLE (by omega) (by omega)]
            by_cases d1 : sz3 (A.ex i1) < x + kk
            · exact F (by rw [e1, ifp ca d1]) (fun G' mm => by rw [e2 _ mm, ifp cb d1])
            by_cases d2 : y + kk ≤ sz3 (A.ex i2)
            · obtain ⟨ce, q1, q2⟩ := cp_ok T1.i T2.i (i := x) (j := y) (k := kk) (by omega) (by omega) (by omega) (by omega)
              have fc : FC G (g_up G (b + 18 + 4 * i2 + 3) ce) b := FC.up (by omega)
              have m1 := m.frame fc
              obtain ⟨fu, hfu⟩ : ∃ fu : Nat, 5000 = fu + kk + 1 := ⟨4999 - kk, by omega⟩
              obtain ⟨G2, asd', s1, s2, s3, s4⟩ := cp127 w hi1 (x := x) (kk := kk) (by omega) (a3 := nI i2) (a4 := nI y) kk 0 fu _ _ (by omega) m1 (fun t ht => by omega)
              obtain ⟨G3, u1, u2, u3⟩ := cp165 w hi2 (y := y) (kk := kk) d2 kk 0 fu G2 (by omega) ((s2.self i2).itc (fun t ht => by unfold cpF; rw [if_neg (by omega)]))
              rw [← hfu, nI_0] at s1 u1
              have itE : ∀ t, t < sz3 (A.ex i2) → cpF y asd' (A.it i2) kk t = if y ≤ t ∧ t < y + kk then A.it i1 (x + (t - y)) else A.it i2 t := fun t ht => by
                unfold cpF
                by_cases q : y ≤ t ∧ t < y + kk
                · rw [if_pos q, if_pos q, s3 _ (by omega)]
                · rw [if_neg q, if_neg q]
              refine fin2 (r := nI kk) (w.seti (i := i2) (it := fun t => if y ≤ t ∧ t < y + kk then A.it i1 (x + (t - y)) else A.it i2 t) (fun t ht => ?_)) ?_ m1 (c.items hi2 q2) ?_ (u2.itc itE) (s4.trans u3) hn
              · show VAL (A.lane i2) (if y ≤ t ∧ t < y + kk then A.it i1 (x + (t - y)) else A.it i2 t)
                by_cases q : y ≤ t ∧ t < y + kk
                · rw [if_pos q, ← gl']; exact w.vl i1 hi1 _ (by omega)
                · rw [if_neg q]; exact w.vl i2 hi2 _ ht
              · rw [e1, ifn ca d1, ifp cc d2, q1, gb_some]
              · show f_X6_copy _ (b + 9) (nI i1) (nI x) (nI i2) (nI y) (nI kk) = _
                rw [e2 _ m1, ifn cb d1, ifp cd d2, s1, u1]
            · exact F (by rw [e1, ifn ca d1, ifn cc d2]) (fun G' mm => by rw [e2 _ mm, ifn cb d1, ifn cd d2])
          · refine fail2 w c m hn 4 (-3) (by rw [e1, if_pos g1, if_pos g2, if_neg gl']) (fun G' mm => ?_)
            show f_X6_copy _ (b + 9) (nI i1) a2 (nI i2) a4 a5 = _
            rw [e2 _ mm, if_pos g1, if_pos g2, if_neg gl']
        · refine fail2 w c m hn 1 (-3) (by rw [e1, if_pos g1, if_neg g2]) (fun G' mm => ?_)
          show f_X6_copy _ (b + 9) (nI i1) a2 (nI i2) a4 a5 = _
          rw [e2 _ mm, if_pos g1, if_neg g2]
      · refine fail2 w c m hn 1 (-3) (by rw [e1, if_neg g1]) (fun G' mm => ?_)
        show f_X6_copy _ (b + 9) (nI i1) a2 (nI i2) a4 a5 = _
        rw [e2 _ mm, if_neg g1]
    · refine same2 (r := -1) w c m hn ?_ ?_
      · unfold f_X5_copy
        rw [gck_true (cf_o c.o), k1, gb_some, gck_true (cf_o c.o), k2, gb_some]; rfl
      · show f_X6_copy _ (b + 9) (nI i1) a2 a3 a4 a5 = _
        unfold f_X6_copy
        rw [gck_true (mo_o m.o), t1 G mx, gb_some, if_neg (by decide), gck_true (mo_o m.o), t2 G mx, gb_some, if_pos rfl]
  · refine same2 (r := -1) w c m hn ?_ ?_
    · unfold f_X5_copy
      rw [gck_true (cf_o c.o), k1, gb_some, gck_true (cf_o c.o)]
      rcases kn w c a3 with ⟨i2, _, _, k2, _⟩ | ⟨k2, _⟩
      · rw [k2, gb_some]; rfl
      · rw [k2, gb_some]; rfl
    · show f_X6_copy _ (b + 9) a1 a2 a3 a4 a5 = _
      unfold f_X6_copy
      rw [gck_true (mo_o m.o), t1 G mx, gb_some, if_pos rfl]
