/-! A new tensor of the class. -/
/-- extents set in any shape -/
theorem sfl_gen {G : gG} {s a r : Nat} {e : Nat → Nat} (h : SH G s a r e) (hne : ¬ s = a) (r' x0 x1 x2 : Nat) : ∃ G', f_X3_setFromLast G s (nI r') (nI x0) (nI x1) (nI x2) = some G' ∧ SH G' s a r' (mk3 x0 x1 x2) ∧ ∀ x, ¬ x = s → ¬ x = a → G' x = G x := by
  have hna : ¬ a = s := fun q => hne q.symm
  have h1 : SH (g_up G s (sob (nI r') a)) s a r' e := ⟨g_up_same _ _ _, h.2.frame (g_up_ne hna)⟩
  obtain ⟨c1, a1, a2⟩ := h1.2.is (i := 0) (by omega) (by omega) (nI x0)
  have h2 : SH (g_up (g_up G s (sob (nI r') a)) a c1) s a r' (fset e 0 x0) := ⟨by rw [g_up_ne hne]; exact h1.1, ⟨c1, g_up_same _ _ _, IC_fset a2⟩⟩
  obtain ⟨c2, b1, b2⟩ := h2.2.is (i := 1) (by omega) (by omega) (nI x1)
  have h3 : SH (g_up (g_up (g_up G s (sob (nI r') a)) a c1) a c2) s a r' (fset (fset e 0 x0) 1 x1) := ⟨by rw [g_up_ne hne]; exact h2.1, ⟨c2, g_up_same _ _ _, IC_fset b2⟩⟩
  obtain ⟨c3, d1, d2⟩ := h3.2.is (i := 2) (by omega) (by omega) (nI x2)
  have h4 : SH (g_up (g_up (g_up (g_up G s (sob (nI r') a)) a c1) a c2) a c3) s a r' (fset (fset (fset e 0 x0) 1 x1) 2 x2) := ⟨by rw [g_up_ne hne]; exact h3.1, ⟨c3, g_up_same _ _ _, IC_fset d2⟩⟩
  refine ⟨_, ?_, ⟨h4.1, h4.2.congr (fun j hj => ?_)⟩, fun x q1 q2 => ?_⟩
  · unfold f_X3_setFromLast
    have a1 : g_is (g_up G s (sob (nI r') a)) a 0 (nI x0) = _ := a1
    have b1 : g_is (g_up (g_up G s (sob (nI r') a)) a c1) a 1 (nI x1) = _ := b1
    have d1 : g_is (g_up (g_up (g_up G s (sob (nI r') a)) a c1) a c2) a 2 (nI x2) = _ := d1
    rw [ss_0 h.1, gb_some, so_1 h1.1, gb_some, a1, gb_some, so_1 h2.1, gb_some, b1, gb_some, so_1 h3.1, gb_some, d1, gb_some]
  · rcases lt3 hj with rfl | rfl | rfl <;> rfl
  · rw [g_up_ne q2, g_up_ne q2, g_up_ne q2, g_up_ne q1]
theorem sas_gen {G : gG} {s a r s' a' r' : Nat} {e e' : Nat → Nat} (h : SH G s a r e) (h' : SH G s' a' r' e') (hne : ¬ s = a) : ∃ G', f_X3_setAs G s s' = some G' ∧ SH G' s a r' e' ∧ ∀ x, ¬ x = s → ¬ x = a → G' x = G x := by
  obtain ⟨G', q1, q2, q3⟩ := sfl_gen h hne r' (e' 0) (e' 1) (e' 2)
  refine ⟨G', ?_, ⟨q2.1, q2.2.congr (fun j hj => ?_)⟩, q3⟩
  · unfold f_X3_setAs
    rw [so_0 h'.1, gb_some, so_1 h'.1, gb_some, h'.i0, gb_some, gb_some, h'.i1, gb_some, gb_some, h'.i2, gb_some, gck_true (so_o h.1), q1, gb_some]
  · rcases lt3 hj with rfl | rfl | rfl <;> rfl
/-- a new shape -/
theorem x3init {G : gG} {s a : Nat} (h : G s = some (.inl (2, [.int 0, .null]))) (hne : ¬ s = a) : ∃ G', f_X3_init G a s = some (G', a + 1) ∧ SH G' s a 0 (fun _ => 1) ∧ ∀ x, ¬ x = s → ¬ x = a → G' x = G x := by
  have hna : ¬ a = s := fun q => hne q.symm
  have e1 : g_sI G s 2 0 0 = some (g_up G s (.inl (2, [.int 0, .null]))) := by simp [g_sI, g_st, h]
  have i0 : IA (g_up (g_up G s (.inl (2, [.int 0, .null]))) a (.inr (.inl (3, fun _ => 0)))) a 3 (fun _ => 0) := ⟨_, g_up_same _ _ _, _, rfl, fun _ _ => rfl⟩
  obtain ⟨c1, a1, a2⟩ := i0.is (i := 0) (by omega) (by omega) 1
  have i1 : IA (g_up (g_up (g_up G s (.inl (2, [.int 0, .null]))) a (.inr (.inl (3, fun _ => 0)))) a c1) a 3 _ := ⟨c1, g_up_same _ _ _, a2⟩
  obtain ⟨c2, b1, b2⟩ := i1.is (i := 1) (by omega) (by omega) 1
  have i2 : IA (g_up (g_up (g_up (g_up G s (.inl (2, [.int 0, .null]))) a (.inr (.inl (3, fun _ => 0)))) a c1) a c2) a 3 _ := ⟨c2, g_up_same _ _ _, b2⟩
  obtain ⟨c3, d1, d2⟩ := i2.is (i := 2) (by omega) (by omega) 1
  have i3 : IA (g_up (g_up (g_up (g_up (g_up G s (.inl (2, [.int 0, .null]))) a (.inr (.inl (3, fun _ => 0)))) a c1) a c2) a c3) a 3 _ := ⟨c3, g_up_same _ _ _, d2⟩
  have hs : (g_up (g_up (g_up (g_up (g_up G s (.inl (2, [.int 0, .null]))) a (.inr (.inl (3, fun _ => 0)))) a c1) a c2) a c3) s = some (.inl (2, [.int 0, .null])) := by
    rw [g_up_ne hne, g_up_ne hne, g_up_ne hne, g_up_ne hne, g_up_same]
  have e2 : g_sA (g_up (g_up (g_up (g_up (g_up G s (.inl (2, [.int 0, .null]))) a (.inr (.inl (3, fun _ => 0)))) a c1) a c2) a c3) s 2 1 a = some (g_up (g_up (g_up (g_up (g_up (g_up G s (.inl (2, [.int 0, .null]))) a (.inr (.inl (3, fun _ => 0)))) a c1) a c2) a c3) s (sob (nI 0) a)) := by
    simp [g_sA, g_st, hs, sob, nI_0]
  refine ⟨_, ?_, ⟨g_up_same _ _ _, (i3.frame (g_up_ne hna)).congr (fun j hj => ?_)⟩, fun x q1 q2 => ?_⟩
  · unfold f_X3_init
    simp only [gl]
    have a1 : g_is (g_up (g_up G s (.inl (2, [.int 0, .null]))) a (.inr (.inl (3, fun _ => 0)))) a 0 1 = _ := a1
    have b1 : g_is (g_up (g_up (g_up G s (.inl (2, [.int 0, .null]))) a (.inr (.inl (3, fun _ => 0)))) a c1) a 1 1 = _ := b1
    have d1 : g_is (g_up (g_up (g_up (g_up G s (.inl (2, [.int 0, .null]))) a (.inr (.inl (3, fun _ => 0)))) a c1) a c2) a 2 1 = _ := d1
    rw [e1, gb_some, a1, gb_some, b1, gb_some, d1, gb_some, e2, gb_some]
  · rcases lt3 hj with rfl | rfl | rfl <;> rfl
  · rw [g_up_ne q1, g_up_ne q2, g_up_ne q2, g_up_ne q2, g_up_ne q2, g_up_ne q1]
/-- a tensor's cells made -/
theorem x4init {G : gG} {p s a r : Nat} {e : Nat → Nat} (h : G p = some (.inl (3, [.int 0, .null, .null, .int 0]))) (S : SH G s a r e) (hs : s < p) (ha : a < p) (hz : sz3 e ≤ 240) (l : Int32) :
    ∃ G', f_X4_init G (p + 1) p l s (nI (sz3 e)) = some (G', p + 4) ∧ TC G' p l r e 0 (fun _ => 0) ∧ ∀ x, x < p → G' x = G x := by
  have e0 : (g_up G (p + 1) (.inl (2, [.int 0, .null]))) (p + 1) = some (.inl (2, [.int 0, .null])) := g_up_same _ _ _
  obtain ⟨G2, q1, q2, q3⟩ := x3init e0 (a := p + 1 + 1) (by omega)
  have hp2 : G2 p = some (.inl (3, [.int 0, .null, .null, .int 0])) := by rw [q3 p (by omega) (by omega), g_up_ne (by omega)]; exact h
  have e4 : g_sA G2 p 3 1 (p + 1) = some (g_up G2 p (.inl (3, [.int 0, .ref (p + 1), .null, .int 0]))) := by simp [g_sA, g_st, hp2]
  have e5 : g_sZ (g_up G2 p (.inl (3, [.int 0, .ref (p + 1), .null, .int 0]))) p 3 3 0 = some (g_up (g_up G2 p (.inl (3, [.int 0, .ref (p + 1), .null, .int 0]))) p (.inl (3, [.int 0, .ref (p + 1), .null, .int 0]))) := by simp [g_sZ, g_st, g_up_same]
  have e6 : g_sI (g_up (g_up G2 p (.inl (3, [.int 0, .ref (p + 1), .null, .int 0]))) p (.inl (3, [.int 0, .ref (p + 1), .null, .int 0]))) p 3 0 l = some (g_up (g_up (g_up G2 p (.inl (3, [.int 0, .ref (p + 1), .null, .int 0]))) p (.inl (3, [.int 0, .ref (p + 1), .null, .int 0]))) p (.inl (3, [.int l, .ref (p + 1), .null, .int 0]))) := by simp [g_sI, g_st, g_up_same]
  have e7 : g_fA (g_up G2 p (.inl (3, [.int l, .ref (p + 1), .null, .int 0]))) p 3 1 = some (p + 1) := by simp [g_fA, g_fld, g_up_same]
  have T6 : SH (g_up G2 p (.inl (3, [.int l, .ref (p + 1), .null, .int 0]))) (p + 1) (p + 1 + 1) 0 (fun _ => 1) := ⟨by rw [g_up_ne (by omega)]; exact q2.1, q2.2.frame (g_up_ne (by omega))⟩
  have S6 : SH (g_up G2 p (.inl (3, [.int l, .ref (p + 1), .null, .int 0]))) s a r e := by
    have f : ∀ x, x < p → (g_up G2 p (.inl (3, [.int l, .ref (p + 1), .null, .int 0]))) x = G x := fun x hx => by
      rw [g_up_ne (by omega), q3 x (by omega) (by omega), g_up_ne (by omega)]
    exact ⟨by rw [f s hs]; exact S.1, S.2.frame (f a ha)⟩
  obtain ⟨G8, r1, r2, r3⟩ := sas_gen T6 S6 (by omega)
  have hp8 : G8 p = some (.inl (3, [.int l, .ref (p + 1), .null, .int 0])) := by rw [r3 p (by omega) (by omega), g_up_same]
  have hp9 : (g_up G8 (p + 3) (.inr (.inr (.inl (sz3 e, fun _ => 0))))) p = some (.inl (3, [.int l, .ref (p + 1), .null, .int 0])) := by rw [g_up_ne (by omega)]; exact hp8
  have e10 : g_sA (g_up G8 (p + 3) (.inr (.inr (.inl (sz3 e, fun _ => 0))))) p 3 2 (p + 3) = some (g_up (g_up G8 (p + 3) (.inr (.inr (.inl (sz3 e, fun _ => 0))))) p (tob p l 0)) := by simp [g_sA, g_st, hp9, tob]
  refine ⟨g_up (g_up G8 (p + 3) (.inr (.inr (.inl (sz3 e, fun _ => 0))))) p (tob p l 0), ?_, ⟨g_up_same _ _ _, ?_, ?_, ?_⟩, fun x hx => ?_⟩
  · unfold f_X4_init
    simp only [gl]
    rw [q1, gb2_some, e4, gb_some, e5, gb_some, e6, gb_some, g_up_up, g_up_up, e7, gb_some, gck_true (so_o T6.1), r1, gb_some, if_pos (nI_pos' (by omega)), nI_clamp (by omega), gck_true (by
      rw [decide_eq_true_eq]
      exact ⟨nI_pos (by omega), hz⟩), e10, gb_some]
  · rw [g_up_ne (by omega), g_up_ne (by omega)]
    exact r2.1
  · exact (r2.2.frame (g_up_ne (by omega))).frame (g_up_ne (by omega))
  · exact ⟨_, by rw [g_up_ne (by omega), g_up_same], _, rfl, fun _ _ => rfl⟩
  · rw [g_up_ne (by omega), g_up_ne (by omega), r3 x (by omega) (by omega), g_up_ne (by omega), q3 x (by omega) (by omega), g_up_ne (by omega)]
theorem CR.made {G : gG} {b : Nat} {A : AS} {sr : Nat} {se : Nat → Nat} {row : Nat → Int64} (h : CR G b A sr se row) (hN : A.N < 16) (hz : sz3 se ≤ 240) (l : Int32) :
    ∃ G', f_X5_madeOfRow G (b + 18 + 4 * A.N) b l = some (nI A.N, G', b + 18 + 4 * (A.N + 1)) ∧ CR G' b (A.add l sr se row) sr se row ∧ FC G G' b := by
  obtain ⟨p, hp⟩ : ∃ p, p = b + 18 + 4 * A.N := ⟨_, rfl⟩
  have h9 : (g_up G p (.inl (3, [.int 0, .null, .null, .int 0]))) p = some (.inl (3, [.int 0, .null, .null, .int 0])) := g_up_same _ _ _
  have S9 : SH (g_up G p (.inl (3, [.int 0, .null, .null, .int 0]))) (b + 6) (b + 7) sr se := ⟨by rw [g_up_ne (by omega)]; exact h.s, h.e.frame (g_up_ne (by omega))⟩
  obtain ⟨G11, q1, q2, q3⟩ := x4init h9 S9 (by omega) (by omega) hz l
  have f11 : ∀ x, x < p → G11 x = G x := fun x hx => by rw [q3 x hx, g_up_ne (by omega)]
  have o11 : G11 b = some (cob b (nI A.N) A.set A.mis A.fai A.pla) := by rw [f11 b (by omega)]; exact h.o
  have w11 : LA G11 (b + 8) 240 row := h.w.frame (f11 _ (by omega))
  obtain ⟨c15, d1, d2⟩ := cp_ok w11 q2.i (i := 0) (j := 0) (k := sz3 se) (by omega) (by omega) (by omega) (by omega)
  have t15 : RA (g_up G11 (p + 3) c15) (b + 1) 16 (fun i => if i < A.N then some (b + 18 + 4 * i) else none) := (h.t.frame (f11 _ (by omega))).frame (g_up_ne (by omega))
  have o15 : (g_up G11 (p + 3) c15) b = some (cob b (nI A.N) A.set A.mis A.fai A.pla) := by rw [g_up_ne (by omega)]; exact o11
  have p15 : (g_up G11 (p + 3) c15) p = some (tob p l 0) := by rw [g_up_ne (by omega)]; exact q2.o
  obtain ⟨ct, ht, gt, rfl, hgt⟩ := t15
  have e18 : g_as (g_up G11 (p + 3) c15) (b + 1) (nI A.N) p = some (g_up (g_up G11 (p + 3) c15) (b + 1) (.inr (.inr (.inr (.inr (16, va_up gt A.N (some p))))))) := by
    unfold g_as
    rw [ht]
    show (if (nI A.N < 0 ∨ 16 ≤ (nI A.N).toNatClampNeg) ∨ g_isT (g_up G11 (p + 3) c15) p = false then none else some _) = _
    have isT : g_isT (g_up G11 (p + 3) c15) p = true := by simp [g_isT, p15, tob]
    rw [if_neg, nI_clamp (by omega)]
    rintro (q | q)
    · exact nI_in hN (by omega) q
    · rw [isT] at q; cases q
  have o18 : (g_up (g_up G11 (p + 3) c15) (b + 1) (.inr (.inr (.inr (.inr (16, va_up gt A.N (some p))))))) b = some (cob b (nI A.N) A.set A.mis A.fai A.pla) := by rw [g_up_ne (by omega)]; exact o15
  refine ⟨g_up (g_up (g_up G11 (p + 3) c15) (b + 1) (.inr (.inr (.inr (.inr (16, va_up gt A.N (some p))))))) b (cob b (nI (A.N + 1)) A.set A.mis A.fai A.pla), ?_, ?_, ?_⟩
  · rw [← hp]
    unfold f_X5_madeOfRow
    simp only [gl]
    have c1 : nI 16 ≤ nI A.N ↔ 16 ≤ A.N := nI_leI (by omega) (by omega)
    have c2 : nI (sz3 se) ≤ nI 240 ↔ sz3 se ≤ 240 := nI_leI (by omega) (by omega)
    have o9 : (g_up G p (.inl (3, [.int 0, .null, .null, .int 0]))) b = some (cob b (nI A.N) A.set A.mis A.fai A.pla) := by rw [g_up_ne (by omega)]; exact h.o
    have d1 : g_cp G11 (b + 8) 0 (p + 3) 0 (nI (sz3 se)) = some (g_up G11 (p + 3) c15) := d1
    rw [cf_2 h.o, gb_some, gck_true (so_o h.s), h.sh.size, gb_some, cf_4 h.o, gb_some, if_neg (nI_pos (by omega)), gb_some, cf_0 h.o, gb_some, h.t.len, gb_some, ifn c1 (by omega), if_neg (nI_pos (by omega)), cf_3 h.o, gb_some, h.w.len, gb_some, ifp c2 hz, cf_2 o9, gb_some, q1, gb2_some, cf_3 o11, gb_some, to_2 q2.o, gb_some, d1, gb_some, cf_0 o15, gb_some, cf_4 o15, gb_some, e18, gb_some, cf_4 o18, gb_some, cz_4 o18, gb_some, nI_1, cf_4 (g_up_same _ _ _), gb_some, nI_pred]
    rw [show p + 4 = b + 18 + 4 * (A.N + 1) by omega]
  · have fr : ∀ x, ¬ x = b → ¬ x = b + 1 → ¬ x = p + 3 → x < p → (g_up (g_up (g_up G11 (p + 3) c15) (b + 1) (.inr (.inr (.inr (.inr (16, va_up gt A.N (some p))))))) b (cob b (nI (A.N + 1)) A.set A.mis A.fai A.pla)) x = G x := fun x a1 a2 a3 a4 => by
      rw [g_up_ne a1, g_up_ne a2, g_up_ne a3, f11 x a4]
    have fr2 : ∀ x, p ≤ x → ¬ x = p + 3 → (g_up (g_up (g_up G11 (p + 3) c15) (b + 1) (.inr (.inr (.inr (.inr (16, va_up gt A.N (some p))))))) b (cob b (nI (A.N + 1)) A.set A.mis A.fai A.pla)) x = G11 x := fun x a1 a2 => by
      rw [g_up_ne (by omega), g_up_ne (by omega), g_up_ne a2]
    refine ⟨g_up_same _ _ _, ?_, ?_, ?_, ?_, ?_, ?_⟩
    · refine ⟨_, by rw [g_up_ne (by omega), g_up_same], _, rfl, fun j hj => ?_⟩
      rw [add_N]
      show va_up gt A.N (some p) j = if j < A.N + 1 then some (b + 18 + 4 * j) else none
      unfold va_up
      by_cases z : j = A.N
      · rw [if_pos z, if_pos (by omega), z, hp]
      · rw [if_neg z, hgt j hj]
        show (if j < A.N then some (b + 18 + 4 * j) else none) = _
        by_cases y : j < A.N
        · rw [if_pos y, if_pos (by omega)]
        · rw [if_neg y, if_neg (by omega)]
    · exact h.a.frame (fr _ (by omega) (by omega) (by omega) (by omega)) (fr _ (by omega) (by omega) (by omega) (by omega)) (fr _ (by omega) (by omega) (by omega) (by omega)) (fr _ (by omega) (by omega) (by omega) (by omega))
    · rw [fr _ (by omega) (by omega) (by omega) (by omega)]; exact h.s
    · exact h.e.frame (fr _ (by omega) (by omega) (by omega) (by omega))
    · exact h.w.frame (fr _ (by omega) (by omega) (by omega) (by omega))
    · rw [add_N, add_lane, add_rk, add_ex, add_gone, add_it]
      intro i hi
      by_cases z : i = A.N
      · rw [z, fset_s, fset_s, fset_s, fset_s, fset_s, ← hp]
        refine ⟨by rw [fr2 p (by omega) (by omega)]; exact q2.o, by rw [fr2 _ (by omega) (by omega)]; exact q2.s, q2.e.frame (fr2 _ (by omega) (by omega)), ⟨c15, by rw [g_up_ne (by omega), g_up_ne (by omega), g_up_same], ?_⟩⟩
        obtain ⟨g, rfl, hg⟩ := d2
        refine ⟨g, rfl, fun j hj => ?_⟩
        rw [hg j hj]
        show (if 0 ≤ j ∧ j < 0 + sz3 se then row (0 + (j - 0)) else _) = row j
        rw [if_pos ⟨by omega, by omega⟩]
        exact congrArg row (by omega)
      · rw [fset_n z, fset_n z, fset_n z, fset_n z, fset_n z]
        exact (h.c i (by omega)).frame (fun x a1 a2 => fr x (by omega) (by omega) (by omega) (by omega))
  · intro x a1 a2
    rw [g_up_ne (by omega), g_up_ne (by omega), g_up_ne (by omega), f11 x (by omega)]
