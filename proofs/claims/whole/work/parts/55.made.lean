/-! A new tensor. -/
def AS.add (A : AS) (l : Int32) (r : Nat) (e : Nat → Nat) (it : Nat → Int64) : AS := mkA (A.N + 1) (fset A.lane A.N l) (fset A.rk A.N r) (fset A.ex A.N e) (fset A.gone A.N 0) (fset A.it A.N it) A.set A.mis A.fai A.pla
theorem add_N (A : AS) (l : Int32) (r : Nat) (e : Nat → Nat) (it : Nat → Int64) : (A.add l r e it).N = A.N + 1 := rfl
theorem add_lane (A : AS) (l : Int32) (r : Nat) (e : Nat → Nat) (it : Nat → Int64) : (A.add l r e it).lane = fset A.lane A.N l := rfl
theorem add_rk (A : AS) (l : Int32) (r : Nat) (e : Nat → Nat) (it : Nat → Int64) : (A.add l r e it).rk = fset A.rk A.N r := rfl
theorem add_ex (A : AS) (l : Int32) (r : Nat) (e : Nat → Nat) (it : Nat → Int64) : (A.add l r e it).ex = fset A.ex A.N e := rfl
theorem add_gone (A : AS) (l : Int32) (r : Nat) (e : Nat → Nat) (it : Nat → Int64) : (A.add l r e it).gone = fset A.gone A.N 0 := rfl
theorem add_it (A : AS) (l : Int32) (r : Nat) (e : Nat → Nat) (it : Nat → Int64) : (A.add l r e it).it = fset A.it A.N it := rfl
theorem WF.add {A : AS} (w : WF A) (hN : A.N < 16) {l : Int32} {r : Nat} {e : Nat → Nat} {it : Nat → Int64} (hl : LN l) (hr : r ≤ 3) (he : ∀ j, j < 3 → e j ≤ 60) (h1 : ∀ j, r ≤ j → j < 3 → e j = 1) (hz : sz3 e ≤ 240) (hv : ∀ j, j < sz3 e → VAL l (it j)) : WF (A.add l r e it) := by
  have cs : ∀ {i : Nat}, i < A.N + 1 → i = A.N ∨ (¬ i = A.N ∧ i < A.N) := fun h => by omega
  unfold WF
  rw [add_N, add_lane, add_rk, add_ex, add_gone, add_it]
  refine ⟨by omega, w.st, ?_, ?_, ?_, ?_, ?_, ?_, ?_⟩
  all_goals intro i hi
  all_goals rcases cs hi with rfl | ⟨z, hi'⟩
  · rw [fset_s]; exact hl
  · rw [fset_n z]; exact w.ln i hi'
  · rw [fset_s]; exact hr
  · rw [fset_n z]; exact w.rk3 i hi'
  · rw [fset_s]; exact he
  · rw [fset_n z]; exact w.e60 i hi'
  · rw [fset_s, fset_s]; exact h1
  · rw [fset_n z, fset_n z]; exact w.e1 i hi'
  · rw [fset_s]; exact Or.inl rfl
  · rw [fset_n z]; exact w.gn i hi'
  · rw [fset_s]; exact hz
  · rw [fset_n z]; exact w.sz i hi'
  · rw [fset_s, fset_s, fset_s]; exact hv
  · rw [fset_n z, fset_n z, fset_n z]; exact w.vl i hi'
/-! The reference. -/
def MH (G : gG) (m : Nat) (t st mis fai pla sd ss f15 f16 : Int32) (L1 L2 L3 L4 L5 : Nat → Int32) (L6 asd : Nat → Int64) (spr : Nat → Int32) : Prop :=
  G m = some (mob m t st mis fai pla sd ss f15 f16) ∧ IA G (m + 1) 16 L1 ∧ IA G (m + 2) 16 L2 ∧ IA G (m + 3) 48 L3 ∧ IA G (m + 4) 16 L4 ∧ ZA G (m + 5) 16 L5 ∧ LA G (m + 6) 3840 L6 ∧ LA G (m + 7) 240 asd ∧ IA G (m + 8) 3 spr
section MHS
variable {G : gG} {m b : Nat} {t st mis fai pla sd ss f15 f16 : Int32} {L1 L2 L3 L4 L5 : Nat → Int32} {L6 asd : Nat → Int64} {spr : Nat → Int32}
theorem MH.u1 (h : MH G m t st mis fai pla sd ss f15 f16 L1 L2 L3 L4 L5 L6 asd spr) {c : gC} {L : Nat → Int32} (hc : IC c 16 L) : MH (g_up G (m + 1) c) m t st mis fai pla sd ss f15 f16 L L2 L3 L4 L5 L6 asd spr := by
  obtain ⟨h0, h1, h2, h3, h4, h5, h6, h7, h8⟩ := h
  exact ⟨by rw [g_up_ne (by omega)]; exact h0, ⟨c, g_up_same _ _ _, hc⟩, h2.frame (g_up_ne (by omega)), h3.frame (g_up_ne (by omega)), h4.frame (g_up_ne (by omega)), h5.frame (g_up_ne (by omega)), h6.frame (g_up_ne (by omega)), h7.frame (g_up_ne (by omega)), h8.frame (g_up_ne (by omega))⟩
theorem MH.u2 (h : MH G m t st mis fai pla sd ss f15 f16 L1 L2 L3 L4 L5 L6 asd spr) {c : gC} {L : Nat → Int32} (hc : IC c 16 L) : MH (g_up G (m + 2) c) m t st mis fai pla sd ss f15 f16 L1 L L3 L4 L5 L6 asd spr := by
  obtain ⟨h0, h1, h2, h3, h4, h5, h6, h7, h8⟩ := h
  exact ⟨by rw [g_up_ne (by omega)]; exact h0, h1.frame (g_up_ne (by omega)), ⟨c, g_up_same _ _ _, hc⟩, h3.frame (g_up_ne (by omega)), h4.frame (g_up_ne (by omega)), h5.frame (g_up_ne (by omega)), h6.frame (g_up_ne (by omega)), h7.frame (g_up_ne (by omega)), h8.frame (g_up_ne (by omega))⟩
theorem MH.u3 (h : MH G m t st mis fai pla sd ss f15 f16 L1 L2 L3 L4 L5 L6 asd spr) {c : gC} {L : Nat → Int32} (hc : IC c 48 L) : MH (g_up G (m + 3) c) m t st mis fai pla sd ss f15 f16 L1 L2 L L4 L5 L6 asd spr := by
  obtain ⟨h0, h1, h2, h3, h4, h5, h6, h7, h8⟩ := h
  exact ⟨by rw [g_up_ne (by omega)]; exact h0, h1.frame (g_up_ne (by omega)), h2.frame (g_up_ne (by omega)), ⟨c, g_up_same _ _ _, hc⟩, h4.frame (g_up_ne (by omega)), h5.frame (g_up_ne (by omega)), h6.frame (g_up_ne (by omega)), h7.frame (g_up_ne (by omega)), h8.frame (g_up_ne (by omega))⟩
theorem MH.u4 (h : MH G m t st mis fai pla sd ss f15 f16 L1 L2 L3 L4 L5 L6 asd spr) {c : gC} {L : Nat → Int32} (hc : IC c 16 L) : MH (g_up G (m + 4) c) m t st mis fai pla sd ss f15 f16 L1 L2 L3 L L5 L6 asd spr := by
  obtain ⟨h0, h1, h2, h3, h4, h5, h6, h7, h8⟩ := h
  exact ⟨by rw [g_up_ne (by omega)]; exact h0, h1.frame (g_up_ne (by omega)), h2.frame (g_up_ne (by omega)), h3.frame (g_up_ne (by omega)), ⟨c, g_up_same _ _ _, hc⟩, h5.frame (g_up_ne (by omega)), h6.frame (g_up_ne (by omega)), h7.frame (g_up_ne (by omega)), h8.frame (g_up_ne (by omega))⟩
theorem MH.u5 (h : MH G m t st mis fai pla sd ss f15 f16 L1 L2 L3 L4 L5 L6 asd spr) {c : gC} {L : Nat → Int32} (hc : ZC c 16 L) : MH (g_up G (m + 5) c) m t st mis fai pla sd ss f15 f16 L1 L2 L3 L4 L L6 asd spr := by
  obtain ⟨h0, h1, h2, h3, h4, h5, h6, h7, h8⟩ := h
  exact ⟨by rw [g_up_ne (by omega)]; exact h0, h1.frame (g_up_ne (by omega)), h2.frame (g_up_ne (by omega)), h3.frame (g_up_ne (by omega)), h4.frame (g_up_ne (by omega)), ⟨c, g_up_same _ _ _, hc⟩, h6.frame (g_up_ne (by omega)), h7.frame (g_up_ne (by omega)), h8.frame (g_up_ne (by omega))⟩
theorem MH.u6 (h : MH G m t st mis fai pla sd ss f15 f16 L1 L2 L3 L4 L5 L6 asd spr) {c : gC} {L : Nat → Int64} (hc : LC c 3840 L) : MH (g_up G (m + 6) c) m t st mis fai pla sd ss f15 f16 L1 L2 L3 L4 L5 L asd spr := by
  obtain ⟨h0, h1, h2, h3, h4, h5, h6, h7, h8⟩ := h
  exact ⟨by rw [g_up_ne (by omega)]; exact h0, h1.frame (g_up_ne (by omega)), h2.frame (g_up_ne (by omega)), h3.frame (g_up_ne (by omega)), h4.frame (g_up_ne (by omega)), h5.frame (g_up_ne (by omega)), ⟨c, g_up_same _ _ _, hc⟩, h7.frame (g_up_ne (by omega)), h8.frame (g_up_ne (by omega))⟩
theorem MH.u0 (h : MH G m t st mis fai pla sd ss f15 f16 L1 L2 L3 L4 L5 L6 asd spr) (t' : Int32) : MH (g_up G m (mob m t' st mis fai pla sd ss f15 f16)) m t' st mis fai pla sd ss f15 f16 L1 L2 L3 L4 L5 L6 asd spr := by
  obtain ⟨h0, h1, h2, h3, h4, h5, h6, h7, h8⟩ := h
  exact ⟨g_up_same _ _ _, h1.frame (g_up_ne (by omega)), h2.frame (g_up_ne (by omega)), h3.frame (g_up_ne (by omega)), h4.frame (g_up_ne (by omega)), h5.frame (g_up_ne (by omega)), h6.frame (g_up_ne (by omega)), h7.frame (g_up_ne (by omega)), h8.frame (g_up_ne (by omega))⟩
theorem made24 (hm : m = b + 9) {N sr : Nat} (hN : N < 16) (hr : sr ≤ 3) (hsd : sd = nI sr) : ∀ (k j fu : Nat) (G : gG) (L3 : Nat → Int32), j + k = sr → MH G m t st mis fai pla sd ss f15 f16 L1 L2 L3 L4 L5 L6 asd spr →
    ∃ G' L, f_X6_made_24 (fu + k + 1) G m (nI N) (nI j) = f_X6_made_24 (fu + 1) G' m (nI N) (nI sr) ∧ MH G' m t st mis fai pla sd ss f15 f16 L1 L2 L L4 L5 L6 asd spr ∧ FM G G' b ∧ (∀ x, j ≤ x → x < sr → L (3 * N + sr - 1 - x) = spr x) ∧ (∀ x, x < 3 * N ∨ 3 * N + sr ≤ x + j → L x = L3 x) := by
  intro k
  induction k with
  | zero =>
    intro j fu G L3 hk h
    have : j = sr := by omega
    subst this
    exact ⟨G, L3, rfl, h, FM.refl _ _, fun x h1 h2 => by omega, fun x _ => rfl⟩
  | succ k ih =>
    intro j fu G L3 hk h
    have c : nI sr ≤ nI j ↔ sr ≤ j := nI_leI (by omega) (by omega)
    have e : (3 : Int32) * nI N + nI sr - 1 - nI j = nI (3 * N + sr - 1 - j) := by
      rw [show (3 : Int32) = nI 3 from rfl, show (1 : Int32) = nI 1 from rfl, pk_mul, nI_add, pk_sub (by omega), pk_sub (by omega)]
    obtain ⟨c3, a1, a2⟩ := h.2.2.2.1.is (i := 3 * N + sr - 1 - j) (by omega) (by omega) (spr j)
    obtain ⟨G', L, q1, q2, q3, q4, q5⟩ := ih (j + 1) fu _ _ (by omega) (h.u3 a2)
    refine ⟨G', L, ?_, q2, (FM.up (by omega)).trans q3, fun x h1 h2 => ?_, fun x hx => ?_⟩
    · rw [← q1, show fu + (k + 1) + 1 = (fu + k + 1) + 1 by omega, f_X6_made_24, mo_13 h.1, gb_some, hsd, ifn c (by omega), mo_3 h.1, gb_some, gb_some, mo_12 h.1, gb_some, h.2.2.2.2.2.2.2.2.il (by omega) (by omega), gb_some, e, a1, gb_some]
      simp only [gl]
      rw [nI_1]
    · by_cases z : x = j
      · rw [z, q5 _ (by omega), fset_s]
      · exact q4 x (by omega) h2
    · rw [q5 x (by omega), fset_n (by omega)]
theorem made73 (hm : m = b + 9) {N Z : Nat} (hN : N < 16) (hZ : Z ≤ 240) (hss : ss = nI Z) (ht : t = nI N) : ∀ (k j fu : Nat) (G : gG) (L6 : Nat → Int64), j + k = Z → MH G m t st mis fai pla sd ss f15 f16 L1 L2 L3 L4 L5 L6 asd spr →
    ∃ G' L, f_X6_made_73 (fu + k + 1) G m (nI N) (nI j) = some (nI N, G') ∧ MH G' m (nI (N + 1)) st mis fai pla sd ss f15 f16 L1 L2 L3 L4 L5 L asd spr ∧ FM G G' b ∧ (∀ x, j ≤ x → x < Z → L (240 * N + x) = asd x) ∧ (∀ x, x < 240 * N + j ∨ 240 * N + Z ≤ x → L x = L6 x) := by
  intro k
  induction k with
  | zero =>
    intro j fu G L6 hk h
    have : j = Z := by omega
    subst this
    have c : nI j ≤ nI j ↔ j ≤ j := nI_leI (by omega) (by omega)
    refine ⟨_, L6, ?_, h.u0 (nI (N + 1)), FM.up (by omega), fun x h1 h2 => by omega, fun x _ => rfl⟩
    rw [Nat.add_zero, f_X6_made_73, mo_14 h.1, gb_some, if_pos (show ss ≤ nI j by rw [hss]; exact c.mpr (Nat.le_refl _)), mo_0 h.1, gb_some, ms_0 h.1, gb_some, ht, nI_1]
  | succ k ih =>
    intro j fu G L6 hk h
    have c : nI Z ≤ nI j ↔ Z ≤ j := nI_leI (by omega) (by omega)
    have e : (240 : Int32) * nI N + nI j = nI (240 * N + j) := by rw [show (240 : Int32) = nI 240 from rfl, pk_mul, nI_add]
    obtain ⟨c6, a1, a2⟩ := h.2.2.2.2.2.2.1.ls (i := 240 * N + j) (by omega) (by omega) (asd j)
    obtain ⟨G', L, q1, q2, q3, q4, q5⟩ := ih (j + 1) fu _ _ (by omega) (h.u6 a2)
    refine ⟨G', L, ?_, q2, (FM.up (by omega)).trans q3, fun x h1 h2 => ?_, fun x hx => ?_⟩
    · rw [← q1, show fu + (k + 1) + 1 = (fu + k + 1) + 1 by omega, f_X6_made_73, mo_14 h.1, gb_some, hss, ifn c (by omega), mo_6 h.1, gb_some, mo_7 h.1, gb_some, h.2.2.2.2.2.2.2.1.ll (by omega) (by omega), gb_some, e, a1, gb_some]
      simp only [gl]
      rw [nI_1]
    · by_cases z : x = j
      · rw [z, q5 _ (by omega), fset_s]
      · exact q4 x (by omega) h2
    · rw [q5 x (by omega), fset_n (by omega)]
end MHS
theorem MR.mh {G : gG} {m : Nat} {A : AS} {asd : Nat → Int64} {spr : Nat → Int32} {sd ss f15 f16 : Int32} (h : MR G m A asd spr sd ss f15 f16) : ∃ L1 L2 L3 L4 L5 L6, MH G m (nI A.N) A.set A.mis A.fai A.pla sd ss f15 f16 L1 L2 L3 L4 L5 L6 asd spr ∧ MT A L1 L2 L3 L4 L5 L6 := by
  obtain ⟨L1, L2, L3, L4, L5, L6, h1, h2, h3, h4, h5, h6, h7⟩ := h.r
  exact ⟨L1, L2, L3, L4, L5, L6, ⟨h.o, h1, h2, h3, h4, h5, h6, h.w, h.s⟩, h7⟩
theorem MH.mr {G : gG} {m : Nat} {A : AS} {asd : Nat → Int64} {spr : Nat → Int32} {sd ss f15 f16 : Int32} {L1 L2 L3 L4 L5 : Nat → Int32} {L6 : Nat → Int64} (h : MH G m (nI A.N) A.set A.mis A.fai A.pla sd ss f15 f16 L1 L2 L3 L4 L5 L6 asd spr) (h7 : MT A L1 L2 L3 L4 L5 L6) : MR G m A asd spr sd ss f15 f16 := by
  obtain ⟨h0, h1, h2, h3, h4, h5, h6, hw, hs⟩ := h
  exact ⟨h0, ⟨L1, L2, L3, L4, L5, L6, h1, h2, h3, h4, h5, h6, h7⟩, hw, hs⟩
theorem MR.made {G : gG} {m b : Nat} {A : AS} {asd : Nat → Int64} {spr : Nat → Int32} {sd ss f15 f16 : Int32} (h : MR G m A asd spr sd ss f15 f16) (hm : m = b + 9) (w : WF A) (hN : A.N < 16) {se : Nat → Nat} {sr : Nat} (hse : ∀ j, j < sr → spr j = nI (se j)) (hsd : sd = nI sr) (hss : ss = nI (sz3 se)) (hr : sr ≤ 3) (hz : sz3 se ≤ 240) (l : Int32) :
    ∃ G', f_X6_made G m l = some (nI A.N, G') ∧ MR G' m (A.add l sr se asd) asd spr sd ss f15 f16 ∧ FM G G' b := by
  obtain ⟨L1, L2, L3, L4, L5, L6, H, T⟩ := h.mh
  obtain ⟨c1, a1, a2⟩ := H.2.1.is (i := A.N) (by omega) (by omega) l
  have H1 := H.u1 a2
  obtain ⟨c2, b1, b2⟩ := H1.2.2.1.is (i := A.N) (by omega) (by omega) sd
  have H2 := H1.u2 b2
  obtain ⟨fu, hfu⟩ : ∃ fu : Nat, 5000 = fu + sr + 1 := ⟨4999 - sr, by omega⟩
  obtain ⟨G3, L3', q1, q2, q3, q4, q5⟩ := made24 hm hN hr hsd sr 0 fu _ _ (by omega) H2
  rw [← hfu, nI_0] at q1
  obtain ⟨c4, d1, d2⟩ := q2.2.2.2.2.1.is (i := A.N) (by omega) (by omega) ss
  have H4 := q2.u4 d2
  obtain ⟨fu2, hfu2⟩ : ∃ fu : Nat, 5000 = fu + sz3 se + 1 := ⟨4999 - sz3 se, by omega⟩
  obtain ⟨G5, L6', r1, r2, r3, r4, r5⟩ := made73 hm hN hz hss rfl (sz3 se) 0 fu2 _ _ (by omega) H4
  rw [← hfu2, nI_0] at r1
  have MTn : MT (A.add l sr se asd) (fset L1 A.N l) (fset L2 A.N sd) L3' (fset L4 A.N ss) L5 L6' := by
    have cs : ∀ {i : Nat}, i < A.N + 1 → i = A.N ∨ (¬ i = A.N ∧ i < A.N) := fun h => by omega
    unfold MT
    rw [add_N, add_lane, add_rk, add_ex, add_gone, add_it]
    refine ⟨?_, ?_, ?_, ?_, ?_, ?_, ?_⟩
    · intro i hi
      rcases cs hi with rfl | ⟨z, hi'⟩
      · rw [fset_s, fset_s]
      · rw [fset_n z, fset_n z]; exact T.l1 i hi'
    · intro i hi
      rcases cs hi with rfl | ⟨z, hi'⟩
      · rw [fset_s, fset_s, hsd]
      · rw [fset_n z, fset_n z]; exact T.l2 i hi'
    · intro i hi
      rcases cs hi with rfl | ⟨z, hi'⟩
      · rw [fset_s, fset_s]
        intro j hj
        rw [q4 j (by omega) hj, hse j hj]
      · rw [fset_n z, fset_n z]
        intro j hj
        have := w.rk3 i hi'
        rw [q5 _ (by omega)]
        exact T.l3 i hi' j hj
    · intro i hi
      rcases cs hi with rfl | ⟨z, hi'⟩
      · rw [fset_s, fset_s, hss]
      · rw [fset_n z, fset_n z]; exact T.l4 i hi'
    · intro i hi
      rcases cs hi with rfl | ⟨z, hi'⟩
      · rw [fset_s]; exact T.g0 _ (Nat.le_refl _) hN
      · rw [fset_n z]; exact T.l5 i hi'
    · intro i hi
      rcases cs hi with rfl | ⟨z, hi'⟩
      · rw [fset_s, fset_s]
        intro j hj
        exact r4 j (by omega) hj
      · rw [fset_n z, fset_n z]
        intro j hj
        have := w.sz i hi'
        rw [r5 _ (by omega)]
        exact T.l6 i hi' j hj
    · intro i h1 h2
      exact T.g0 i (by omega) h2
  refine ⟨G5, ?_, MH.mr (A := A.add l sr se asd) r2 MTn, ((FM.up (by omega)).trans (FM.up (by omega))).trans (q3.trans ((FM.up (by omega)).trans r3))⟩
  unfold f_X6_made
  have c : nI sr ≤ nI sr ↔ sr ≤ sr := nI_leI (by omega) (by omega)
  rw [mo_0 h.o, gb_some, mo_1 h.o, gb_some, a1, gb_some, mo_2 H1.1, gb_some, mo_13 H1.1, gb_some, b1, gb_some, q1, f_X6_made_24, mo_13 q2.1, gb_some, hsd, ifp c (Nat.le_refl _), mo_4 q2.1, gb_some, mo_14 q2.1, gb_some, d1, gb_some]
  exact r1
