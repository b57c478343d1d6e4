/-! The reference's rows of acts. -/
section RA
variable {b : Nat} {A : AS} {spr : Nat → Int32} {sd ss f15 : Int32}
theorem acts_step {G : gG} {asd : Nat → Int64} {f16 : Int32} (m : MR G (b + 9) A asd spr sd ss f15 f16) (w : WF A) {se : Nat → Nat} (hse : ∀ j, j < 3 → spr j = nI (se j)) (hss : ss = nI (sz3 se)) (hs : ∀ j, j < 3 → se j ≤ 60) (hS : sz3 se ≤ 240) {i1 i2 : Nat} (u1 : UND A i1 se) (u2 : UND A i2 se) {o : Nat} (ho : o < 23) {L : Int32} (hL : LN L) {j : Nat} (hj : j < sz3 se) (t1 : f_X6_to (A.it i1 (offU (A.ex i1) se j)) (A.lane i1) L = some (opd A i1 se L j)) (t2 : f_X6_to (A.it i2 (offU (A.ex i2) se j)) (A.lane i2) L = some (opd A i2 se L j)) (r2 : ¬ byZ o L (opd A i2 se L j) → refTwo (nI o) L (opd A i1 se L j) (opd A i2 se L j) = some (twoD o L (opd A i1 se L j) (opd A i2 se L j))) (fu : Nat) :
    (byZ o L (opd A i2 se L j) ∧ A.set = 0 ∧ f_X6_acts_55 (fu + 1) G (b + 9) (nI o) (nI i1) (nI i2) L (nI j) = gb2 (f_X6_fails G (b + 9) 5 (nI j)) fun r G' => some (r, G')) ∨
    (byZ o L (opd A i2 se L j) ∧ A.set = 1 ∧ ∃ G', f_X6_acts_55 (fu + 1) G (b + 9) (nI o) (nI i1) (nI i2) L (nI j) = f_X6_acts_55 fu G' (b + 9) (nI o) (nI i1) (nI i2) L (nI (j + 1)) ∧ MR G' (b + 9) A (fset asd j 0) spr sd ss f15 (f16 + 1) ∧ FM G G' b) ∨
    (¬ byZ o L (opd A i2 se L j) ∧ ∃ G', f_X6_acts_55 (fu + 1) G (b + 9) (nI o) (nI i1) (nI i2) L (nI j) = f_X6_acts_55 fu G' (b + 9) (nI o) (nI i1) (nI i2) L (nI (j + 1)) ∧ MR G' (b + 9) A (fset asd j (twoD o L (opd A i1 se L j) (opd A i2 se L j))) spr sd ss f15 f16 ∧ FM G G' b) := by
  have hs0 := sz_pos (se := se) (by omega)
  have cc : ¬ ss ≤ nI j := by
    rw [hss]
    intro q
    have := (nI_leI (a := sz3 se) (b := j) (by omega) (by omega)).mp q
    omega
  have c18 : nI o < 18 ↔ o < 18 := nI_ltI (b := 18) (by omega) (by omega)
  have c21 : (21 : Int32) < nI o ↔ 21 < o := nI_ltI (a := 21) (by omega) (by omega)
  have c4 : nI o < 4 ↔ o < 4 := nI_ltI (b := 4) (by omega) (by omega)
  have c7 : (7 : Int32) < nI o ↔ 7 < o := nI_ltI (a := 7) (by omega) (by omega)
  have start : f_X6_acts_55 (fu + 1) G (b + 9) (nI o) (nI i1) (nI i2) L (nI j) = if nI o < 18 then f_X6_acts_144 (f_X6_acts_55 fu) G (b + 9) (nI o) (nI i1) (nI i2) L (nI j) (opd A i1 se L j) (opd A i2 se L j) else if (21 : Int32) < nI o then f_X6_acts_144 (f_X6_acts_55 fu) G (b + 9) (nI o) (nI i1) (nI i2) L (nI j) (opd A i1 se L j) (opd A i2 se L j) else (gb (f_X6_holds (nI o) (opd A i1 se L j) (opd A i2 se L j) L) fun r14 => if r14 = 0 then f_X6_acts_140 (f_X6_acts_55 fu) G (b + 9) (nI o) (nI i1) (nI i2) L (nI j) 0 (nI j) (b + 9 + 7) else f_X6_acts_140 (f_X6_acts_55 fu) G (b + 9) (nI o) (nI i1) (nI i2) L (nI j) 1 (nI j) (b + 9 + 7)) := by
    rw [f_X6_acts_55, mo_14 m.o, gb_some, if_neg cc, gck_true (mo_o m.o), m.at w u1.1 hse hs hs0 u1.2 (by omega), gb_some, mo_1 m.o, gb_some, m.lane w u1.1, gb_some, t1, gb_some, gck_true (mo_o m.o), m.at w u2.1 hse hs hs0 u2.2 (by omega), gb_some, gb_some, m.lane w u2.1, gb_some, t2, gb_some, mo_7 m.o, gb_some]
  rw [start]
  by_cases hz : byZ o L (opd A i2 se L j)
  · obtain ⟨z1, z2, z3, z4⟩ := hz
    have n4 : ¬ L = 4 := fun q => z4 (Or.inl q)
    have n5 : ¬ L = 5 := fun q => z4 (Or.inr q)
    have e144 : f_X6_acts_144 (f_X6_acts_55 fu) G (b + 9) (nI o) (nI i1) (nI i2) L (nI j) (opd A i1 se L j) (opd A i2 se L j) = if A.set = 0 then (gb2 (f_X6_fails G (b + 9) 5 (nI j)) fun r G' => some (r, G')) else (gb (g_ls G (b + 9 + 7) (nI j) 0) fun G3 => gb (g_fI G3 (b + 9) 5 16) fun v4 => gb (g_sI G3 (b + 9) 5 16 (v4 + 1)) fun G5 => f_X6_acts_55 fu G5 (b + 9) (nI o) (nI i1) (nI i2) L (nI (j + 1))) := by
      unfold f_X6_acts_144 f_X6_acts_279
      simp only [gl]
      rw [if_neg n4, if_neg n5, ifn c4 (by omega), ifn c7 (by omega), if_pos z1, mo_8 m.o, gb_some, gck_true (mo_o m.o), mo_7 m.o, gb_some, nI_1]
    rw [ifp c18 (by omega), e144]
    rcases w.st with hset | hset
    · left
      exact ⟨⟨z1, z2, z3, z4⟩, hset, by rw [if_pos hset]⟩
    · right; left
      obtain ⟨G1, p1, p2, p3⟩ := m.aput (j := j) (by omega) 0
      have p4 := p2.scr sd ss f15 (f16 + 1)
      refine ⟨⟨z1, z2, z3, z4⟩, hset, _, ?_, p4, p3.trans (FM.up (by omega))⟩
      rw [if_neg (by rw [hset]; decide), p1, gb_some, mo_16 p2.o, gb_some, ms_16 p2.o, gb_some]
  · right; right
    have R := r2 hz
    obtain ⟨G1, p1, p2, p3⟩ := m.aput (j := j) (by omega) (twoD o L (opd A i1 se L j) (opd A i2 se L j))
    refine ⟨hz, G1, ?_, p2, p3⟩
    unfold refTwo at R
    have e144 : (nI o < 18 ∨ (21 : Int32) < nI o) → f_X6_acts_144 (f_X6_acts_55 fu) G (b + 9) (nI o) (nI i1) (nI i2) L (nI j) (opd A i1 se L j) (opd A i2 se L j) = f_X6_acts_55 fu G1 (b + 9) (nI o) (nI i1) (nI i2) L (nI (j + 1)) := by
      intro hop
      rw [if_pos hop] at R
      unfold f_X6_acts_144 f_X6_acts_257 f_X6_acts_279
      simp only [gl]
      rw [mo_7 m.o, gb_some, gb_some, gb_some, nI_1]
      by_cases n4 : L = 4
      · rw [if_pos n4] at R ⊢
        cases hw1 : f_X6_wide (opd A i1 se L j) with
        | none => rw [hw1] at R; cases R
        | some a =>
          rw [hw1, gb_some] at R
          rw [gb_some]
          cases hw2 : f_X6_wide (opd A i2 se L j) with
          | none => rw [hw2] at R; cases R
          | some a' =>
            rw [hw2, gb_some] at R
            rw [gb_some]
            cases hr : f_X6_reckoned (nI o) a a' 4 with
            | none => rw [hr] at R; cases R
            | some r =>
              rw [hr, gb_some] at R
              rw [gb_some, R, gb_some, p1, gb_some]
      · rw [if_neg n4] at R ⊢
        by_cases n5 : L = 5
        · rw [if_pos n5] at R ⊢
          rw [R, gb_some, p1, gb_some]
        · rw [if_neg n5] at R ⊢
          cases hr : f_X6_wholes (nI o) (opd A i1 se L j) (opd A i2 se L j) L with
          | none => rw [hr] at R; cases R
          | some r =>
            rw [hr, gb_some] at R
            have R' := Option.some.inj R
            rw [gb_some, gb_some, R', p1, gb_some]
            by_cases d4 : o < 4
            · rw [ifp c4 d4]
            · rw [ifn c4 d4]
              by_cases d7 : 7 < o
              · rw [ifp c7 d7]
              · rw [ifn c7 d7, if_neg (fun q => hz ⟨q, by omega, by omega, fun q => q.elim n4 n5⟩)]
    by_cases d18 : nI o < 18
    · rw [if_pos d18]; exact e144 (Or.inl d18)
    · rw [if_neg d18]
      by_cases d21 : (21 : Int32) < nI o
      · rw [if_pos d21]; exact e144 (Or.inr d21)
      · rw [if_neg d21]
        rw [if_neg (fun q => q.elim d18 d21)] at R
        cases hh : f_X6_holds (nI o) (opd A i1 se L j) (opd A i2 se L j) L with
        | none => rw [hh] at R; cases R
        | some r =>
          rw [hh, gb_some] at R
          have R' := Option.some.inj R
          rw [gb_some]
          unfold f_X6_acts_140 f_X6_acts_279
          simp only [gl]
          rw [nI_1]
          by_cases z : r = 0
          · rw [if_pos z] at R' ⊢
            rw [R', p1, gb_some]
          · rw [if_neg z] at R' ⊢
            rw [R', p1, gb_some]
theorem acts_loop (w : WF A) {se : Nat → Nat} (hse : ∀ j, j < 3 → spr j = nI (se j)) (hss : ss = nI (sz3 se)) (hs : ∀ j, j < 3 → se j ≤ 60) (hS : sz3 se ≤ 240) {i1 i2 : Nat} (u1 : UND A i1 se) (u2 : UND A i2 se) {o : Nat} (ho : o < 23) {L : Int32} (hL : LN L) (t1 : ∀ t, t < sz3 se → f_X6_to (A.it i1 (offU (A.ex i1) se t)) (A.lane i1) L = some (opd A i1 se L t)) (t2 : ∀ t, t < sz3 se → f_X6_to (A.it i2 (offU (A.ex i2) se t)) (A.lane i2) L = some (opd A i2 se L t)) (r2 : ∀ t, t < sz3 se → ¬ byZ o L (opd A i2 se L t) → refTwo (nI o) L (opd A i1 se L t) (opd A i2 se L t) = some (twoD o L (opd A i1 se L t) (opd A i2 se L t))) : ∀ (k j fu : Nat) (G : gG) (asd : Nat → Int64), j + k = sz3 se → MR G (b + 9) A asd spr sd ss f15 (cz A i2 se o L j) → (∀ t, t < j → asd t = actI A i1 i2 se o L t) → (A.set = 0 → ∀ t, t < j → ¬ byZ o L (opd A i2 se L t)) →
    (∃ t, t < sz3 se ∧ A.set = 0 ∧ byZ o L (opd A i2 se L t) ∧ (∀ s, s < t → ¬ byZ o L (opd A i2 se L s)) ∧ ∃ G' asd' f16', f_X6_acts_55 (fu + k + 1) G (b + 9) (nI o) (nI i1) (nI i2) L (nI j) = some (-15, G') ∧ MR G' (b + 9) (A.own A.set A.mis (A.fai + 1) (nI t)) asd' spr sd ss f15 f16' ∧ FM G G' b) ∨
    ((A.set = 0 → ∀ t, t < sz3 se → ¬ byZ o L (opd A i2 se L t)) ∧ ∃ G' asd' f16', f_X6_acts_55 (fu + k + 1) G (b + 9) (nI o) (nI i1) (nI i2) L (nI j) = some (0, G') ∧ MR G' (b + 9) (A.own A.set (A.mis + cz A i2 se o L (sz3 se)) A.fai A.pla) asd' spr sd ss f15 f16' ∧ (∀ t, t < sz3 se → asd' t = actI A i1 i2 se o L t) ∧ FM G G' b) := by
  intro k
  induction k with
  | zero =>
    intro j fu G asd hk m hq hz
    right
    have e : j = sz3 se := by omega
    subst e
    have cc : ss ≤ nI (sz3 se) := by rw [hss]; exact (nI_leI (by omega) (by omega)).mpr (Nat.le_refl _)
    refine ⟨hz, _, asd, cz A i2 se o L (sz3 se), ?_, m.own A.set (A.mis + cz A i2 se o L (sz3 se)) A.fai A.pla sd ss f15 (cz A i2 se o L (sz3 se)), hq, FM.up (by omega)⟩
    rw [Nat.add_zero, f_X6_acts_55, mo_14 m.o, gb_some, if_pos cc, mo_9 m.o, gb_some, mo_16 m.o, gb_some, ms_9 m.o, gb_some]
  | succ k ih =>
    intro j fu G asd hk m hq hz
    have hj : j < sz3 se := by omega
    rw [show fu + (k + 1) + 1 = (fu + k + 1) + 1 by omega]
    have S : (byZ o L (opd A i2 se L j) ∧ A.set = 0 ∧ f_X6_acts_55 (fu + k + 1 + 1) G (b + 9) (nI o) (nI i1) (nI i2) L (nI j) = gb2 (f_X6_fails G (b + 9) 5 (nI j)) fun r G' => some (r, G')) ∨ (byZ o L (opd A i2 se L j) ∧ A.set = 1 ∧ ∃ G', f_X6_acts_55 (fu + k + 1 + 1) G (b + 9) (nI o) (nI i1) (nI i2) L (nI j) = f_X6_acts_55 (fu + k + 1) G' (b + 9) (nI o) (nI i1) (nI i2) L (nI (j + 1)) ∧ MR G' (b + 9) A (fset asd j 0) spr sd ss f15 (cz A i2 se o L j + 1) ∧ FM G G' b) ∨ (¬ byZ o L (opd A i2 se L j) ∧ ∃ G', f_X6_acts_55 (fu + k + 1 + 1) G (b + 9) (nI o) (nI i1) (nI i2) L (nI j) = f_X6_acts_55 (fu + k + 1) G' (b + 9) (nI o) (nI i1) (nI i2) L (nI (j + 1)) ∧ MR G' (b + 9) A (fset asd j (twoD o L (opd A i1 se L j) (opd A i2 se L j))) spr sd ss f15 (cz A i2 se o L j) ∧ FM G G' b) := acts_step m w hse hss hs hS u1 u2 ho hL hj (t1 j hj) (t2 j hj) (r2 j hj) (fu + k + 1)
    rcases S with ⟨b1, b2, b3⟩ | ⟨b1, b2, G1, b3, b4, b5⟩ | ⟨b1, G1, b3, b4, b5⟩
    · obtain ⟨G1, q1, q2, q3⟩ := m.fail (b := b) rfl 5 (nI j)
      refine Or.inl ⟨j, hj, b2, b1, hz b2, G1, asd, _, ?_, q2, q3⟩
      rw [b3, q1, gb2_some]
      rfl
    · rw [b3]
      rw [← cz_z b1] at b4
      have hq' : ∀ t, t < j + 1 → fset asd j 0 t = actI A i1 i2 se o L t := by
        rw [← actI_z (i1 := i1) b1]
        exact fset_lt (g := actI A i1 i2 se o L) hq
      rcases ih (j + 1) fu G1 _ (by omega) b4 hq' (fun q => absurd (q.symm.trans b2) (by decide)) with ⟨t, a1, a2, a3, a4, G', asd', f', a5, a6, a7⟩ | ⟨a1, G', asd', f', a2, a3, a4, a5⟩
      · exact Or.inl ⟨t, a1, a2, a3, a4, G', asd', f', a5, a6, b5.trans a7⟩
      · exact Or.inr ⟨a1, G', asd', f', a2, a3, a4, b5.trans a5⟩
    · rw [b3]
      rw [← cz_n b1] at b4
      have hq' : ∀ t, t < j + 1 → fset asd j (twoD o L (opd A i1 se L j) (opd A i2 se L j)) t = actI A i1 i2 se o L t := by
        rw [← actI_n b1]
        exact fset_lt (g := actI A i1 i2 se o L) hq
      have hz' : A.set = 0 → ∀ t, t < j + 1 → ¬ byZ o L (opd A i2 se L t) := fun q t ht => by
        by_cases y : t = j
        · rw [y]; exact b1
        · exact hz q t (by omega)
      rcases ih (j + 1) fu G1 _ (by omega) b4 hq' hz' with ⟨t, a1, a2, a3, a4, G', asd', f', a5, a6, a7⟩ | ⟨a1, G', asd', f', a2, a3, a4, a5⟩
      · exact Or.inl ⟨t, a1, a2, a3, a4, G', asd', f', a5, a6, b5.trans a7⟩
      · exact Or.inr ⟨a1, G', asd', f', a2, a3, a4, b5.trans a5⟩
end RA
