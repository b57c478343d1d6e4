/-! The reference's plus answers as the class's sum. -/
theorem PR_nan : PR (fun _ => some 9221120237041090560) none none := ⟨⟨_, rfl, floatBits_nan, FR_n⟩, rfl⟩
theorem PR_z {n : Int32} (hn : n = 0 ∨ n = 1) : PR (fun _ => some (sgD n 0)) (some (n, 0)) (some (n, 0)) := ⟨⟨_, rfl, floatBits_zero hn, FR_z hn⟩, rfl⟩
theorem infB4 : infB 23 127 = 255 * 2 ^ 23 := by decide
theorem infB5 : infB 52 1023 = 2047 * 2 ^ 52 := by decide
theorem PR_i {n : Int32} (hn : n = 0 ∨ n = 1) : PR (fun _ => some (sgD n (2047 * 2 ^ 52))) (some (n, infB 23 127)) (some (n, infB 52 1023)) := by
  rw [infB4, infB5]
  exact ⟨⟨_, rfl, floatBits_inf hn, FR_i hn⟩, rfl⟩
theorem isNan_nan : f_X6_isNan 9221120237041090560 = 1 := by decide
/-- what is known of a double's bits that are a number -/
def RN (a : Int64) (k : Nat) (n : Int32) (u : Nat) (D : Nat) : Prop := a = sgD n D ∧ D ≤ 2047 * 2 ^ 52 ∧ (k = 0 ∨ k = 1 ∨ k = 2) ∧ (k = 0 ↔ D = 0) ∧ (k = 2 ↔ D = 2047 * 2 ^ 52) ∧ (¬ k = 2 → uV (vM 52 (D / 2 ^ 52) (D % 2 ^ 52)) (vE 52 1023 (D / 2 ^ 52)) = u)
theorem RV.num {a : Int64} {k : Nat} {n : Int32} {u : Nat} (h : RV a k n u) : (k = 3 ∧ a = 9221120237041090560) ∨ ∃ D, RN a k n u D := by
  rcases h with ⟨rfl, rfl, rfl⟩ | ⟨rfl, D, rfl, h1, h2, h3⟩ | ⟨rfl, rfl⟩ | ⟨rfl, rfl⟩
  · exact Or.inr ⟨0, rfl, by omega, by omega, by omega, by omega, fun _ => by decide⟩
  · exact Or.inr ⟨D, rfl, by omega, by omega, by omega, by omega, fun _ => h3⟩
  · exact Or.inr ⟨2047 * 2 ^ 52, rfl, by omega, by omega, by omega, by omega, fun q => absurd rfl q⟩
  · exact Or.inl ⟨rfl, rfl⟩
theorem RN.nan {a : Int64} {k : Nat} {n : Int32} {u D : Nat} (hn : n = 0 ∨ n = 1) (h : RN a k n u D) : f_X6_isNan a = 0 := by
  obtain ⟨rfl, h1, -⟩ := h
  rw [isNan_ok hn (by omega), if_pos h1]
theorem RN.inf {a : Int64} {k : Nat} {n : Int32} {u D : Nat} (hn : n = 0 ∨ n = 1) (h : RN a k n u D) : f_X6_isInfinite a = if k = 2 then 1 else 0 := by
  obtain ⟨rfl, h1, -, -, h2, -⟩ := h
  rw [isInf_ok hn (by omega)]
  by_cases c : k = 2
  · rw [if_pos c, if_pos (h2.mp c)]
  · rw [if_neg c, if_neg (fun q => c (h2.mpr q))]
theorem RN.zero {a : Int64} {k : Nat} {n : Int32} {u D : Nat} (hn : n = 0 ∨ n = 1) (h : RN a k n u D) : f_X6_isZero a = if k = 0 then 1 else 0 := by
  obtain ⟨rfl, h1, -, h2, -, -⟩ := h
  rw [isZero_ok hn (by omega)]
  by_cases c : k = 0
  · rw [if_pos c, if_pos (h2.mp c)]
  · rw [if_neg c, if_neg (fun q => c (h2.mpr q))]
theorem sgD_inj {n1 n2 : Int32} (h1 : n1 = 0 ∨ n1 = 1) (h2 : n2 = 0 ∨ n2 = 1) {D : Nat} (hD : D < 2 ^ 63) : sgD n1 D = sgD n2 D ↔ n1 = n2 := by
  constructor
  · intro q
    have c1 := sgD_nonneg h1 hD
    have c2 := sgD_nonneg h2 hD
    rw [q] at c1
    rcases h1 with rfl | rfl <;> rcases h2 with rfl | rfl
    · rfl
    · exact absurd (c2.mp (c1.mpr rfl)) (by decide)
    · exact absurd (c1.mp (c2.mpr rfl)) (by decide)
    · rfl
  · rintro rfl; rfl
theorem plus_91 {a b : Int64} {k1 k2 : Nat} {n1 n2 : Int32} {u1 u2 D1 D2 : Nat} (hn1 : n1 = 0 ∨ n1 = 1) (hn2 : n2 = 0 ∨ n2 = 1) (v1 : RN a k1 n1 u1 D1) (v2 : RN b k2 n2 u2 D2) (i1 : ¬ k1 = 2) (i2 : ¬ k2 = 2) (hz : ¬ (k1 = 0 ∧ k2 = 0)) :
    PR (fun lane => f_X6_plus_91 a b lane) (some (sumN n1 u1 n2 u2, encU 23 127 (sumU n1 u1 n2 u2))) (some (sumN n1 u1 n2 u2, encU 52 1023 (sumU n1 u1 n2 u2))) := by
  obtain ⟨rfl, h1, -, z1, f1, g1⟩ := v1
  obtain ⟨rfl, h2, -, z2, f2, g2⟩ := v2
  have l1 : D1 < 2047 * 2 ^ 52 := by omega
  have l2 : D2 < 2047 * 2 ^ 52 := by omega
  have c := pk_lLT (a := D1) (b := D2) (by omega) (by omega)
  by_cases d : D1 < D2
  · have e : (fun lane => f_X6_plus_91 (sgD n1 D1) (sgD n2 D2) lane) = fun lane => f_X6_plus_134 (sgD n1 D1) (sgD n2 D2) lane (sgD n2 D2) (sgD n1 D1) := by
      funext lane
      unfold f_X6_plus_91 f_X6_plus_110 f_X6_plus_122
      rw [mask63 hn1 (by omega), mask63 hn2 (by omega), ifp c d, if_pos rfl, if_pos rfl]
    rw [e, sumN_comm, sumU_comm]
    exact plus_big hn2 hn1 (by omega) l2 (by omega) (Or.inr ⟨rfl, rfl⟩) (g2 i2) (g1 i1)
  · have e : (fun lane => f_X6_plus_91 (sgD n1 D1) (sgD n2 D2) lane) = fun lane => f_X6_plus_134 (sgD n1 D1) (sgD n2 D2) lane (sgD n1 D1) (sgD n2 D2) := by
      funext lane
      unfold f_X6_plus_91 f_X6_plus_110 f_X6_plus_122
      rw [mask63 hn1 (by omega), mask63 hn2 (by omega), ifn c d, if_neg (by decide), if_neg (by decide)]
    rw [e]
    exact plus_big hn1 hn2 (by omega) l1 (by omega) (Or.inl ⟨rfl, rfl⟩) (g1 i1) (g2 i2)
theorem plus_ok {a b : Int64} {k1 k2 : Nat} {n1 n2 : Int32} {u1 u2 : Nat} (hn1 : n1 = 0 ∨ n1 = 1) (hn2 : n2 = 0 ∨ n2 = 1) (v1 : RV a k1 n1 u1) (v2 : RV b k2 n2 u2) : PR (fun lane => f_X6_plus a b lane) (sumZ 23 127 k1 n1 u1 k2 n2 u2) (sumZ 52 1023 k1 n1 u1 k2 n2 u2) := by
  rcases v1.num with ⟨rfl, rfl⟩ | ⟨D1, w1⟩
  · have e : (fun lane => f_X6_plus 9221120237041090560 b lane) = fun _ => some 9221120237041090560 := by
      funext lane
      unfold f_X6_plus
      rw [isNan_nan, if_neg (by decide)]
    have hz : ∀ w b, sumZ w b 3 n1 u1 k2 n2 u2 = none := fun w b => by unfold sumZ; rw [if_pos (Or.inl rfl)]
    rw [e, hz, hz]
    exact PR_nan
  · rcases v2.num with ⟨rfl, rfl⟩ | ⟨D2, w2⟩
    · have e : (fun lane => f_X6_plus a 9221120237041090560 lane) = fun _ => some 9221120237041090560 := by
        funext lane
        unfold f_X6_plus
        rw [w1.nan hn1, if_pos rfl, isNan_nan, if_neg (by decide)]
      have hz : ∀ w b, sumZ w b k1 n1 u1 3 n2 u2 = none := fun w b => by unfold sumZ; rw [if_pos (Or.inr (Or.inl rfl))]
      rw [e, hz, hz]
      exact PR_nan
    · have N1 := w1.nan hn1
      have N2 := w2.nan hn2
      have I1 := w1.inf hn1
      have I2 := w2.inf hn2
      have Z1 := w1.zero hn1
      have Z2 := w2.zero hn2
      have k1r := w1.2.2.1
      have k2r := w2.2.2.1
      by_cases c1 : k1 = 2
      · rw [if_pos c1] at I1
        have ea : a = sgD n1 (2047 * 2 ^ 52) := by rw [w1.1, w1.2.2.2.2.1.mp c1]
        by_cases c2 : k2 = 2
        · rw [if_pos c2] at I2
          have eb : b = sgD n2 (2047 * 2 ^ 52) := by rw [w2.1, w2.2.2.2.2.1.mp c2]
          have cc := sgD_inj hn1 hn2 (D := 2047 * 2 ^ 52) (by omega)
          rw [← ea, ← eb] at cc
          by_cases c3 : n1 = n2
          · have e : (fun lane => f_X6_plus a b lane) = fun _ => some (sgD n1 (2047 * 2 ^ 52)) := by
              funext lane
              unfold f_X6_plus f_X6_plus_38 f_X6_plus_52
              rw [N1, N2, I1, I2, if_pos rfl, if_pos rfl, if_neg (by decide), if_neg (by decide), ifp cc c3, if_neg (by decide), if_neg (by decide), ea]
            have hz : ∀ w b, sumZ w b k1 n1 u1 k2 n2 u2 = some (n1, infB w b) := fun w b => by unfold sumZ; rw [if_neg (by rintro (q | q | ⟨-, -, q⟩) <;> first | omega | exact q c3), if_pos c1]
            rw [e, hz, hz]
            exact PR_i hn1
          · have e : (fun lane => f_X6_plus a b lane) = fun _ => some 9221120237041090560 := by
              funext lane
              unfold f_X6_plus
              rw [N1, N2, I1, I2, if_pos rfl, if_pos rfl, if_neg (by decide), if_neg (by decide), ifn cc c3]
            have hz : ∀ w b, sumZ w b k1 n1 u1 k2 n2 u2 = none := fun w b => by unfold sumZ; rw [if_pos (Or.inr (Or.inr ⟨c1, c2, c3⟩))]
            rw [e, hz, hz]
            exact PR_nan
        · rw [if_neg c2] at I2
          have e : (fun lane => f_X6_plus a b lane) = fun _ => some (sgD n1 (2047 * 2 ^ 52)) := by
            funext lane
            unfold f_X6_plus f_X6_plus_38 f_X6_plus_52
            rw [N1, N2, I1, I2, if_pos rfl, if_pos rfl, if_neg (by decide), if_pos rfl, if_neg (by decide), if_neg (by decide), ea]
          have hz : ∀ w b, sumZ w b k1 n1 u1 k2 n2 u2 = some (n1, infB w b) := fun w b => by unfold sumZ; rw [if_neg (by omega), if_pos c1]
          rw [e, hz, hz]
          exact PR_i hn1
      · rw [if_neg c1] at I1
        by_cases c2 : k2 = 2
        · rw [if_pos c2] at I2
          have eb : b = sgD n2 (2047 * 2 ^ 52) := by rw [w2.1, w2.2.2.2.2.1.mp c2]
          have e : (fun lane => f_X6_plus a b lane) = fun _ => some (sgD n2 (2047 * 2 ^ 52)) := by
            funext lane
            unfold f_X6_plus f_X6_plus_38 f_X6_plus_52
            rw [N1, N2, I1, I2, if_pos rfl, if_pos rfl, if_pos rfl, if_pos rfl, if_neg (by decide), if_pos rfl, eb]
          have hz : ∀ w b, sumZ w b k1 n1 u1 k2 n2 u2 = some (n2, infB w b) := fun w b => by unfold sumZ; rw [if_neg (by omega), if_neg c1, if_pos c2]
          rw [e, hz, hz]
          exact PR_i hn2
        · rw [if_neg c2] at I2
          by_cases c3 : k1 = 0 ∧ k2 = 0
          · rw [if_pos c3.1] at Z1
            rw [if_pos c3.2] at Z2
            have ea : a = sgD n1 0 := by rw [w1.1, w1.2.2.2.1.mp c3.1]
            have eb : b = sgD n2 0 := by rw [w2.1, w2.2.2.2.1.mp c3.2]
            have cc := sgD_inj hn1 hn2 (D := 0) (by omega)
            rw [← ea, ← eb] at cc
            have hz : ∀ w b, sumZ w b k1 n1 u1 k2 n2 u2 = some (if n1 = n2 then n1 else 0, 0) := fun w b => by unfold sumZ; rw [if_neg (by omega), if_neg c1, if_neg c2, if_pos c3]
            rw [hz, hz]
            by_cases c4 : n1 = n2
            · have e : (fun lane => f_X6_plus a b lane) = fun _ => some (sgD n1 0) := by
                funext lane
                unfold f_X6_plus f_X6_plus_38
                rw [N1, N2, I1, I2, Z1, Z2, if_pos rfl, if_pos rfl, if_pos rfl, if_pos rfl, if_pos rfl, if_neg (by decide), if_neg (by decide), ifp cc c4, ea]
              rw [e, if_pos c4]
              exact PR_z hn1
            · have e : (fun lane => f_X6_plus a b lane) = fun _ => some 0 := by
                funext lane
                unfold f_X6_plus f_X6_plus_38
                rw [N1, N2, I1, I2, Z1, Z2, if_pos rfl, if_pos rfl, if_pos rfl, if_pos rfl, if_pos rfl, if_neg (by decide), if_neg (by decide), ifn cc c4]
              rw [e, if_neg c4]
              exact PR_zero
          · have e : (fun lane => f_X6_plus a b lane) = fun lane => f_X6_plus_91 a b lane := by
              funext lane
              unfold f_X6_plus f_X6_plus_38
              rw [N1, N2, I1, I2, Z1, Z2, if_pos rfl, if_pos rfl, if_pos rfl, if_pos rfl, if_pos rfl]
              by_cases c4 : k1 = 0
              · rw [if_pos c4, if_neg (fun q => c3 ⟨c4, q⟩), if_neg (by decide), if_pos rfl]
              · rw [if_neg c4, if_pos rfl]
            have hz : ∀ w b, sumZ w b k1 n1 u1 k2 n2 u2 = some (sumN n1 u1 n2 u2, encU w b (sumU n1 u1 n2 u2)) := fun w b => by unfold sumZ; rw [if_neg (by omega), if_neg c1, if_neg c2, if_neg c3]
            rw [e, hz, hz]
            exact plus_91 hn1 hn2 w1 w2 c1 c2 c3
