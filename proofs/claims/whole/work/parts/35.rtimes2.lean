/-! The reference's times, of all kinds. -/
theorem times_ex (a b : Int64) : ∃ s, ∀ lane, f_X6_times a b lane = f_X6_times_30 a b lane s := by
  unfold f_X6_times f_X6_times_11 f_X6_times_22
  by_cases c1 : (0 : Int64) ≤ a <;> by_cases c2 : (0 : Int64) ≤ b
  · exact ⟨0, fun lane => by rw [if_pos c1, if_pos c2, if_pos rfl]⟩
  · exact ⟨1, fun lane => by rw [if_pos c1, if_neg c2, if_neg (by decide)]⟩
  · exact ⟨1, fun lane => by rw [if_neg c1, if_pos c2, if_neg (by decide)]⟩
  · exact ⟨0, fun lane => by rw [if_neg c1, if_neg c2, if_pos rfl]⟩
theorem times_sg {a b : Int64} {n1 n2 : Int32} (h1 : n1 = 0 ∨ n1 = 1) (h2 : n2 = 0 ∨ n2 = 1) (s1 : (0 : Int64) ≤ a ↔ n1 = 0) (s2 : (0 : Int64) ≤ b ↔ n2 = 0) (lane : Int32) : f_X6_times a b lane = f_X6_times_30 a b lane (sgnP n1 n2) := by
  unfold f_X6_times f_X6_times_11 f_X6_times_22 sgnP
  rcases h1 with rfl | rfl <;> rcases h2 with rfl | rfl
  · rw [ifp s1 rfl, ifp s2 rfl, if_pos rfl, if_pos rfl]
  · rw [ifp s1 rfl, ifn s2 (by decide), if_neg (by decide), if_neg (by decide)]
  · rw [ifn s1 (by decide), ifp s2 rfl, if_neg (by decide), if_neg (by decide)]
  · rw [ifn s1 (by decide), ifn s2 (by decide), if_pos rfl, if_pos rfl]
theorem RN.sg {a : Int64} {k : Nat} {n : Int32} {u D : Nat} (hn : n = 0 ∨ n = 1) (h : RN a k n u D) : (0 : Int64) ≤ a ↔ n = 0 := by
  obtain ⟨rfl, h1, -⟩ := h
  exact sgD_nonneg hn (by omega)
/-- a finite one's parts -/
theorem RN.fin {a : Int64} {k : Nat} {n : Int32} {u D : Nat} (hn : n = 0 ∨ n = 1) (h : RN a k n u D) (k0 : ¬ k = 0) (k2 : ¬ k = 2) : ∃ M e, f_X6_mantissa a = lN M ∧ f_X6_exponent a = jI e ∧ 0 < M ∧ M < 2 ^ 53 ∧ -1074 ≤ e ∧ e ≤ 971 ∧ uV M e = u := by
  obtain ⟨rfl, h1, -, h2, h3, h4⟩ := h
  have hD : D < 2 ^ 63 := by omega
  have h0 : 0 < D := by omega
  refine ⟨_, _, mant_ok hn hD, exp_ok hn hD, vM_pos h0, vM_lt, (vE_bd hD).1, ?_, h4 k2⟩
  unfold vE
  omega
theorem sg_D (n : Int32) : f_X6_signed n (0 : Int64) = sgD n 0 := rfl
theorem sg_I (n : Int32) : f_X6_signed n (9218868437227405312 : Int64) = sgD n (2047 * 2 ^ 52) := by
  rw [show (9218868437227405312 : Int64) = lN (2047 * 2 ^ 52) from by decide]; rfl
theorem times_ok {a b : Int64} {k1 k2 : Nat} {n1 n2 : Int32} {u1 u2 : Nat} (hn1 : n1 = 0 ∨ n1 = 1) (hn2 : n2 = 0 ∨ n2 = 1) (v1 : RV a k1 n1 u1) (v2 : RV b k2 n2 u2) : PR (fun lane => f_X6_times a b lane) (prodZ 23 127 k1 n1 u1 k2 n2 u2) (prodZ 52 1023 k1 n1 u1 k2 n2 u2) := by
  rcases v1.num with ⟨rfl, rfl⟩ | ⟨D1, w1⟩
  · obtain ⟨s, hs⟩ := times_ex 9221120237041090560 b
    have e : (fun lane => f_X6_times 9221120237041090560 b lane) = fun _ => some 9221120237041090560 := by
      funext lane
      rw [hs]
      unfold f_X6_times_30
      rw [isNan_nan, if_neg (by decide)]
    have hz : ∀ w b, prodZ w b 3 n1 u1 k2 n2 u2 = none := fun w b => by unfold prodZ; rw [if_pos (Or.inl rfl)]
    rw [e, hz, hz]
    exact PR_nan
  · rcases v2.num with ⟨rfl, rfl⟩ | ⟨D2, w2⟩
    · obtain ⟨s, hs⟩ := times_ex a 9221120237041090560
      have e : (fun lane => f_X6_times a 9221120237041090560 lane) = fun _ => some 9221120237041090560 := by
        funext lane
        rw [hs]
        unfold f_X6_times_30
        rw [w1.nan hn1, if_pos rfl, isNan_nan, if_neg (by decide)]
      have hz : ∀ w b, prodZ w b k1 n1 u1 3 n2 u2 = none := fun w b => by unfold prodZ; rw [if_pos (Or.inr (Or.inl rfl))]
      rw [e, hz, hz]
      exact PR_nan
    · have N1 := w1.nan hn1
      have N2 := w2.nan hn2
      have I1 := w1.inf hn1
      have I2 := w2.inf hn2
      have Z1 := w1.zero hn1
      have Z2 := w2.zero hn2
      have k1r := w1.2.2.1
      have k2r := w2.2.2.1
      have hsg : (fun lane => f_X6_times a b lane) = fun lane => f_X6_times_30 a b lane (sgnP n1 n2) := funext (times_sg hn1 hn2 (w1.sg hn1) (w2.sg hn2))
      rw [hsg]
      have hb := sgnP_b n1 n2
      generalize hS : sgnP n1 n2 = S at *
      have h78 : ∀ (c1 : ¬ (k1 = 2 ∧ k2 = 0)) (c2 : ¬ (k1 = 0 ∧ k2 = 2)), (fun lane => f_X6_times_30 a b lane S) = fun lane => f_X6_times_78 a b lane S := by
        intro c1 c2
        funext lane
        unfold f_X6_times_30 f_X6_times_60
        rw [N1, N2, I1, I2, Z1, Z2]
        rcases k1r with rfl | rfl | rfl <;> rcases k2r with rfl | rfl | rfl <;> first | (exact absurd ⟨rfl, rfl⟩ c1) | (exact absurd ⟨rfl, rfl⟩ c2) | simp (decide := true) only [if_true, if_false]
      by_cases c1 : k1 = 2 ∧ k2 = 0
      · have e : (fun lane => f_X6_times_30 a b lane S) = fun _ => some 9221120237041090560 := by
          funext lane
          unfold f_X6_times_30
          rw [N1, N2, I1, Z2, c1.1, c1.2]
          simp (decide := true) only [if_true, if_false]
        have hz : ∀ w b, prodZ w b k1 n1 u1 k2 n2 u2 = none := fun w b => by unfold prodZ; rw [if_pos (by omega)]
        rw [e, hz, hz]
        exact PR_nan
      · by_cases c2 : k1 = 0 ∧ k2 = 2
        · have e : (fun lane => f_X6_times_30 a b lane S) = fun _ => some 9221120237041090560 := by
            funext lane
            unfold f_X6_times_30 f_X6_times_60
            rw [N1, N2, I1, I2, Z1, c2.1, c2.2]
            simp (decide := true) only [if_true, if_false]
          have hz : ∀ w b, prodZ w b k1 n1 u1 k2 n2 u2 = none := fun w b => by unfold prodZ; rw [if_pos (by omega)]
          rw [e, hz, hz]
          exact PR_nan
        · rw [h78 c1 c2]
          by_cases c3 : k1 = 2 ∨ k2 = 2
          · have e : (fun lane => f_X6_times_78 a b lane S) = fun _ => some (sgD S (2047 * 2 ^ 52)) := by
              funext lane
              unfold f_X6_times_78 f_X6_times_92
              rw [I1, I2, sg_I]
              rcases k1r with rfl | rfl | rfl <;> rcases k2r with rfl | rfl | rfl <;> first | omega | simp (decide := true) only [if_true, if_false]
            have hz : ∀ w b, prodZ w b k1 n1 u1 k2 n2 u2 = some (S, infB w b) := fun w b => by unfold prodZ; rw [if_neg (by omega), if_pos c3, hS]
            rw [e, hz, hz]
            exact PR_i hb
          · by_cases c4 : k1 = 0 ∨ k2 = 0
            · have e : (fun lane => f_X6_times_78 a b lane S) = fun _ => some (sgD S 0) := by
                funext lane
                unfold f_X6_times_78 f_X6_times_115
                rw [I1, I2, Z1, Z2, sg_D]
                rcases k1r with rfl | rfl | rfl <;> rcases k2r with rfl | rfl | rfl <;> first | omega | simp (decide := true) only [if_true, if_false]
              have hz : ∀ w b, prodZ w b k1 n1 u1 k2 n2 u2 = some (S, 0) := fun w b => by unfold prodZ; rw [if_neg (by omega), if_neg c3, if_pos c4, hS]
              rw [e, hz, hz]
              exact PR_z hb
            · obtain ⟨M1, e1, m1, p1, a1, a2, a3, a4, a5⟩ := w1.fin hn1 (by omega) (by omega)
              obtain ⟨M2, e2, m2, p2, d1, d2, d3, d4, d5⟩ := w2.fin hn2 (by omega) (by omega)
              have hz : ∀ w b, prodZ w b k1 n1 u1 k2 n2 u2 = some (S, enc w b (u1 * u2) (-2400) false) := fun w b => by unfold prodZ; rw [if_neg (by omega), if_neg c3, if_neg c4, hS]
              rw [if_neg (by omega)] at I1 I2 Z1 Z2
              rw [hz, hz, ← a5, ← d5]
              exact times_fin hb I1 I2 Z1 Z2 m1 m2 p1 p2 ⟨a1, a2⟩ ⟨d1, d2⟩ (by omega) (by omega)
