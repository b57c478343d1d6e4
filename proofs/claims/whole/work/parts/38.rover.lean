/-! The reference's quotients. -/
theorem ov_core {lane n : Int32} {C Q R R2 Q2 : Int64} {e e2 L : Int32} {fu : Nat} (hL : f_X6_length Q = some L) (h60 : ¬ (60 : Int32) ≤ L) (h2 : g_lshl R 1 = R2) (hQ : g_lshl Q 1 = Q2) (he : e + (-1) = e2) :
    f_X6_over_157 (fu + 1) lane n C Q R e = if R2 < C then f_X6_over_157 fu lane n C (Q2 ||| 0) (R2 - 0) e2 else f_X6_over_157 fu lane n C (Q2 ||| 1) (R2 - C) e2 := by
  rw [f_X6_over_157, hL, gb_some, if_neg h60, h2, hQ]
  simp only [gl]
  unfold f_X6_over_190 f_X6_over_209
  simp only [gl]
  rw [he]
  by_cases c : R2 < C
  · rw [if_pos c, if_pos c, if_pos c]
  · rw [if_neg c, if_neg c, if_neg c]
theorem ov_step {lane n : Int32} {A c : Nat} (hc : 0 < c) (hc2 : c < 2 ^ 53) {e : Int} (hb : bl (A / c) < 60) (fu : Nat) :
    f_X6_over_157 (fu + 1) lane n (lN c) (lN (A / c)) (lN (A % c)) (jI e) = f_X6_over_157 fu lane n (lN c) (lN (A * 2 ^ 1 / c)) (lN (A * 2 ^ 1 % c)) (jI (e - 1)) := by
  have hs := qstep (A := A) (c := c) (i := 1) hc
  have hr : A % c < c := Nat.mod_lt _ hc
  have hq : A / c < 2 ^ 60 := Nat.lt_of_lt_of_le (bl_lt _) (Nat.pow_le_pow_right (by omega) (by omega))
  rw [hs.1, hs.2]
  have hL := len_N (m := A / c) (by omega)
  have h60 : ¬ (60 : Int32) ≤ nI (bl (A / c)) := by
    rw [show (60 : Int32) = nI 60 from rfl, nI_leI (by omega) (by omega)]
    omega
  generalize bl (A / c) = L at *
  generalize A / c = q at *
  generalize A % c = r at *
  have e1 : g_lshl (lN r) 1 = lN (r * 2 ^ 1) := lshl_N r (k := 1) (by omega)
  have e2 : g_lshl (lN q) 1 = lN (q * 2 ^ 1) := lshl_N q (k := 1) (by omega)
  have e3 : jI e + (-1) = jI (e - 1) := by
    rw [show (-1 : Int32) = jI (-1) from rfl, jI_add]
    exact congrArg jI (by omega)
  rw [ov_core hL h60 e1 e2 e3]
  have cc := pk_lLT (a := r * 2 ^ 1) (b := c) (by omega) (by omega)
  by_cases d : r * 2 ^ 1 < c
  · rw [ifp cc d, show (0 : Int64) = lN 0 from rfl, lor_N (by omega) (by omega), lN_sub (by omega), Nat.or_zero, Nat.sub_zero, Nat.div_eq_of_lt d, Nat.mod_eq_of_lt d, Nat.add_zero]
  · have h1 : r * 2 ^ 1 / c = 1 := by
      have : r * 2 ^ 1 = (r * 2 ^ 1 - c) + 1 * c := by omega
      rw [this, Nat.add_mul_div_right _ _ hc, Nat.div_eq_of_lt (by omega)]
    have h2 : r * 2 ^ 1 % c = r * 2 ^ 1 - c := by
      have : r * 2 ^ 1 = (r * 2 ^ 1 - c) + 1 * c := by omega
      rw [this, Nat.add_mul_mod_self_right, Nat.mod_eq_of_lt (by omega)]
      omega
    rw [ifn cc d, show (1 : Int64) = lN 1 from rfl, lor_N (by omega) (by omega), lN_sub (by omega), lor_add (by omega), h1, h2]
theorem ov_fin {lane n : Int32} {C Q R : Int64} {e L : Int32} {fu : Nat} (hL : f_X6_length Q = some L) (h60 : (60 : Int32) ≤ L) :
    f_X6_over_157 (fu + 1) lane n C Q R e = gb (f_X6_fit n Q e (if R = 0 then 0 else 1) lane) fun r => some r := by
  rw [f_X6_over_157, hL, gb_some, if_pos h60]
  unfold f_X6_over_236
  by_cases c : R = 0
  · rw [if_pos c, if_pos c]
  · rw [if_neg c, if_neg c]
theorem ov_end {lane n : Int32} {A c : Nat} (hc : 0 < c) (hc2 : c < 2 ^ 53) {e : Int} (hb : bl (A / c) = 60) (fu : Nat) :
    f_X6_over_157 (fu + 1) lane n (lN c) (lN (A / c)) (lN (A % c)) (jI e) = gb (f_X6_fit n (lN (A / c)) (jI e) (b2i (decide (A % c ≠ 0))) lane) fun r => some r := by
  have hr : A % c < c := Nat.mod_lt _ hc
  have hq : A / c < 2 ^ 60 := Nat.lt_of_lt_of_le (bl_lt _) (Nat.pow_le_pow_right (by omega) (by omega))
  have hL := len_N (m := A / c) (by omega)
  rw [hb] at hL
  generalize A / c = q at *
  generalize A % c = r at *
  rw [ov_fin hL (by decide)]
  have cc := lN_z (x := r) (by omega)
  by_cases d : r = 0
  · rw [ifp cc d, decide_eq_false (fun q => q d)]; rfl
  · rw [ifn cc d, decide_eq_true d]; rfl
theorem ov_loop {n : Int32} {c : Nat} (hc : 0 < c) (hc2 : c < 2 ^ 53) : ∀ (i A : Nat) (e : Int) (fu : Nat), A / c < 2 ^ 60 → c * 2 ^ 59 ≤ A * 2 ^ i →
    ∃ K, K ≤ i ∧ bl (A * 2 ^ K / c) = 60 ∧ ∀ lane, f_X6_over_157 (fu + i + 1) lane n (lN c) (lN (A / c)) (lN (A % c)) (jI e) = gb (f_X6_fit n (lN (A * 2 ^ K / c)) (jI (e - K)) (b2i (decide (A * 2 ^ K % c ≠ 0))) lane) fun r => some r := by
  intro i
  induction i with
  | zero =>
    intro A e fu h1 h2
    have h3 : 2 ^ 59 ≤ A / c := by
      rw [Nat.le_div_iff_mul_le hc, Nat.mul_comm]
      rw [Nat.pow_zero, Nat.mul_one] at h2
      exact h2
    have h4 : bl (A / c) = 60 := bl_of h3 h1
    refine ⟨0, Nat.le_refl _, by rw [Nat.pow_zero, Nat.mul_one]; exact h4, fun lane => ?_⟩
    rw [ov_end hc hc2 h4, Nat.pow_zero, Nat.mul_one, show e - ((0 : Nat) : Int) = e by omega]
  | succ i ih =>
    intro A e fu h1 h2
    have hle := bl_le_of h1
    by_cases d : bl (A / c) = 60
    · refine ⟨0, Nat.zero_le _, by rw [Nat.pow_zero, Nat.mul_one]; exact d, fun lane => ?_⟩
      rw [ov_end hc hc2 d, Nat.pow_zero, Nat.mul_one, show e - ((0 : Nat) : Int) = e by omega]
    · have h3 : A / c < 2 ^ 59 := Nat.lt_of_lt_of_le (bl_lt _) (Nat.pow_le_pow_right (by omega) (by omega))
      have h4 : A * 2 ^ 1 / c < 2 ^ 60 := by
        rw [Nat.div_lt_iff_lt_mul hc] at h3 ⊢
        omega
      obtain ⟨K, k1, k2, k3⟩ := ih (A * 2 ^ 1) (e - 1) fu h4 (by rw [Nat.mul_assoc, ← Nat.pow_add, Nat.add_comm 1 i]; exact h2)
      have hA : A * 2 ^ 1 * 2 ^ K = A * 2 ^ (K + 1) := by rw [Nat.mul_assoc, ← Nat.pow_add, Nat.add_comm 1 K]
      rw [hA] at k2
      refine ⟨K + 1, by omega, k2, fun lane => ?_⟩
      rw [show fu + (i + 1) + 1 = (fu + i + 1) + 1 by omega, ov_step hc hc2 (by omega), k3 lane, hA, show e - 1 - (K : Int) = e - ((K + 1 : Nat) : Int) by omega]
theorem ov78_core {x0 x2 : Int64} {lane n : Int32} {M1 M2 Q R : Int64} {E1 E2 E : Int32} (i1 : f_X6_isInfinite x0 = 0) (i2 : f_X6_isInfinite x2 = 0) (z1 : f_X6_isZero x0 = 0) (z2 : f_X6_isZero x2 = 0) (m1 : f_X6_mantissa x0 = M1) (m2 : f_X6_mantissa x2 = M2) (p1 : f_X6_exponent x0 = E1) (p2 : f_X6_exponent x2 = E2) (c : ¬ M2 = 0) (hq : M1 / M2 = Q) (hr : g_lrem M1 M2 = R) (he : E1 - E2 = E) {fu : Nat} (hfu : 5000 = fu) : f_X6_over_78 x0 x2 lane n = f_X6_over_157 fu lane n M2 Q R E := by
  unfold f_X6_over_78
  rw [i1, i2, z1, z2, m1, m2, p1, p2, if_pos rfl, if_pos rfl, if_pos rfl, if_pos rfl, hfu]
  simp only [gl]
  rw [gneL_ok c, gneL_ok c, hq, hr, he]
theorem over_fin {x0 x2 : Int64} {M1 M2 : Nat} {e1 e2 : Int} {n : Int32} (hn : n = 0 ∨ n = 1) (i1 : f_X6_isInfinite x0 = 0) (i2 : f_X6_isInfinite x2 = 0) (z1 : f_X6_isZero x0 = 0) (z2 : f_X6_isZero x2 = 0) (m1 : f_X6_mantissa x0 = lN M1) (m2 : f_X6_mantissa x2 = lN M2) (p1 : f_X6_exponent x0 = jI e1) (p2 : f_X6_exponent x2 = jI e2) (h1 : 0 < M1 ∧ M1 < 2 ^ 53) (h2 : 0 < M2 ∧ M2 < 2 ^ 53) (b1 : -1074 ≤ e1 ∧ e1 ≤ 972) (b2 : -1074 ≤ e2 ∧ e2 ≤ 972) :
    PR (fun lane => f_X6_over_78 x0 x2 lane n) (some (n, quoE 23 127 (uV M1 e1) (uV M2 e2))) (some (n, quoE 52 1023 (uV M1 e1) (uV M2 e2))) := by
  have c2 : ¬ lN M2 = 0 := fun z => by have := (lN_z (x := M2) (by omega)).mp z; omega
  obtain ⟨fu, hfu⟩ : ∃ fu : Nat, 5000 = fu + 112 + 1 := ⟨4887, rfl⟩
  have hq0 : M1 / M2 < 2 ^ 60 := Nat.lt_of_le_of_lt (Nat.div_le_self _ _) (by omega)
  have hst : M2 * 2 ^ 59 ≤ M1 * 2 ^ 112 := by
    have a := Nat.mul_le_mul_right (2 ^ 59) (Nat.le_of_lt h2.2)
    have b := Nat.mul_le_mul_right (2 ^ 112) h1.1
    have h3 : 2 ^ 53 * 2 ^ 59 ≤ (0 + 1) * 2 ^ 112 := by decide
    exact Nat.le_trans a (Nat.le_trans h3 b)
  obtain ⟨K, k1, k2, k3⟩ := ov_loop (n := n) h2.1 h2.2 112 M1 (e1 - e2) fu hq0 hst
  have e : (fun lane => f_X6_over_78 x0 x2 lane n) = fun lane => gb (f_X6_fit n (lN (M1 * 2 ^ K / M2)) (jI (e1 - e2 - K)) (b2i (decide (M1 * 2 ^ K % M2 ≠ 0))) lane) fun r => some r := by
    funext lane
    exact (ov78_core i1 i2 z1 z2 m1 m2 p1 p2 c2 (pk_lDiv (by omega) (by omega) (by omega)) (lrem_N (by omega) (by omega) (by omega)) (jI_sub e1 e2) hfu).trans (k3 lane)
  rw [e]
  apply PR_gb
  have hk : ∀ w b : Nat, w ≤ 52 → enc w b (M1 * 2 ^ K / M2) (e1 - e2 - K) (decide (M1 * 2 ^ K % M2 ≠ 0)) = quoE w b (uV M1 e1) (uV M2 e2) := by
    intro w b hw
    unfold uV
    exact quo_rep w b (k := K) (j := (e1 + 1200).toNat + 5000 - K - (e2 + 1200).toNat) h1.1 h2.1 (by omega) (by omega) (by omega)
  rw [← hk 23 127 (by omega), ← hk 52 1023 (by omega)]
  have hlt : M1 * 2 ^ K / M2 < 2 ^ 60 := by
    have := bl_lt (M1 * 2 ^ K / M2)
    rw [k2] at this
    exact this
  have hpos : 0 < M1 * 2 ^ K / M2 := Nat.pos_of_ne_zero (fun z => by rw [z, show bl 0 = 0 from rfl] at k2; omega)
  exact fit_PR hn hpos (by omega) (by omega) _
/-! Of all kinds. -/
theorem over_ex (a b : Int64) : ∃ s, ∀ lane, f_X6_over a b lane = f_X6_over_30 a b lane s := by
  unfold f_X6_over f_X6_over_11 f_X6_over_22
  by_cases c1 : (0 : Int64) ≤ a <;> by_cases c2 : (0 : Int64) ≤ b
  · exact ⟨0, fun lane => by rw [if_pos c1, if_pos c2, if_pos rfl]⟩
  · exact ⟨1, fun lane => by rw [if_pos c1, if_neg c2, if_neg (by decide)]⟩
  · exact ⟨1, fun lane => by rw [if_neg c1, if_pos c2, if_neg (by decide)]⟩
  · exact ⟨0, fun lane => by rw [if_neg c1, if_neg c2, if_pos rfl]⟩
theorem over_sg {a b : Int64} {n1 n2 : Int32} (h1 : n1 = 0 ∨ n1 = 1) (h2 : n2 = 0 ∨ n2 = 1) (s1 : (0 : Int64) ≤ a ↔ n1 = 0) (s2 : (0 : Int64) ≤ b ↔ n2 = 0) (lane : Int32) : f_X6_over a b lane = f_X6_over_30 a b lane (sgnP n1 n2) := by
  unfold f_X6_over f_X6_over_11 f_X6_over_22 sgnP
  rcases h1 with rfl | rfl <;> rcases h2 with rfl | rfl
  · rw [ifp s1 rfl, ifp s2 rfl, if_pos rfl, if_pos rfl]
  · rw [ifp s1 rfl, ifn s2 (by decide), if_neg (by decide), if_neg (by decide)]
  · rw [ifn s1 (by decide), ifp s2 rfl, if_neg (by decide), if_neg (by decide)]
  · rw [ifn s1 (by decide), ifn s2 (by decide), if_pos rfl, if_pos rfl]
theorem over_ok {a b : Int64} {k1 k2 : Nat} {n1 n2 : Int32} {u1 u2 : Nat} (hn1 : n1 = 0 ∨ n1 = 1) (hn2 : n2 = 0 ∨ n2 = 1) (v1 : RV a k1 n1 u1) (v2 : RV b k2 n2 u2) : PR (fun lane => f_X6_over a b lane) (quoZ 23 127 k1 n1 u1 k2 n2 u2) (quoZ 52 1023 k1 n1 u1 k2 n2 u2) := by
  rcases v1.num with ⟨rfl, rfl⟩ | ⟨D1, w1⟩
  · obtain ⟨s, hs⟩ := over_ex 9221120237041090560 b
    have e : (fun lane => f_X6_over 9221120237041090560 b lane) = fun _ => some 9221120237041090560 := by
      funext lane
      rw [hs]
      unfold f_X6_over_30
      rw [isNan_nan, if_neg (by decide)]
    have hz : ∀ w b, quoZ w b 3 n1 u1 k2 n2 u2 = none := fun w b => by unfold quoZ; rw [if_pos (Or.inl rfl)]
    rw [e, hz, hz]
    exact PR_nan
  · rcases v2.num with ⟨rfl, rfl⟩ | ⟨D2, w2⟩
    · obtain ⟨s, hs⟩ := over_ex a 9221120237041090560
      have e : (fun lane => f_X6_over a 9221120237041090560 lane) = fun _ => some 9221120237041090560 := by
        funext lane
        rw [hs]
        unfold f_X6_over_30
        rw [w1.nan hn1, if_pos rfl, isNan_nan, if_neg (by decide)]
      have hz : ∀ w b, quoZ w b k1 n1 u1 3 n2 u2 = none := fun w b => by unfold quoZ; rw [if_pos (Or.inr (Or.inl rfl))]
      rw [e, hz, hz]
      exact PR_nan
    · have N1 := w1.nan hn1
      have N2 := w2.nan hn2
      have I1 := w1.inf hn1
      have I2 := w2.inf hn2
      have Z1 := w1.zero hn1
      have Z2 := w2.zero hn2
      have k1r := w1.2.2.1
      have k2r := w2.2.2.1
      have hsg : (fun lane => f_X6_over a b lane) = fun lane => f_X6_over_30 a b lane (sgnP n1 n2) := funext (over_sg hn1 hn2 (w1.sg hn1) (w2.sg hn2))
      rw [hsg]
      have hb := sgnP_b n1 n2
      generalize hS : sgnP n1 n2 = S at *
      have h78 : ∀ (c1 : ¬ (k1 = 2 ∧ k2 = 2)) (c2 : ¬ (k1 = 0 ∧ k2 = 0)), (fun lane => f_X6_over_30 a b lane S) = fun lane => f_X6_over_78 a b lane S := by
        intro c1 c2
        funext lane
        unfold f_X6_over_30 f_X6_over_60
        rw [N1, N2, I1, I2, Z1, Z2]
        rcases k1r with rfl | rfl | rfl <;> rcases k2r with rfl | rfl | rfl <;> first | (exact absurd ⟨rfl, rfl⟩ c1) | (exact absurd ⟨rfl, rfl⟩ c2) | simp (decide := true) only [if_true, if_false]
      by_cases c1 : k1 = 2 ∧ k2 = 2
      · have e : (fun lane => f_X6_over_30 a b lane S) = fun _ => some 9221120237041090560 := by
          funext lane
          unfold f_X6_over_30
          rw [N1, N2, I1, I2, c1.1, c1.2]
          simp (decide := true) only [if_true, if_false]
        have hz : ∀ w b, quoZ w b k1 n1 u1 k2 n2 u2 = none := fun w b => by unfold quoZ; rw [if_pos (by omega)]
        rw [e, hz, hz]
        exact PR_nan
      · by_cases c2 : k1 = 0 ∧ k2 = 0
        · have e : (fun lane => f_X6_over_30 a b lane S) = fun _ => some 9221120237041090560 := by
            funext lane
            unfold f_X6_over_30 f_X6_over_60
            rw [N1, N2, I1, Z1, Z2, c2.1, c2.2]
            simp (decide := true) only [if_true, if_false]
          have hz : ∀ w b, quoZ w b k1 n1 u1 k2 n2 u2 = none := fun w b => by unfold quoZ; rw [if_pos (by omega)]
          rw [e, hz, hz]
          exact PR_nan
        · rw [h78 c1 c2]
          by_cases c3 : k1 = 2 ∨ k2 = 0
          · have e : (fun lane => f_X6_over_78 a b lane S) = fun _ => some (sgD S (2047 * 2 ^ 52)) := by
              funext lane
              unfold f_X6_over_78 f_X6_over_92
              rw [I1, Z2, sg_I]
              rcases k1r with rfl | rfl | rfl <;> rcases k2r with rfl | rfl | rfl <;> first | omega | simp (decide := true) only [if_true, if_false]
            have hz : ∀ w b, quoZ w b k1 n1 u1 k2 n2 u2 = some (S, infB w b) := fun w b => by unfold quoZ; rw [if_neg (by omega), if_pos c3, hS]
            rw [e, hz, hz]
            exact PR_i hb
          · by_cases c4 : k1 = 0 ∨ k2 = 2
            · have e : (fun lane => f_X6_over_78 a b lane S) = fun _ => some (sgD S 0) := by
                funext lane
                unfold f_X6_over_78 f_X6_over_115
                rw [I1, I2, Z1, Z2, sg_D]
                rcases k1r with rfl | rfl | rfl <;> rcases k2r with rfl | rfl | rfl <;> first | omega | simp (decide := true) only [if_true, if_false]
              have hz : ∀ w b, quoZ w b k1 n1 u1 k2 n2 u2 = some (S, 0) := fun w b => by unfold quoZ; rw [if_neg (by omega), if_neg c3, if_pos c4, hS]
              rw [e, hz, hz]
              exact PR_z hb
            · obtain ⟨M1, e1, m1, p1, a1, a2, a3, a4, a5⟩ := w1.fin hn1 (by omega) (by omega)
              obtain ⟨M2, e2, m2, p2, d1, d2, d3, d4, d5⟩ := w2.fin hn2 (by omega) (by omega)
              have hz : ∀ w b, quoZ w b k1 n1 u1 k2 n2 u2 = some (S, quoE w b u1 u2) := fun w b => by unfold quoZ; rw [if_neg (by omega), if_neg c3, if_neg c4, hS]
              rw [if_neg (by omega)] at I1 I2 Z1 Z2
              rw [hz, hz, ← a5, ← d5]
              exact over_fin hb I1 I2 Z1 Z2 m1 m2 p1 p2 ⟨a1, a2⟩ ⟨d1, d2⟩ (by omega) (by omega)
