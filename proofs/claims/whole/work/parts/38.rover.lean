/-! The reference's quotients. -/
theorem ov_core {lane n : Int32} {C Q R R2 Q2 : Int64} {e e2 L : Int32} {fu : Nat} (hL : f_X6_length Q = some L) (h60 : ¬ (60 : Int32) ≤ L) (h2 : g_lshl R 1 = R2) (hQ : g_lshl Q 1 = Q2) (he : e + (-1) = e2) :
    f_X6_over_157 (fu + 1) lane n C Q R e = if R2 < C then f_X6_over_157 fu lane n C (Q2 ||| 0) (R2 - 0) e2 else f_X6_over_157 fu lane n C (Q2 ||| 1) (R2 - C) e2 := by
  rw [f_X6_over_157, hL, gb_some, if_neg h60, h2, hQ]
  simp only [gl]
  unfold f_X6_over_190 f_X6_over_209
  simp only [gl]
  rw [he]
  by_cases c : R2 < C
  · rw [if_pos c, if_pos c, if_pos c]
  · rw [if_neg c, if_neg c, if_neg c]
theorem ov_step {lane n : Int32} {A c : Nat} (hc : 0 < c) (hc2 : c < 2 ^ 53) {e : Int} (hb : bl (A / c) < 60) (fu : Nat) :
    f_X6_over_157 (fu + 1) lane n (lN c) (lN (A / c)) (lN (A % c)) (jI e) = f_X6_over_157 fu lane n (lN c) (lN (A * 2 ^ 1 / c)) (lN (A * 2 ^ 1 % c)) (jI (e - 1)) := by
  have hs := qstep (A := A) (c := c) (i := 1) hc
  have hr : A % c < c := Nat.mod_lt _ hc
  have hq : A / c < 2 ^ 60 := Nat.lt_of_lt_of_le (bl_lt _) (Nat.pow_le_pow_right (by omega) (by omega))
  rw [hs.1, hs.2]
  have hL := len_N (m := A / c) (by omega)
  have h60 : ¬ (60 : Int32) ≤ nI (bl (A / c)) := by
    rw [show (60 : Int32) = nI 60 from rfl, nI_leI (by omega) (by omega)]
    omega
  generalize bl (A / c) = L at *
  generalize A / c = q at *
  generalize A % c = r at *
  have e1 : g_lshl (lN r) 1 = lN (r * 2 ^ 1) := lshl_N r (k := 1) (by omega)
  have e2 : g_lshl (lN q) 1 = lN (q * 2 ^ 1) := lshl_N q (k := 1) (by omega)
  have e3 : jI e + (-1) = jI (e - 1) := by
    rw [show (-1 : Int32) = jI (-1) from rfl, jI_add]
    exact congrArg jI (by omega)
  rw [ov_core hL h60 e1 e2 e3]
  have cc := pk_lLT (a := r * 2 ^ 1) (b := c) (by omega) (by omega)
  by_cases d : r * 2 ^ 1 < c
  · rw [ifp cc d, show (0 : Int64) = lN 0 from rfl, lor_N (by omega) (by omega), lN_sub (by omega), Nat.or_zero, Nat.sub_zero, Nat.div_eq_of_lt d, Nat.mod_eq_of_lt d, Nat.add_zero]
  · have h1 : r * 2 ^ 1 / c = 1 := by
      have : r * 2 ^ 1 = (r * 2 ^ 1 - c) + 1 * c := by omega
      rw [this, Nat.add_mul_div_right _ _ hc, Nat.div_eq_of_lt (by omega)]
    have h2 : r * 2 ^ 1 % c = r * 2 ^ 1 - c := by
      have : r * 2 ^ 1 = (r * 2 ^ 1 - c) + 1 * c := by omega
      rw [this, Nat.add_mul_mod_self_right, Nat.mod_eq_of_lt (by omega)]
      omega
    rw [ifn cc d, show (1 : Int64) = lN 1 from rfl, lor_N (by omega) (by omega), lN_sub (by omega), lor_add (by omega), h1, h2]
