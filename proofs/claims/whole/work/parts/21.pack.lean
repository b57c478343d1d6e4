/-! The reference: bits of doubles taken apart, and made. -/
theorem mask63 {n : Int32} (hn : n = 0 ∨ n = 1) {D : Nat} (hD : D < 2 ^ 63) : (sgD n D &&& 9223372036854775807) = lN D := by
  rw [show (9223372036854775807 : Int64) = lN (2 ^ 63 - 1) from by decide]
  rcases hn with rfl | rfl
  · rw [sgD_0, lmask_N (by omega) (by omega), Nat.mod_eq_of_lt hD]
  · rw [sgD_1 hD, lmask_N (by omega) (by omega)]
    exact congrArg lN (by omega)
theorem sgD_nonneg {n : Int32} (hn : n = 0 ∨ n = 1) {D : Nat} (hD : D < 2 ^ 63) : (0 : Int64) ≤ sgD n D ↔ n = 0 := by
  rcases hn with rfl | rfl
  · rw [sgD_0]; exact ⟨fun _ => rfl, fun _ => lN_nonneg hD⟩
  · rw [sgD_1 hD]; exact ⟨fun q => absurd q (lN_neg (by omega) (by omega)), fun q => absurd q (by decide)⟩
theorem isNan_ok {n : Int32} (hn : n = 0 ∨ n = 1) {D : Nat} (hD : D < 2 ^ 63) : f_X6_isNan (sgD n D) = if D ≤ 2047 * 2 ^ 52 then 0 else 1 := by
  unfold f_X6_isNan
  rw [mask63 hn hD]
  have c := pk_lLE (a := D) (b := 2047 * 2 ^ 52) hD (by omega)
  have e : (9218868437227405312 : Int64) = lN (2047 * 2 ^ 52) := by decide
  rw [e]
  by_cases d : D ≤ 2047 * 2 ^ 52
  · rw [ifp c d, if_pos d]
  · rw [ifn c d, if_neg d]
theorem isInf_ok {n : Int32} (hn : n = 0 ∨ n = 1) {D : Nat} (hD : D < 2 ^ 63) : f_X6_isInfinite (sgD n D) = if D = 2047 * 2 ^ 52 then 1 else 0 := by
  unfold f_X6_isInfinite
  rw [mask63 hn hD]
  have c := pk_lEQ (a := D) (b := 2047 * 2 ^ 52) hD (by omega)
  have e : (9218868437227405312 : Int64) = lN (2047 * 2 ^ 52) := by decide
  rw [e]
  by_cases d : D = 2047 * 2 ^ 52
  · rw [ifp c d, if_pos d]
  · rw [ifn c d, if_neg d]
theorem isZero_ok {n : Int32} (hn : n = 0 ∨ n = 1) {D : Nat} (hD : D < 2 ^ 63) : f_X6_isZero (sgD n D) = if D = 0 then 1 else 0 := by
  unfold f_X6_isZero
  rw [mask63 hn hD]
  have c := lN_z (x := D) (by omega)
  by_cases d : D = 0
  · rw [ifp c d, if_pos d]
  · rw [ifn c d, if_neg d]
theorem code52 {n : Int32} (hn : n = 0 ∨ n = 1) {D : Nat} (hD : D < 2 ^ 63) : (g_lushr (sgD n D) 52 &&& 2047) = lN (D / 2 ^ 52) := by
  rw [show (52 : Int32) = nI 52 from rfl, show (2047 : Int64) = lN (2 ^ 11 - 1) from by decide]
  rcases hn with rfl | rfl
  · rw [sgD_0, lushr_N (by omega) (by omega), lmask_N (by omega) (by omega)]
    exact congrArg lN (by omega)
  · rw [sgD_1 hD, lushr_N (by omega) (by omega), lmask_N (by omega) (by omega)]
    exact congrArg lN (by omega)
theorem frac52 {n : Int32} (hn : n = 0 ∨ n = 1) {D : Nat} (hD : D < 2 ^ 63) : (sgD n D &&& 4503599627370495) = lN (D % 2 ^ 52) := by
  rw [show (4503599627370495 : Int64) = lN (2 ^ 52 - 1) from by decide]
  rcases hn with rfl | rfl
  · rw [sgD_0, lmask_N (by omega) (by omega)]
  · rw [sgD_1 hD, lmask_N (by omega) (by omega)]
    exact congrArg lN (by omega)
theorem mant_ok {n : Int32} (hn : n = 0 ∨ n = 1) {D : Nat} (hD : D < 2 ^ 63) : f_X6_mantissa (sgD n D) = lN (vM 52 (D / 2 ^ 52) (D % 2 ^ 52)) := by
  unfold f_X6_mantissa vM
  simp only [gl]
  rw [code52 hn hD, frac52 hn hD]
  have c := lN_z (x := D / 2 ^ 52) (by omega)
  by_cases d : D / 2 ^ 52 = 0
  · rw [ifp c d, if_pos d]
  · rw [ifn c d, if_neg d, show (4503599627370496 : Int64) = lN (1 * 2 ^ 52) from by decide, lor_N (by omega) (by omega), Nat.or_comm, lor_add (Nat.mod_lt _ (by omega))]
    exact congrArg lN (by omega)
theorem exp_ok {n : Int32} (hn : n = 0 ∨ n = 1) {D : Nat} (hD : D < 2 ^ 63) : f_X6_exponent (sgD n D) = jI (vE 52 1023 (D / 2 ^ 52)) := by
  unfold f_X6_exponent vE
  simp only [gl]
  rw [code52 hn hD, lN_i]
  have c : nI (D / 2 ^ 52) = 0 ↔ D / 2 ^ 52 = 0 := nI_eq (b := 0) (by omega) (by omega)
  by_cases d : D / 2 ^ 52 = 0
  · rw [ifp c d, d]; rfl
  · rw [ifn c d, nI_jI, show (1075 : Int32) = jI 1075 from rfl, jI_sub]
    congr 1
    omega
theorem vM_lt {D : Nat} : vM 52 (D / 2 ^ 52) (D % 2 ^ 52) < 2 ^ 53 := by
  unfold vM
  split <;> omega
theorem vM_pos {D : Nat} (h : 0 < D) : 0 < vM 52 (D / 2 ^ 52) (D % 2 ^ 52) := by
  unfold vM
  split <;> omega
theorem vE_bd {D : Nat} (h : D < 2 ^ 63) : -1074 ≤ vE 52 1023 (D / 2 ^ 52) ∧ vE 52 1023 (D / 2 ^ 52) ≤ 972 := by
  unfold vE
  omega
/-- bits of a number that needs no rounding -/
def epk (w b : Nat) (q : Nat) (t : Int) : Nat :=
  if 1 - (b : Int) ≤ bl q + t - 1 then (bl q + t - 1 + b - 1).toNat * 2 ^ w + (if w + 1 < bl q then q / 2 ^ (bl q - (w + 1)) else q * 2 ^ (w + 1 - bl q))
  else q * 2 ^ (t - (1 - b - w)).toNat
theorem epk_n {w b q : Nat} {t : Int} (h : 1 - (b : Int) ≤ bl q + t - 1) (h2 : ¬ w + 1 < bl q) : epk w b q t = (bl q + t - 1 + b - 1).toNat * 2 ^ w + q * 2 ^ (w + 1 - bl q) := by
  unfold epk
  rw [if_pos h, if_neg h2]
theorem epk_m {w b q : Nat} {t : Int} (h : 1 - (b : Int) ≤ bl q + t - 1) (h2 : w + 1 < bl q) : epk w b q t = (bl q + t - 1 + b - 1).toNat * 2 ^ w + q / 2 ^ (bl q - (w + 1)) := by
  unfold epk
  rw [if_pos h, if_pos h2]
theorem epk_s {w b q : Nat} {t : Int} (h : ¬ 1 - (b : Int) ≤ bl q + t - 1) : epk w b q t = q * 2 ^ (t - (1 - b - w)).toNat := by
  unfold epk
  rw [if_neg h]
theorem epk_0 (w b : Nat) (t : Int) : epk w b 0 t = 0 ∨ 1 - (b : Int) ≤ t - 1 := by
  by_cases h : 1 - (b : Int) ≤ t - 1
  · exact Or.inr h
  · left
    rw [epk_s (by rw [show bl 0 = 0 from rfl]; omega), Nat.zero_mul]
theorem signed_ok (n : Int32) (D : Nat) : f_X6_signed n (lN D) = sgD n D := rfl
theorem norm_hi {q : Nat} (hq : 0 < q) {w : Nat} (h : bl q ≤ w + 1) : 2 ^ w ≤ q * 2 ^ (w + 1 - bl q) ∧ q * 2 ^ (w + 1 - bl q) < 2 ^ (w + 1) := by
  have a := bl_lt q
  have b := bl_le hq
  have p := bl_pos hq
  constructor
  · calc 2 ^ w = 2 ^ (bl q - 1) * 2 ^ (w + 1 - bl q) := by rw [← Nat.pow_add]; congr 1; omega
      _ ≤ q * 2 ^ (w + 1 - bl q) := Nat.mul_le_mul_right _ b
  · calc q * 2 ^ (w + 1 - bl q) < 2 ^ bl q * 2 ^ (w + 1 - bl q) := Nat.mul_lt_mul_of_pos_right a (Nat.two_pow_pos _)
      _ = 2 ^ (w + 1) := by rw [← Nat.pow_add]; congr 1; omega
theorem norm_lo {q : Nat} (hq : 0 < q) {w : Nat} (h : w + 1 < bl q) : 2 ^ w ≤ q / 2 ^ (bl q - (w + 1)) ∧ q / 2 ^ (bl q - (w + 1)) < 2 ^ (w + 1) := by
  have a := bl_lt q
  have b := bl_le hq
  constructor
  · rw [Nat.le_div_iff_mul_le (Nat.two_pow_pos _), ← Nat.pow_add, show w + (bl q - (w + 1)) = bl q - 1 by omega]
    exact b
  · rw [Nat.div_lt_iff_lt_mul (Nat.two_pow_pos _), ← Nat.pow_add, show w + 1 + (bl q - (w + 1)) = bl q by omega]
    exact a
theorem pack87_ok (n : Int32) {l : Int} (h1 : -1022 ≤ l) (h2 : l ≤ 1023) {M : Nat} (hM : 2 ^ 52 ≤ M ∧ M < 2 ^ 53) : f_X6_pack_87 n (jI l) (lN M) = some (sgD n ((l + 1022).toNat * 2 ^ 52 + M)) := by
  unfold f_X6_pack_87
  rw [show (1023 : Int32) = jI 1023 from rfl, jI_add, jI_i64 (by omega) (by omega), show (52 : Int32) = nI 52 from rfl, lshl_N _ (by omega), show (4503599627370495 : Int64) = lN (2 ^ 52 - 1) from by decide, lmask_N (by omega) (by omega), lor_N (by omega) (by omega), lor_add (Nat.mod_lt _ (by omega)), signed_ok]
  exact congrArg (fun z => some (sgD n z)) (by omega)
theorem pack_0 (n : Int32) (t : Int) : f_X6_pack n (lN 0) (jI t) = some (sgD n 0) := by
  unfold f_X6_pack
  rw [if_pos (show lN 0 = 0 from rfl)]
  rfl
theorem pack_ok (n : Int32) {q : Nat} (d0 : 0 < q) (hq : q < 2 ^ 63) {t : Int} (ht : -1074 ≤ t ∧ t ≤ 3000) (hl : (bl q : Int) + t - 1 ≤ 1023) : f_X6_pack n (lN q) (jI t) = some (sgD n (epk 52 1023 q t)) := by
  unfold f_X6_pack
  rw [ifn (lN_z (x := q) (by omega)) (by omega), len_N (by omega), gb_some]
  simp only [gl]
  have hb := bl_le_of hq
  have hp := bl_pos d0
  have e1 : nI (bl q) + jI t - 1 = jI (bl q + t - 1) := by rw [nI_jI, show (1 : Int32) = jI 1 from rfl, jI_add, jI_sub]
  rw [e1]
  have c1 : (-1022 : Int32) ≤ jI (bl q + t - 1) ↔ -1022 ≤ (bl q : Int) + t - 1 := by
    rw [show (-1022 : Int32) = jI (-1022) from rfl, jI_le (by omega) (by omega)]
  have c2 : (53 : Int32) < nI (bl q) ↔ 53 < bl q := by
    rw [show (53 : Int32) = nI 53 from rfl, nI_ltI (by omega) (by omega)]
  have c3 : jI t < (-1074) ↔ t < -1074 := by
    rw [show (-1074 : Int32) = jI (-1074) from rfl, jI_lt (by omega) (by omega)]
  by_cases d1 : -1022 ≤ (bl q : Int) + t - 1
  · rw [ifp c1 d1]
    by_cases d2 : 53 < bl q
    · rw [ifp c2 d2, show (53 : Int32) = nI 53 from rfl, pk_sub (by omega), lshr_N hq (by omega), pack87_ok n d1 hl (norm_lo d0 (w := 52) d2), epk_m (by omega) d2]
      exact congrArg (fun z => some (sgD n (z * 2 ^ 52 + q / 2 ^ (bl q - 53)))) (by omega)
    · rw [ifn c2 d2, show (53 : Int32) = nI 53 from rfl, pk_sub (by omega), lshl_N _ (by omega), pack87_ok n d1 hl (norm_hi d0 (w := 52) (by omega)), epk_n (by omega) d2]
      exact congrArg (fun z => some (sgD n (z * 2 ^ 52 + q * 2 ^ (53 - bl q)))) (by omega)
  · rw [ifn c1 d1, ifn c3 (by omega), epk_s (by omega)]
    unfold f_X6_pack_59
    have e4 : jI t + 1074 = nI (t + 1074).toNat := by
      rw [show (1074 : Int32) = jI 1074 from rfl, jI_add, nI_jI]
      exact congrArg jI (by omega)
    rw [e4, lshl_N _ (by omega), signed_ok]
    exact congrArg (fun z => some (sgD n (q * 2 ^ z))) (by omega)
