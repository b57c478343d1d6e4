/-! From a Real to bits, and back. -/
theorem min_r {a b : Nat} (h : b ≤ a) : min a b = b := Nat.min_eq_right h
theorem min_l {a b : Nat} (h : a ≤ b) : min a b = a := Nat.min_eq_left h
theorem jI_i64 {z : Int} (h0 : 0 ≤ z) (h1 : z < 2 ^ 31) : Int32.toInt64 (jI z) = lN z.toNat := by
  obtain ⟨q, rfl⟩ : ∃ q : Nat, z = q := ⟨z.toNat, by omega⟩
  rw [jI_nI, nI_i64' (by omega)]
  rfl
theorem size_ok {G : gG} {a : Nat} {n : Int32} {m : Nat} {E : Int} (h : G a = some (rc 1 n (lN m) (jI E))) (h1 : 2 ^ 62 ≤ m) (h2 : m < 2 ^ 63) (hE : -5000 ≤ E ∧ E ≤ 5000) {w b : Nat} (hw : 1 ≤ w ∧ w ≤ 52) (hb : b ≤ 1023) (hb0 : 1 ≤ b) :
    f_X2_sizeInBits G a (nI w) (nI (2 * b + 1)) = some (lN (enc w b m E false)) := by
  have hbl : bl m = 63 := bl_of h1 h2
  have e1 : nI (2 * b + 1) / 2 = nI b := by
    have := pk_div (a := 2 * b + 1) (d := 2) (by omega) (by omega) (by omega)
    rw [show (2 * b + 1) / 2 = b by omega] at this
    exact this
  have l62 : (62 : Int32) = jI 62 := rfl
  have l1 : (1 : Int32) = jI 1 := rfl
  have e2 : jI E + 62 + nI b = jI (E + 62 + b) := by rw [l62, nI_jI, jI_add, jI_add]
  have e3 : (62 : Int32) - nI w = nI (62 - w) := pk_sub (a := 62) (b := w) (by omega)
  have e4 : g_lshl (Int32.toInt64 (nI (2 * b + 1))) (nI w) = lN ((2 * b + 1) * 2 ^ w) := by rw [nI_i64' (by omega), lshl_N _ (by omega)]
  have hwp : 0 < 2 ^ w := Nat.two_pow_pos w
  unfold f_X2_sizeInBits
  simp only [gl]
  rw [rc_k h, gb_some, if_pos rfl, rc_e h, gb_some, e1, e2, e3, e4]
  have c1 : jI (E + 62 + b) < nI (2 * b + 1) ↔ E + 62 + b < 2 * b + 1 := by
    rw [nI_jI, jI_lt (by omega) (by omega)]; omega
  have c2 : (1 : Int32) ≤ jI (E + 62 + b) ↔ 1 ≤ E + 62 + b := by
    rw [l1, jI_le (by omega) (by omega)]
  by_cases d1 : E + 62 + b < 2 * b + 1
  · rw [ifp c1 d1]
    by_cases d2 : 1 ≤ E + 62 + b
    · rw [ifp c2 d2, rc_s h, gb_some, toNear_ok h2 (by omega) (by omega), l1, jI_sub, jI_i64 (by omega) (by omega), lshl_N _ (by omega), lN_add]
      have hT : encT w b m E = E + 62 - w := by unfold encT; rw [hbl]; omega
      have hQ : encQ w b m E false = rs m (62 - w) false := by
        unfold encQ
        rw [hT, if_pos (by omega)]
        congr 1
        omega
      have hq := rs_hi (m := m) (k := 62 - w) (j := w + 1) false (by rw [show 62 - w + (w + 1) = 63 by omega]; exact h2)
      unfold enc
      rw [hT, hQ, show (E + 62 - w - (1 - b - w) : Int).toNat = (E + 62 + b - 1).toNat by omega, min_l]
      have hx : (E + 62 + b - 1).toNat + 2 ≤ 2 * b + 1 := by omega
      have := Nat.mul_le_mul_right (2 ^ w) hx
      rw [Nat.add_mul (E + 62 + b - 1).toNat] at this
      rw [Nat.pow_succ] at hq
      omega
    · rw [ifn c2 d2, rc_s h, gb_some]
      have e5 : nI (62 - w) + 1 - jI (E + 62 + b) = nI (63 - w - (E + 62 + b)).toNat := by
        rw [nI_jI, nI_jI, l1, jI_add, jI_sub]
        congr 1
        omega
      have hT : encT w b m E = 1 - b - w := by unfold encT; rw [hbl]; omega
      have hQ : encQ w b m E false = rs m (63 - w - (E + 62 + b)).toNat false := by
        unfold encQ
        rw [hT, if_pos (by omega)]
        congr 1
        omega
      rw [e5, toNear_ok h2 (by omega) (by omega)]
      have hq := rs_hi (m := m) (k := (63 - w - (E + 62 + b)).toNat) (j := w) false (Nat.lt_of_lt_of_le h2 (Nat.pow_le_pow_right (by omega) (by omega)))
      unfold enc
      rw [hT, hQ, show ((1 - b - w : Int) - (1 - b - w)).toNat = 0 by omega, Nat.zero_mul, Nat.zero_add, min_l]
      refine Nat.le_trans hq ?_
      have := Nat.mul_le_mul_right (2 ^ w) (show 1 ≤ 2 * b + 1 by omega)
      omega
  · rw [ifn c1 d1]
    have hT : encT w b m E = E + 62 - w := by unfold encT; rw [hbl]; omega
    have hQ : encQ w b m E false = rs m (62 - w) false := by
      unfold encQ
      rw [hT, if_pos (by omega)]
      congr 1
      omega
    have hq := rs_lo (m := m) (k := 62 - w) (j := w) false (by rw [show 62 - w + w = 62 by omega]; exact h1)
    unfold enc
    rw [hT, hQ, min_r]
    have hx : 2 * b + 1 ≤ (E + 62 - w - (1 - b - w) : Int).toNat + 1 := by omega
    have := Nat.mul_le_mul_right (2 ^ w) hx
    rw [Nat.add_mul ((E + 62 - w - (1 - b - w) : Int).toNat)] at this
    omega
/-- a size in bits with its sign, as it is told -/
def sgF (n : Int32) (B : Nat) : Int64 := if n = 0 then lN B else lN B ||| (-2147483648)
def sgD (n : Int32) (B : Nat) : Int64 := if n = 0 then lN B else lN B ||| (-9223372036854775808)
theorem toV49_F {G : gG} {a : Nat} {k n : Int32} {sg : Int64} {ex : Int32} (h : G a = some (rc k n sg ex)) (B : Nat) : f_X2_toValue_49 G a 1 (lN B) = some (sgF n B) := by
  unfold f_X2_toValue_49 sgF
  rw [rc_n h, gb_some]
  by_cases c : n = 0
  · rw [if_pos c, if_pos c]
  · rw [if_neg c, if_neg c, if_neg (by decide)]
theorem toV49_D {G : gG} {a : Nat} {k n : Int32} {sg : Int64} {ex : Int32} (h : G a = some (rc k n sg ex)) (B : Nat) : f_X2_toValue_49 G a 0 (lN B) = some (sgD n B) := by
  unfold f_X2_toValue_49 sgD
  rw [rc_n h, gb_some]
  by_cases c : n = 0
  · rw [if_pos c, if_pos c]
  · rw [if_neg c, if_neg c, if_pos rfl]
theorem toValue_fin4 {G : gG} {a : Nat} {n : Int32} {m : Nat} {E : Int} (h : G a = some (rc 1 n (lN m) (jI E))) (h1 : 2 ^ 62 ≤ m) (h2 : m < 2 ^ 63) (hE : -5000 ≤ E ∧ E ≤ 5000) : f_X2_toValue G a 4 = some (sgF n (enc 23 127 m E false)) := by
  unfold f_X2_toValue f_X2_toValue_23
  rw [rc_k h, gb_some, if_neg (by decide), if_pos rfl, if_neg (by decide), gck_true (rc_o h)]
  have := size_ok h h1 h2 hE (w := 23) (b := 127) (by omega) (by omega) (by omega)
  rw [show (23 : Int32) = nI 23 from rfl, show (255 : Int32) = nI (2 * 127 + 1) from rfl, this, gb_some]
  exact toV49_F h _
theorem toValue_fin5 {G : gG} {a : Nat} {n : Int32} {m : Nat} {E : Int} (h : G a = some (rc 1 n (lN m) (jI E))) (h1 : 2 ^ 62 ≤ m) (h2 : m < 2 ^ 63) (hE : -5000 ≤ E ∧ E ≤ 5000) : f_X2_toValue G a 5 = some (sgD n (enc 52 1023 m E false)) := by
  unfold f_X2_toValue f_X2_toValue_23
  rw [rc_k h, gb_some, if_neg (by decide), if_neg (by decide), if_pos rfl, gck_true (rc_o h)]
  have := size_ok h h1 h2 hE (w := 52) (b := 1023) (by omega) (by omega) (by omega)
  rw [show (52 : Int32) = nI 52 from rfl, show (2047 : Int32) = nI (2 * 1023 + 1) from rfl, this, gb_some]
  exact toV49_D h _
theorem size_zi {G : gG} {a : Nat} {k n : Int32} {sg : Int64} {ex : Int32} (h : G a = some (rc k n sg ex)) (hk : ¬ k = 1) {w b : Nat} (hw : w ≤ 52) (hb : b ≤ 1023) : f_X2_sizeInBits G a (nI w) (nI (2 * b + 1)) = some (if k = 0 then lN 0 else lN ((2 * b + 1) * 2 ^ w)) := by
  have e4 : g_lshl (Int32.toInt64 (nI (2 * b + 1))) (nI w) = lN ((2 * b + 1) * 2 ^ w) := by rw [nI_i64' (by omega), lshl_N _ (by omega)]
  unfold f_X2_sizeInBits
  simp only [gl]
  rw [rc_k h, gb_some, if_neg hk, gb_some, e4]
  by_cases c : k = 0
  · rw [if_pos c, if_pos c]; rfl
  · rw [if_neg c, if_neg c]
theorem toValue_z4 {G : gG} {a : Nat} {n : Int32} {sg : Int64} {ex : Int32} (h : G a = some (rc 0 n sg ex)) : f_X2_toValue G a 4 = some (sgF n 0) := by
  unfold f_X2_toValue f_X2_toValue_23
  rw [rc_k h, gb_some, if_neg (by decide), if_pos rfl, if_neg (by decide), gck_true (rc_o h)]
  have := size_zi h (by decide) (w := 23) (b := 127) (by omega) (by omega)
  rw [if_pos rfl] at this
  rw [show (23 : Int32) = nI 23 from rfl, show (255 : Int32) = nI (2 * 127 + 1) from rfl, this, gb_some]
  exact toV49_F h _
theorem toValue_z5 {G : gG} {a : Nat} {n : Int32} {sg : Int64} {ex : Int32} (h : G a = some (rc 0 n sg ex)) : f_X2_toValue G a 5 = some (sgD n 0) := by
  unfold f_X2_toValue f_X2_toValue_23
  rw [rc_k h, gb_some, if_neg (by decide), if_neg (by decide), if_pos rfl, gck_true (rc_o h)]
  have := size_zi h (by decide) (w := 52) (b := 1023) (by omega) (by omega)
  rw [if_pos rfl] at this
  rw [show (52 : Int32) = nI 52 from rfl, show (2047 : Int32) = nI (2 * 1023 + 1) from rfl, this, gb_some]
  exact toV49_D h _
theorem toValue_i4 {G : gG} {a : Nat} {n : Int32} {sg : Int64} {ex : Int32} (h : G a = some (rc 2 n sg ex)) : f_X2_toValue G a 4 = some (sgF n (255 * 2 ^ 23)) := by
  unfold f_X2_toValue f_X2_toValue_23
  rw [rc_k h, gb_some, if_neg (by decide), if_pos rfl, if_neg (by decide), gck_true (rc_o h)]
  have := size_zi h (by decide) (w := 23) (b := 127) (by omega) (by omega)
  rw [if_neg (by decide)] at this
  rw [show (23 : Int32) = nI 23 from rfl, show (255 : Int32) = nI (2 * 127 + 1) from rfl, this, gb_some]
  exact toV49_F h _
theorem toValue_i5 {G : gG} {a : Nat} {n : Int32} {sg : Int64} {ex : Int32} (h : G a = some (rc 2 n sg ex)) : f_X2_toValue G a 5 = some (sgD n (2047 * 2 ^ 52)) := by
  unfold f_X2_toValue f_X2_toValue_23
  rw [rc_k h, gb_some, if_neg (by decide), if_neg (by decide), if_pos rfl, gck_true (rc_o h)]
  have := size_zi h (by decide) (w := 52) (b := 1023) (by omega) (by omega)
  rw [if_neg (by decide)] at this
  rw [show (52 : Int32) = nI 52 from rfl, show (2047 : Int32) = nI (2 * 1023 + 1) from rfl, this, gb_some]
  exact toV49_D h _
theorem toValue_n {G : gG} {a : Nat} {n : Int32} {sg : Int64} {ex : Int32} (h : G a = some (rc 3 n sg ex)) (lane : Int32) : f_X2_toValue G a lane = some (f_X1_noNumber lane) := by
  unfold f_X2_toValue
  rw [rc_k h, gb_some, if_pos rfl]
