/-! Numbers: longs and ints as naturals and integers. -/
abbrev jI (z : Int) : Int32 := Int32.ofInt z
theorem jI_add (a b : Int) : jI a + jI b = jI (a + b) := (Int32.ofInt_add a b).symm
theorem jI_sub (a b : Int) : jI a - jI b = jI (a - b) := (Int32.ofInt_sub a b).symm
theorem jI_neg (a : Int) : -jI a = jI (-a) := (Int32.ofInt_neg a).symm
theorem jI_mul (a b : Int) : jI a * jI b = jI (a * b) := (Int32.ofInt_mul a b).symm
theorem jI_toInt {a : Int} (h : -2 ^ 31 ≤ a ∧ a < 2 ^ 31) : (jI a).toInt = a := Int32.toInt_ofInt_of_le h.1 h.2
theorem jI_lt {a b : Int} (ha : -2 ^ 31 ≤ a ∧ a < 2 ^ 31) (hb : -2 ^ 31 ≤ b ∧ b < 2 ^ 31) : jI a < jI b ↔ a < b := by
  rw [Int32.lt_iff_toInt_lt, jI_toInt ha, jI_toInt hb]
theorem jI_le {a b : Int} (ha : -2 ^ 31 ≤ a ∧ a < 2 ^ 31) (hb : -2 ^ 31 ≤ b ∧ b < 2 ^ 31) : jI a ≤ jI b ↔ a ≤ b := by
  rw [Int32.le_iff_toInt_le, jI_toInt ha, jI_toInt hb]
theorem jI_eq {a b : Int} (ha : -2 ^ 31 ≤ a ∧ a < 2 ^ 31) (hb : -2 ^ 31 ≤ b ∧ b < 2 ^ 31) : jI a = jI b ↔ a = b := by
  rw [← Int32.toInt_inj, jI_toInt ha, jI_toInt hb]
theorem jI_nI (n : Nat) : jI (n : Int) = nI n := Int32.ofInt_eq_ofNat
theorem nI_jI (n : Nat) : nI n = jI (n : Int) := Int32.ofInt_eq_ofNat.symm
theorem jI_of (x : Int32) : x = jI x.toInt := (Int32.ofInt_toInt x).symm
theorem lN_bv (n : Nat) : (lN n).toBitVec = BitVec.ofNat 64 n := rfl
theorem lN_tn {n : Nat} (h : n < 2 ^ 64) : (lN n).toBitVec.toNat = n := by
  rw [lN_bv, BitVec.toNat_ofNat, Nat.mod_eq_of_lt h]
theorem lN_ext {x : Int64} {n : Nat} (h : x.toBitVec.toNat = n) : x = lN n := by
  apply Int64.toBitVec_inj.mp
  apply BitVec.eq_of_toNat_eq
  rw [lN_bv, BitVec.toNat_ofNat, ← h, Nat.mod_eq_of_lt x.toBitVec.isLt]
theorem lN_wrap (n : Nat) : lN (n % 2 ^ 64) = lN n := by
  apply Int64.toBitVec_inj.mp
  apply BitVec.eq_of_toNat_eq
  simp [lN_bv]
theorem nI_i64 {k : Nat} (h : k < 64) : ((nI k).toInt64 &&& 63 : Int64) = lN k := by
  have : ∀ k : Fin 64, ((nI k.1).toInt64 &&& 63 : Int64) = lN k.1 := by decide +kernel
  exact this ⟨k, h⟩
theorem nI_i64u {k : Nat} (h : k < 64) : ((nI k).toInt64.toUInt64 &&& Int64.toUInt64 63) = (lN k).toUInt64 := by
  have : ∀ k : Fin 64, ((nI k.1).toInt64.toUInt64 &&& Int64.toUInt64 63) = (lN k.1).toUInt64 := by decide +kernel
  exact this ⟨k, h⟩
theorem lN_smod {k : Nat} (h : k < 64) : ((lN k).toBitVec.smod 64).toNat = k := by
  have : ∀ k : Fin 64, ((lN k.1).toBitVec.smod 64).toNat = k.1 := by decide +kernel
  exact this ⟨k, h⟩
theorem lshl_N (a : Nat) {k : Nat} (h : k < 64) : g_lshl (lN a) (nI k) = lN (a * 2 ^ k) := by
  unfold g_lshl
  rw [nI_i64 h]
  apply Int64.toBitVec_inj.mp
  rw [Int64.toBitVec_shiftLeft]
  apply BitVec.eq_of_toNat_eq
  rw [BitVec.shiftLeft_eq', lN_smod h]
  simp [lN_bv, Nat.shiftLeft_eq]
theorem lushr_N {a : Nat} (ha : a < 2 ^ 64) {k : Nat} (h : k < 64) : g_lushr (lN a) (nI k) = lN (a / 2 ^ k) := by
  unfold g_lushr
  rw [nI_i64u h]
  apply lN_ext
  have hk : ((lN k).toUInt64.toBitVec % 64).toNat = k := by
    have : ∀ k : Fin 64, ((lN k.1).toUInt64.toBitVec % 64).toNat = k.1 := by decide +kernel
    exact this ⟨k, h⟩
  show ((lN a).toUInt64 >>> (lN k).toUInt64).toBitVec.toNat = _
  rw [UInt64.toBitVec_shiftRight, BitVec.ushiftRight_eq', BitVec.toNat_ushiftRight, hk]
  show (lN a).toBitVec.toNat >>> k = _
  rw [lN_tn ha, Nat.shiftRight_eq_div_pow]
theorem lshr_N {a : Nat} (ha : a < 2 ^ 63) {k : Nat} (h : k < 64) : g_lshr (lN a) (nI k) = lN (a / 2 ^ k) := by
  unfold g_lshr
  rw [nI_i64 h]
  apply Int64.toBitVec_inj.mp
  rw [Int64.toBitVec_shiftRight]
  apply BitVec.eq_of_toNat_eq
  rw [BitVec.sshiftRight_eq', lN_smod h]
  have hm : (lN a).toBitVec.msb = false := by
    rw [BitVec.msb_eq_false_iff_two_mul_lt, lN_tn (by omega)]; omega
  rw [BitVec.sshiftRight_eq_of_msb_false hm, BitVec.toNat_ushiftRight, lN_tn (by omega), Nat.shiftRight_eq_div_pow, lN_tn (Nat.lt_of_le_of_lt (Nat.div_le_self _ _) (by omega))]
theorem land_N {a b : Nat} (ha : a < 2 ^ 64) (hb : b < 2 ^ 64) : (lN a &&& lN b) = lN (a &&& b) := by
  apply lN_ext
  rw [Int64.toBitVec_and, BitVec.toNat_and, lN_tn ha, lN_tn hb]
theorem lor_N {a b : Nat} (ha : a < 2 ^ 64) (hb : b < 2 ^ 64) : (lN a ||| lN b) = lN (a ||| b) := by
  apply lN_ext
  rw [Int64.toBitVec_or, BitVec.toNat_or, lN_tn ha, lN_tn hb]
theorem lmask_N {a : Nat} (ha : a < 2 ^ 64) {k : Nat} (h : k ≤ 64) : (lN a &&& lN (2 ^ k - 1)) = lN (a % 2 ^ k) := by
  have h1 : (2 : Nat) ^ k ≤ 2 ^ 64 := Nat.pow_le_pow_right (by omega) h
  have h2 : (0 : Nat) < 2 ^ k := Nat.two_pow_pos k
  rw [land_N ha (by omega), Nat.and_two_pow_sub_one_eq_mod]
theorem lor_add {a b k : Nat} (hb : b < 2 ^ k) : (a * 2 ^ k ||| b) = a * 2 ^ k + b := by
  rw [Nat.mul_comm, ← Nat.two_pow_add_eq_or_of_lt hb]
theorem lsub1_N {k : Nat} (h : k < 64) : g_lshl 1 (nI k) - 1 = lN (2 ^ k - 1) := by
  have h1 : (1 : Int64) = lN 1 := rfl
  rw [h1, lshl_N 1 h, Nat.one_mul, ← lN_sub (Nat.two_pow_pos k)]
theorem lrem_N {a b : Nat} (ha : a < 2 ^ 63) (h0 : 0 < b) (hb : b < 2 ^ 63) : g_lrem (lN a) (lN b) = lN (a % b) := pk_lRem ha h0 hb
theorem lN_lit (n : Nat) : (OfNat.ofNat n : Int64) = lN n := rfl
theorem lN_i32 {a : Nat} (ha : a < 2 ^ 31) : Int64.toInt32 (lN a) = nI a := by
  exact lN_i a
theorem nI_i64' {a : Nat} (ha : a < 2 ^ 31) : Int32.toInt64 (nI a) = lN a := nI_l ha
/-- how many bits a number has -/
def bl (m : Nat) : Nat := if m = 0 then 0 else Nat.log2 m + 1
theorem bl_lt (m : Nat) : m < 2 ^ bl m := by
  unfold bl
  by_cases h : m = 0
  · rw [if_pos h, h]; decide
  · rw [if_neg h]; exact Nat.lt_log2_self
theorem bl_le {m : Nat} (h : 0 < m) : 2 ^ (bl m - 1) ≤ m := by
  unfold bl
  rw [if_neg (by omega)]
  exact Nat.log2_self_le (by omega)
theorem bl_pos {m : Nat} (h : 0 < m) : 0 < bl m := by
  unfold bl; rw [if_neg (by omega)]; omega
theorem bl_of {m k : Nat} (h1 : 2 ^ k ≤ m) (h2 : m < 2 ^ (k + 1)) : bl m = k + 1 := by
  have h0 : 0 < m := Nat.lt_of_lt_of_le (Nat.two_pow_pos k) h1
  have a := bl_lt m
  have b := bl_le h0
  have p := bl_pos h0
  have c : k < bl m := (Nat.pow_lt_pow_iff_right (by omega : 1 < 2)).mp (Nat.lt_of_le_of_lt h1 a)
  have d : bl m - 1 < k + 1 := (Nat.pow_lt_pow_iff_right (by omega : 1 < 2)).mp (Nat.lt_of_le_of_lt b h2)
  omega
theorem bl_le_of {m k : Nat} (h : m < 2 ^ k) : bl m ≤ k := by
  by_cases h0 : m = 0
  · unfold bl; rw [if_pos h0]; omega
  · have b := bl_le (Nat.pos_of_ne_zero h0)
    have d : bl m - 1 < k := (Nat.pow_lt_pow_iff_right (by omega : 1 < 2)).mp (Nat.lt_of_le_of_lt b h)
    omega
theorem bl_ge_of {m k : Nat} (h : 2 ^ k ≤ m) : k < bl m :=
  (Nat.pow_lt_pow_iff_right (by omega : 1 < 2)).mp (Nat.lt_of_le_of_lt h (bl_lt m))
theorem bl_shl {m : Nat} (h : 0 < m) (k : Nat) : bl (m * 2 ^ k) = bl m + k := by
  have p := bl_pos h
  have a := bl_lt m
  have b := bl_le h
  have e : bl (m * 2 ^ k) = (bl m - 1 + k) + 1 := by
    apply bl_of
    · rw [Nat.pow_add]; exact Nat.mul_le_mul_right _ b
    · rw [show bl m - 1 + k + 1 = bl m + k by omega, Nat.pow_add]
      exact Nat.mul_lt_mul_of_pos_right a (Nat.two_pow_pos k)
  omega
theorem bl_half {m : Nat} (h : 0 < m) : bl (m / 2) = bl m - 1 := by
  have a := bl_lt m
  have b := bl_le h
  have p := bl_pos h
  by_cases h1 : bl m = 1
  · rw [h1] at a
    have : m / 2 = 0 := by omega
    rw [this, h1]; rfl
  · obtain ⟨q, hq⟩ : ∃ q, bl m = q + 2 := ⟨bl m - 2, by omega⟩
    rw [hq] at a b
    rw [hq, show q + 2 - 1 = q + 1 by omega]
    apply bl_of
    · rw [show q + 2 - 1 = q + 1 by omega, Nat.pow_succ] at b; omega
    · rw [Nat.pow_succ] at a ⊢
      rw [Nat.pow_succ] at a
      omega
theorem len_loop : ∀ (fu m k : Nat), m < 2 ^ 64 → bl m < fu → f_X6_length_4 fu (nI k) (lN m) = some (nI (k + bl m)) := by
  intro fu
  induction fu with
  | zero => intro m k _ h; omega
  | succ fu ih =>
    intro m k hm hf
    rw [f_X6_length_4]
    by_cases h : m = 0
    · subst h
      rw [if_pos (by rfl)]
      rfl
    · have hne : ¬ (lN m = 0) := by
        intro q
        have := congrArg (fun z : Int64 => z.toBitVec.toNat) q
        have h2 := lN_tn hm
        exact h (h2.symm.trans this)
      rw [if_neg hne]
      simp only [gl]
      have e1 : g_lushr (lN m) 1 = lN (m / 2) := by
        have := lushr_N hm (k := 1) (by omega)
        rw [Nat.pow_one] at this
        exact this
      rw [e1, show nI k + 1 = nI (k + 1) from nI_1 k, ih (m / 2) (k + 1) (by omega) (by rw [bl_half (by omega)]; have := bl_pos (Nat.pos_of_ne_zero h); omega)]
      rw [bl_half (by omega)]
      have := bl_pos (Nat.pos_of_ne_zero h)
      congr 2
      omega
theorem len_N {m : Nat} (h : m < 2 ^ 64) : f_X6_length (lN m) = some (nI (bl m)) := by
  unfold f_X6_length
  have := len_loop 5000 m 0 h (Nat.lt_of_le_of_lt (bl_le_of h) (by omega))
  rw [Nat.zero_add] at this
  exact this
