/-! Doubles' bits to floats' bits, and back. -/
theorem fit5 (n : Int32) {m : Nat} (hm0 : 0 < m) (hm : m < 2 ^ 62) {e : Int} (he : -4000 ≤ e ∧ e ≤ 2900) (st : Int32) : f_X6_fit n (lN m) (jI e) st 5 = some (sgD n (enc 52 1023 m e (decide (¬ st = 0)))) := by
  rw [fit_ok n (lane := 5) (w := 52) (b := 1023) (by omega) (by omega) (by omega) rfl rfl rfl hm0 hm he st]
  congr 2
  unfold fitD
  by_cases c : fq 52 1023 m e (decide (¬ st = 0)) = 0
  · rw [if_pos c, enc_zero _ hm0 c]
  · rw [if_neg c, enc_fit _ hm0 (by omega) (by omega)]
theorem epk_dec {q : Nat} (hq : 0 < q) (h53 : bl q ≤ 53) {t : Int} (ht : -1074 ≤ t) (hl : (bl q : Int) + t - 1 ≤ 1023) : ∃ j : Nat, vM 52 (epk 52 1023 q t / 2 ^ 52) (epk 52 1023 q t % 2 ^ 52) = q * 2 ^ j ∧ vE 52 1023 (epk 52 1023 q t / 2 ^ 52) = t - j ∧ epk 52 1023 q t < 2047 * 2 ^ 52 ∧ 0 < epk 52 1023 q t ∧ (-1022 ≤ (bl q : Int) + t - 1 → bl q + j = 53) ∧ bl q + j ≤ 53 := by
  have hp := bl_pos hq
  by_cases c : -1022 ≤ (bl q : Int) + t - 1
  · obtain ⟨n1, n2⟩ := norm_hi hq (w := 52) (by omega)
    refine ⟨53 - bl q, ?_⟩
    rw [epk_n (by omega) (by omega)]
    generalize q * 2 ^ (52 + 1 - bl q) = M at *
    obtain ⟨L, hL⟩ : ∃ L : Nat, ((bl q : Int) + t - 1 + (1023 : Nat) - 1).toNat = L := ⟨_, rfl⟩
    rw [hL]
    have hL2 : L ≤ 2045 := by omega
    have e1 : (L * 2 ^ 52 + M) / 2 ^ 52 = L + 1 := by omega
    have e2 : (L * 2 ^ 52 + M) % 2 ^ 52 = M - 2 ^ 52 := by omega
    rw [e1, e2]
    unfold vM vE
    rw [if_neg (by omega)]
    refine ⟨by omega, by omega, by omega, by omega, by omega, by omega⟩
  · rw [epk_s (by omega)]
    refine ⟨(t - (1 - (1023 : Nat) - (52 : Nat))).toNat, ?_⟩
    have hz : q * 2 ^ (t - (1 - (1023 : Nat) - (52 : Nat))).toNat < 2 ^ 52 := by
      calc q * 2 ^ (t - (1 - (1023 : Nat) - (52 : Nat))).toNat < 2 ^ bl q * 2 ^ (t - (1 - (1023 : Nat) - (52 : Nat))).toNat := Nat.mul_lt_mul_of_pos_right (bl_lt q) (Nat.two_pow_pos _)
        _ ≤ 2 ^ 52 := by rw [← Nat.pow_add]; exact Nat.pow_le_pow_right (by omega) (by omega)
    have h0 : 0 < q * 2 ^ (t - (1 - (1023 : Nat) - (52 : Nat))).toNat := Nat.mul_pos hq (Nat.two_pow_pos _)
    generalize q * 2 ^ (t - (1 - (1023 : Nat) - (52 : Nat))).toNat = D at *
    have e1 : D / 2 ^ 52 = 0 := by omega
    have e2 : D % 2 ^ 52 = D := by omega
    rw [e1, e2]
    unfold vM vE
    rw [if_pos rfl]
    refine ⟨rfl, by omega, by omega, h0, by omega, by omega⟩
theorem or_sgF {n : Int32} (hn : n = 0 ∨ n = 1) (B : Nat) : ((if n = 0 then (0 : Int64) else (-2147483648)) ||| lN B) = sgF n B := by
  unfold sgF
  rcases hn with rfl | rfl
  · rw [if_pos rfl, if_pos rfl]
    apply Int64.toBitVec_inj.mp
    simp
  · rw [if_neg (by decide), if_neg (by decide)]
    exact Int64.or_comm _ _
theorem fbn {q : Nat} (hq : 0 < q) (hq2 : q ≤ 2 ^ 24) {t : Int} {j : Nat} (d1 : -126 ≤ (bl q : Int) + t - 1) (hj53 : bl q + j = 53) : ((bl q : Int) + t - 1 + 127).toNat * 2 ^ 23 + q * 2 ^ j / 2 ^ 29 % 2 ^ 23 = epk 23 127 q t := by
  have h25 : bl q ≤ 25 := bl_le_of (by omega)
  have hp := bl_pos hq
  have hL : ((bl q : Int) + t - 1 + 127).toNat = ((bl q : Int) + t - 1 + (127 : Nat) - 1).toNat + 1 := by omega
  rw [hL]
  rcases Nat.lt_or_ge 24 (bl q) with g | g
  · have hb := bl_le hq
    have e25 : bl q = 25 := by omega
    rw [e25] at hb
    have hq24 : q = 2 ^ 24 := by omega
    rw [epk_m (by omega) (by omega), e25]
    have hj28 : j = 28 := by omega
    subst hj28
    subst hq24
    generalize (((25 : Nat) : Int) + t - 1 + (127 : Nat) - 1).toNat = L
    omega
  · obtain ⟨n1, n2⟩ := norm_hi hq (w := 23) (by omega)
    have hx : q * 2 ^ j / 2 ^ 29 = q * 2 ^ (23 + 1 - bl q) := by
      have : q * 2 ^ j = q * 2 ^ (23 + 1 - bl q) * 2 ^ 29 := by
        rw [Nat.mul_assoc, ← Nat.pow_add]
        congr 2
        omega
      rw [this, Nat.mul_div_cancel _ (Nat.two_pow_pos _)]
    rw [hx, epk_n (by omega) (by omega)]
    generalize q * 2 ^ (23 + 1 - bl q) = M at *
    generalize ((bl q : Int) + t - 1 + (127 : Nat) - 1).toNat = L
    omega
theorem fb24_core (x0 s0 : Int64) (hi : f_X6_isInfinite x0 = 0) (hz : f_X6_isZero x0 = 0) {M : Int64} (hm : f_X6_mantissa x0 = M) {E : Int32} (hx : f_X6_exponent x0 = E) {L : Int32} (hl : f_X6_length M = some L) {V : Int32} (hv : L + E - 1 = V) {W : Int32} (hw : (-149 : Int32) - E = W) :
    f_X6_floatBits_24 x0 s0 = if (-126 : Int32) ≤ V then some ((s0 ||| (g_lshl (Int32.toInt64 (V + 127)) 23)) ||| ((g_lshr M (L - 24)) &&& 8388607)) else if W ≤ 0 then some (s0 ||| (g_lshl M (-W))) else some (s0 ||| (g_lshr M W)) := by
  unfold f_X6_floatBits_24
  rw [hi, if_pos rfl, hm, hx, hl, gb_some, hz, hv, hw]
  unfold gl
  dsimp only
  rw [if_pos rfl]
  rfl
set_option maxHeartbeats 4000000 in
theorem fb24 {n : Int32} (hn : n = 0 ∨ n = 1) {D : Nat} (hD : D < 2047 * 2 ^ 52) (h0 : 0 < D) {q : Nat} (hq : 0 < q) (h24 : bl q ≤ 25) (hq2 : q ≤ 2 ^ 24) {t : Int} {j : Nat} (ht : -149 ≤ t) (hl : (bl q : Int) + t - 1 ≤ 127) (hM : vM 52 (D / 2 ^ 52) (D % 2 ^ 52) = q * 2 ^ j) (hE : vE 52 1023 (D / 2 ^ 52) = t - j) (hj : -1022 ≤ (bl q : Int) + t - 1 → bl q + j = 53) :
    f_X6_floatBits_24 (sgD n D) (if n = 0 then 0 else (-2147483648)) = some (sgF n (epk 23 127 q t)) := by
  have hp := bl_pos hq
  have hbl := bl_shl hq j
  have hmlt : q * 2 ^ j < 2 ^ 53 := by rw [← hM]; exact vM_lt
  have hD63 : D < 2 ^ 63 := by omega
  have hi := isInf_ok hn hD63
  rw [if_neg (show ¬ D = 2047 * 2 ^ 52 by omega)] at hi
  have hz := isZero_ok hn hD63
  rw [if_neg (show ¬ D = 0 by omega)] at hz
  have hm := mant_ok hn hD63
  rw [hM] at hm
  have hx := exp_ok hn hD63
  rw [hE] at hx
  have hn2 := len_N (m := q * 2 ^ j) (by omega)
  rw [hbl] at hn2
  clear hM hE
  have hj53 := hj (by omega)
  have e1 : nI (bl q + j) + jI (t - j) - 1 = jI (bl q + t - 1) := by
    rw [nI_jI, show (1 : Int32) = jI 1 from rfl, jI_add, jI_sub]
    exact congrArg jI (by omega)
  have c1 : (-126 : Int32) ≤ jI (bl q + t - 1) ↔ -126 ≤ (bl q : Int) + t - 1 := by
    rw [show (-126 : Int32) = jI (-126) from rfl, jI_le (by omega) (by omega)]
  have e0 : nI (bl q + j) - 24 = nI 29 := by rw [hj53]; decide
  have e2 : (-149 : Int32) - jI (t - j) = jI (-149 - t + j) := by
    rw [show (-149 : Int32) = jI (-149) from rfl, jI_sub]
    exact congrArg jI (by omega)
  rw [fb24_core _ _ hi hz hm hx hn2 e1 e2]
  by_cases d1 : -126 ≤ (bl q : Int) + t - 1
  · have hf := fbn hq hq2 d1 hj53
    have hx : q * 2 ^ j / 2 ^ 29 < 2 ^ 64 := Nat.lt_of_le_of_lt (Nat.div_le_self _ _) (by omega)
    rw [ifp c1 d1, e0, lshr_N (by omega) (by omega), show (127 : Int32) = jI 127 from rfl, jI_add, jI_i64 (by omega) (by omega), show (23 : Int32) = nI 23 from rfl, lshl_N _ (by omega), show (8388607 : Int64) = lN (2 ^ 23 - 1) from by decide, lmask_N hx (by omega), Int64.or_assoc, lor_N (by omega) (by omega), lor_add (Nat.mod_lt _ (by omega)), or_sgF hn, hf]
  · rw [ifn c1 d1]
    have hb23 : bl q ≤ 23 := by omega
    have c2 : jI (-149 - t + j) ≤ 0 ↔ (-149 - t + j : Int) ≤ 0 := by
      rw [show (0 : Int32) = jI 0 from rfl, jI_le (by omega) (by omega)]
    rw [epk_s (by omega)]
    by_cases d2 : (-149 - t + j : Int) ≤ 0
    · have e3 : -jI (-149 - t + j) = nI (149 + t - j).toNat := by
        rw [jI_neg, nI_jI]
        exact congrArg jI (by omega)
      have e5 : q * 2 ^ j * 2 ^ (149 + t - j).toNat = q * 2 ^ (t - (1 - (127 : Nat) - (23 : Nat))).toNat := by
        rw [Nat.mul_assoc, ← Nat.pow_add]
        exact congrArg (fun z => q * 2 ^ z) (by omega)
      rw [ifp c2 d2, e3, lshl_N _ (by omega), or_sgF hn, e5]
    · have e3 : jI (-149 - t + j) = nI (-149 - t + j).toNat := by
        rw [nI_jI]
        exact congrArg jI (by omega)
      have e5 : q * 2 ^ j = q * 2 ^ (t - (1 - (127 : Nat) - (23 : Nat))).toNat * 2 ^ (-149 - t + j).toNat := by
        rw [Nat.mul_assoc, ← Nat.pow_add]
        exact congrArg (fun z => q * 2 ^ z) (by omega)
      have e6 : q * 2 ^ j / 2 ^ (-149 - t + j).toNat = q * 2 ^ (t - (1 - (127 : Nat) - (23 : Nat))).toNat := by
        rw [e5, Nat.mul_div_cancel _ (Nat.two_pow_pos _)]
      rw [ifn c2 d2, e3, lshr_N (by omega) (by omega), or_sgF hn, e6]
theorem floatBits_fin {n : Int32} (hn : n = 0 ∨ n = 1) {q : Nat} (hq : 0 < q) (hq2 : q ≤ 2 ^ 24) {t : Int} (ht : -149 ≤ t) (hl : (bl q : Int) + t - 1 ≤ 127) : f_X6_floatBits (sgD n (epk 52 1023 q t)) = some (sgF n (epk 23 127 q t)) := by
  have h25 : bl q ≤ 25 := bl_le_of (by omega)
  obtain ⟨j, hM, hE, hD, h0, hj, -⟩ := epk_dec hq (by omega) (t := t) (by omega) (by omega)
  have := fb24 hn hD h0 hq h25 hq2 ht hl hM hE hj
  unfold f_X6_floatBits
  rw [isNan_ok hn (by omega), if_pos (show epk 52 1023 q t ≤ 2047 * 2 ^ 52 by omega), if_pos (show (0 : Int32) = 0 from rfl)]
  have c := sgD_nonneg hn (D := epk 52 1023 q t) (by omega)
  rcases hn with rfl | rfl
  · rw [ifp c rfl]
    exact this
  · rw [ifn c (by decide)]
    exact this
theorem floatBits_inf {n : Int32} (hn : n = 0 ∨ n = 1) : f_X6_floatBits (sgD n (2047 * 2 ^ 52)) = some (sgF n (255 * 2 ^ 23)) := by
  rcases hn with rfl | rfl <;> decide +kernel
theorem floatBits_zero {n : Int32} (hn : n = 0 ∨ n = 1) : f_X6_floatBits (sgD n 0) = some (sgF n 0) := by
  rcases hn with rfl | rfl <;> decide +kernel
theorem floatBits_nan : f_X6_floatBits 9221120237041090560 = some 2143289344 := by decide +kernel
/-- fit to floats, and their bits -/
theorem fitD4 {m : Nat} {e : Int} (s : Bool) (hm0 : 0 < m) {n : Int32} (hn : n = 0 ∨ n = 1) : fitD 23 127 m e s < 2 ^ 63 ∧ f_X6_floatBits (sgD n (fitD 23 127 m e s)) = some (sgF n (enc 23 127 m e s)) := by
  unfold fitD
  by_cases c : fq 23 127 m e s = 0
  · rw [if_pos c, enc_zero s hm0 c]
    exact ⟨by omega, floatBits_zero hn⟩
  · rw [if_neg c]
    have h := enc_fit (w := 23) (b := 127) s hm0 (by omega) (Nat.pos_of_ne_zero c)
    obtain ⟨t1, t2, t3⟩ := encT_le (w := 23) (b := 127) (m := m) (e := e)
    by_cases d : ((127 : Nat) : Int) < bl (fq 23 127 m e s) + ft 23 127 m e - 1
    · rw [if_pos d] at h ⊢
      rw [h]
      exact ⟨by omega, floatBits_inf hn⟩
    · rw [if_neg d] at h ⊢
      rw [h]
      have hq : fq 23 127 m e s ≤ 2 ^ 24 ∧ -149 ≤ ft 23 127 m e := by
        unfold fq ft
        generalize encT 23 127 m e = T at *
        by_cases g : 0 < T - e
        · rw [if_pos g, if_pos g]
          exact ⟨rs_hi s (Nat.lt_of_lt_of_le (bl_lt m) (Nat.pow_le_pow_right (by omega) (by omega))), by omega⟩
        · rw [if_neg g, if_neg g]
          have := bl_lt m
          have h2 : (2 : Nat) ^ bl m ≤ 2 ^ 24 := Nat.pow_le_pow_right (by omega) (by omega)
          exact ⟨by omega, by omega⟩
      refine ⟨?_, floatBits_fin hn (Nat.pos_of_ne_zero c) hq.1 hq.2 (by omega)⟩
      have h25 : bl (fq 23 127 m e s) ≤ 25 := bl_le_of (by omega)
      obtain ⟨j, -, -, h3, -⟩ := epk_dec (Nat.pos_of_ne_zero c) (by omega) (t := ft 23 127 m e) (by omega) (by omega)
      omega
theorem fit4 {n : Int32} (hn : n = 0 ∨ n = 1) {m : Nat} (hm0 : 0 < m) (hm : m < 2 ^ 62) {e : Int} (he : -4000 ≤ e ∧ e ≤ 2900) (st : Int32) : ∃ D, D < 2 ^ 63 ∧ f_X6_fit n (lN m) (jI e) st 4 = some (sgD n D) ∧ f_X6_floatBits (sgD n D) = some (sgF n (enc 23 127 m e (decide (¬ st = 0)))) :=
  ⟨fitD 23 127 m e (decide (¬ st = 0)), (fitD4 _ hm0 hn).1, fit_ok n (lane := 4) (w := 23) (b := 127) (by omega) (by omega) (by omega) rfl rfl rfl hm0 hm he st, (fitD4 _ hm0 hn).2⟩
