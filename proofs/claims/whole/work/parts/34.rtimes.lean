/-! The reference's times. -/
theorem enc_uu (w b : Nat) {M1 M2 : Nat} {e1 e2 : Int} (h1 : 0 < M1) (h2 : 0 < M2) (b1 : -1200 ≤ e1) (b2 : -1200 ≤ e2) : enc w b (uV M1 e1 * uV M2 e2) (-2400) false = enc w b (M1 * M2) (e1 + e2) false := by
  have hu : uV M1 e1 * uV M2 e2 = M1 * M2 * 2 ^ ((e1 + 1200).toNat + (e2 + 1200).toNat) := by
    unfold uV
    rw [Nat.mul_mul_mul_comm, Nat.pow_add]
  have := enc_shl w b (m := M1 * M2) (e := e1 + e2) ((e1 + 1200).toNat + (e2 + 1200).toNat) (Nat.mul_pos h1 h2)
  rw [hu, ← this]
  exact congrArg (fun z => enc w b _ z false) (by omega)
theorem PR_gb {f : Int32 → Option Int64} {z4 z5 : Option (Int32 × Nat)} (h : PR f z4 z5) : PR (fun lane => gb (f lane) fun r => some r) z4 z5 := by
  obtain ⟨⟨r, h1, h2⟩, h3⟩ := h
  refine ⟨⟨r, ?_, h2⟩, ?_⟩
  · show gb (f 4) _ = _
    rw [h1]; rfl
  · show gb (f 5) _ = _
    rw [h3]; rfl
theorem t274 {n : Int32} (hn : n = 0 ∨ n = 1) {high B N : Nat} (hB : B < 2 ^ 54) (hN : N = high * 2 ^ 54 + B) (hh : 0 < high) (hh2 : high < 2 ^ 53) {e : Int} (he : -2400 ≤ e ∧ e ≤ 2000) {k : Nat} (hk : k = min (62 - bl high) 54) :
    PR (fun lane => f_X6_times_274 lane n (lN B) (lN high) (jI e) (nI k)) (some (n, enc 23 127 N e false)) (some (n, enc 52 1023 N e false)) := by
  have hb := bl_le_of hh2
  have hp := bl_pos hh
  have hk54 : k ≤ 54 := by omega
  have e1 : (54 : Int32) - nI k = nI (54 - k) := pk_sub (a := 54) (by omega)
  have hd : (2 : Nat) ^ (54 - k) ≤ 2 ^ 54 := Nat.pow_le_pow_right (by omega) (by omega)
  have hdp := Nat.two_pow_pos (54 - k)
  have hkp := Nat.two_pow_pos k
  have hmod : B % 2 ^ (54 - k) ≤ B := Nat.mod_le _ _
  have q0 : high * 2 ^ 54 = high * 2 ^ k * 2 ^ (54 - k) := by
    rw [Nat.mul_assoc, ← Nat.pow_add]
    exact congrArg (fun z => high * 2 ^ z) (by omega)
  have q1 : N / 2 ^ (54 - k) = high * 2 ^ k + B / 2 ^ (54 - k) := by
    rw [hN, q0, Nat.add_comm, Nat.add_mul_div_right _ _ hdp, Nat.add_comm]
  have q2 : N % 2 ^ (54 - k) = B % 2 ^ (54 - k) := by
    rw [hN, q0, Nat.add_comm, Nat.add_mul_mod_self_right]
  have hBq : B / 2 ^ (54 - k) < 2 ^ k := by
    rw [Nat.div_lt_iff_lt_mul hdp, ← Nat.pow_add, show k + (54 - k) = 54 by omega]
    exact hB
  have hm : high * 2 ^ k + B / 2 ^ (54 - k) < 2 ^ 62 := by
    have a := bl_lt high
    have h3 : high * 2 ^ k + B / 2 ^ (54 - k) < (high + 1) * 2 ^ k := by rw [Nat.add_mul, Nat.one_mul]; omega
    have h4 : (high + 1) * 2 ^ k ≤ 2 ^ bl high * 2 ^ k := Nat.mul_le_mul_right _ a
    have h5 : (2 : Nat) ^ bl high * 2 ^ k ≤ 2 ^ 62 := by rw [← Nat.pow_add]; exact Nat.pow_le_pow_right (by omega) (by omega)
    omega
  have hpos : 0 < high * 2 ^ k + B / 2 ^ (54 - k) := Nat.lt_of_lt_of_le (Nat.mul_pos hh hkp) (Nat.le_add_right _ _)
  have cond : ∀ w : Nat, w ≤ 52 → (N % 2 ^ (54 - k) = 0 ∨ w + 2 ≤ bl (N / 2 ^ (54 - k))) := by
    intro w hw
    rcases Nat.lt_or_ge k 54 with g | g
    · right
      rw [q1]
      have h6 := bl_shl hh k
      have h7 := bl_ge_of (m := high * 2 ^ k + B / 2 ^ (54 - k)) (k := bl high + k - 1) (by
        have := bl_le (m := high * 2 ^ k) (Nat.mul_pos hh hkp)
        rw [h6] at this
        exact Nat.le_trans this (Nat.le_add_right _ _))
      omega
    · left
      rw [show 54 - k = 0 by omega, Nat.pow_zero, Nat.mod_one]
  have E4 := enc_ts 23 127 (N := N) (d := 54 - k) (E := e) (by rw [q1]; exact hpos) (cond 23 (by omega))
  have E5 := enc_ts 52 1023 (N := N) (d := 54 - k) (E := e) (by rw [q1]; exact hpos) (cond 52 (by omega))
  have fin : PR (fun lane => f_X6_times_298 lane n (lN B) (lN high) (jI e) (nI k) (b2i (decide (N % 2 ^ (54 - k) ≠ 0)))) (some (n, enc 23 127 N e false)) (some (n, enc 52 1023 N e false)) := by
    unfold f_X6_times_298
    apply PR_gb
    have e2 : jI e + 54 - nI k = jI (e + (54 - k : Nat)) := by
      rw [nI_jI, show (54 : Int32) = jI 54 from rfl, jI_add, jI_sub]
      exact congrArg jI (by omega)
    have hA : high * 2 ^ k < 2 ^ 64 := Nat.lt_of_le_of_lt (Nat.le_add_right _ _) (Nat.lt_of_lt_of_le hm (by omega))
    have hC : B / 2 ^ (54 - k) < 2 ^ 64 := Nat.lt_of_le_of_lt (Nat.div_le_self _ _) (by omega)
    rw [e1, e2, lshl_N _ (by omega), lshr_N (by omega) (by omega), lor_N hA hC, lor_add hBq]
    rw [← E4, ← E5, q1]
    exact fit_PR hn hpos hm (by omega) _
  have e3 : (lN B &&& (g_lshl 1 (nI (54 - k)) - 1)) = lN (B % 2 ^ (54 - k)) := by rw [lsub1_N (by omega), lmask_N (by omega) (by omega)]
  have c := lN_z (x := B % 2 ^ (54 - k)) (by omega)
  have e : (fun lane => f_X6_times_274 lane n (lN B) (lN high) (jI e) (nI k)) = fun lane => f_X6_times_298 lane n (lN B) (lN high) (jI e) (nI k) (b2i (decide (N % 2 ^ (54 - k) ≠ 0))) := by
    funext lane
    unfold f_X6_times_274
    rw [e1, e3, q2]
    by_cases d : B % 2 ^ (54 - k) = 0
    · rw [ifp c d, decide_eq_false (fun q => q d)]; rfl
    · rw [ifn c d, decide_eq_true d]; rfl
  rw [e]
  exact fin
theorem times_fin {x0 x2 : Int64} {M1 M2 : Nat} {e1 e2 : Int} {n : Int32} (hn : n = 0 ∨ n = 1) (i1 : f_X6_isInfinite x0 = 0) (i2 : f_X6_isInfinite x2 = 0) (z1 : f_X6_isZero x0 = 0) (z2 : f_X6_isZero x2 = 0) (m1 : f_X6_mantissa x0 = lN M1) (m2 : f_X6_mantissa x2 = lN M2) (p1 : f_X6_exponent x0 = jI e1) (p2 : f_X6_exponent x2 = jI e2) (h1 : 0 < M1 ∧ M1 < 2 ^ 53) (h2 : 0 < M2 ∧ M2 < 2 ^ 53) (b1 : -1074 ≤ e1 ∧ e1 ≤ 972) (b2 : -1074 ≤ e2 ∧ e2 ≤ 972) :
    PR (fun lane => f_X6_times_78 x0 x2 lane n) (some (n, enc 23 127 (uV M1 e1 * uV M2 e2) (-2400) false)) (some (n, enc 52 1023 (uV M1 e1 * uV M2 e2) (-2400) false)) := by
  rw [enc_uu 23 127 h1.1 h2.1 (by omega) (by omega), enc_uu 52 1023 h1.1 h2.1 (by omega) (by omega)]
  obtain ⟨q1, q2, q3, q4⟩ := mul_split (a := M1) (b := M2) h1.2 h2.2
  have s27 : ∀ {x : Nat}, x < 2 ^ 63 → g_lshr (lN x) 27 = lN (x / 2 ^ 27) := fun h => lshr_N h (k := 27) (by omega)
  have k27 : ∀ {x : Nat}, x < 2 ^ 64 → (lN x &&& 134217727) = lN (x % 2 ^ 27) := fun h => lmask_N h (k := 27) (by omega)
  have hpos : 0 < M1 * M2 := Nat.mul_pos h1.1 h2.1
  have key : (fun lane => f_X6_times_78 x0 x2 lane n) = fun lane =>
      (let mid := M1 / 2 ^ 27 * (M2 % 2 ^ 27) + M1 % 2 ^ 27 * (M2 / 2 ^ 27)
       let low := M1 % 2 ^ 27 * (M2 % 2 ^ 27) + mid % 2 ^ 27 * 2 ^ 27
       let high := M1 / 2 ^ 27 * (M2 / 2 ^ 27) + mid / 2 ^ 27 + low / 2 ^ 54
       if high = 0 then (gb (f_X6_fit n (lN (low % 2 ^ 54)) (jI (e1 + e2)) 0 lane) fun r => some r) else f_X6_times_274 lane n (lN (low % 2 ^ 54)) (lN high) (jI (e1 + e2)) (nI (min (62 - bl high) 54))) := by
    funext lane
    dsimp only
    unfold f_X6_times_78
    rw [i1, i2, z1, z2, m1, m2, p1, p2, if_pos rfl, if_pos rfl, if_pos rfl, if_pos rfl]
    simp only [gl]
    rw [s27 (x := M1) (by omega), s27 (x := M2) (by omega), k27 (x := M1) (by omega), k27 (x := M2) (by omega), lN_mul, lN_mul, lN_mul, lN_mul, lN_add]
    generalize M1 / 2 ^ 27 * (M2 % 2 ^ 27) + M1 % 2 ^ 27 * (M2 / 2 ^ 27) = mid at *
    rw [k27 (x := mid) (by omega), s27 (x := mid) (by omega), show (27 : Int32) = nI 27 from rfl, lshl_N _ (by omega), lN_add, lN_add, Nat.add_comm (mid % 2 ^ 27 * 2 ^ 27)]
    generalize M1 % 2 ^ 27 * (M2 % 2 ^ 27) + mid % 2 ^ 27 * 2 ^ 27 = low at *
    rw [show (54 : Int32) = nI 54 from rfl, lshr_N (by omega) (by omega), lN_add, show (18014398509481983 : Int64) = lN (2 ^ 54 - 1) from by decide, lmask_N (by omega) (by omega), jI_add]
    generalize M1 / 2 ^ 27 * (M2 / 2 ^ 27) + mid / 2 ^ 27 + low / 2 ^ 54 = high at *
    have c := lN_z (x := high) (by omega)
    by_cases d : high = 0
    · rw [ifp c d, if_pos d]
    · have hb := bl_le_of q4
      have e3 : (62 : Int32) - nI (bl high) = nI (62 - bl high) := pk_sub (a := 62) (by omega)
      have c2 : nI (62 - bl high) ≤ nI 54 ↔ 62 - bl high ≤ 54 := nI_leI (by omega) (by omega)
      rw [ifn c d, if_neg d, len_N (by omega), gb_some, e3]
      by_cases d2 : 62 - bl high ≤ 54
      · rw [ifp c2 d2, Nat.min_eq_left d2]
      · rw [ifn c2 d2, Nat.min_eq_right (by omega)]
  rw [key]
  dsimp only at q1 q2 q3 q4 ⊢
  generalize M1 / 2 ^ 27 * (M2 % 2 ^ 27) + M1 % 2 ^ 27 * (M2 / 2 ^ 27) = mid at *
  generalize M1 % 2 ^ 27 * (M2 % 2 ^ 27) + mid % 2 ^ 27 * 2 ^ 27 = low at *
  generalize M1 / 2 ^ 27 * (M2 / 2 ^ 27) + mid / 2 ^ 27 + low / 2 ^ 54 = high at *
  have hB : low % 2 ^ 54 < 2 ^ 54 := Nat.mod_lt _ (by omega)
  by_cases d : high = 0
  · simp only [if_pos d]
    rw [d, Nat.zero_mul, Nat.zero_add] at q1
    rw [← q1]
    apply PR_gb
    exact fit_PR hn hpos (by omega) (by omega) false
  · simp only [if_neg d]
    exact t274 hn hB q1 (by omega) q4 (by omega) rfl
