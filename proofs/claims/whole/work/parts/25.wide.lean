/-! wide: floats' bits to doubles' bits. -/
theorem lshr_mask {x : Nat} (hx : x < 2 ^ 64) {k j : Nat} (h : k + j ≤ 64) (hk : k < 64) : (g_lshr (lN x) (nI k) &&& lN (2 ^ j - 1)) = lN (x / 2 ^ k % 2 ^ j) := by
  unfold g_lshr
  rw [nI_i64 hk]
  apply Int64.toBitVec_inj.mp
  rw [Int64.toBitVec_and, Int64.toBitVec_shiftRight, BitVec.sshiftRight_eq', lN_smod hk]
  apply BitVec.eq_of_getLsbD_eq
  intro i hi
  rw [BitVec.getLsbD_and, BitVec.getLsbD_sshiftRight]
  have e1 : (lN (2 ^ j - 1)).toBitVec.getLsbD i = decide (i < j) := by
    rw [lN_bv, BitVec.getLsbD_ofNat, Nat.testBit_two_pow_sub_one]
    simp [hi]
  have e2 : (lN (x / 2 ^ k % 2 ^ j)).toBitVec.getLsbD i = (decide (i < j) && x.testBit (k + i)) := by
    rw [lN_bv, BitVec.getLsbD_ofNat, Nat.testBit_mod_two_pow, Nat.testBit_div_two_pow]
    simp [hi, Nat.add_comm]
  have e3 : (lN x).toBitVec.getLsbD (k + i) = (decide (k + i < 64) && x.testBit (k + i)) := by
    rw [lN_bv, BitVec.getLsbD_ofNat]
  rw [e1, e2]
  by_cases c : i < j
  · have : k + i < 64 := by omega
    rw [if_pos this, e3]
    simp [c, this, hi]
  · simp [c]
theorem sgF_nonneg {n : Int32} (hn : n = 0 ∨ n = 1) {F : Nat} (hF : F < 2 ^ 31) : (0 : Int64) ≤ sgF n F ↔ n = 0 := by
  rcases hn with rfl | rfl
  · rw [sgF_0]; exact ⟨fun _ => rfl, fun _ => lN_nonneg (by omega)⟩
  · rw [sgF_1 hF]; exact ⟨fun q => absurd q (lN_neg (by omega) (by omega)), fun q => absurd q (by decide)⟩
/-- what wide answers, if it is a number -/
def wD (c fr : Nat) : Nat := if c = 255 then 2047 * 2 ^ 52 else if vM 23 c fr = 0 then 0 else epk 52 1023 (vM 23 c fr) (vE 23 127 c)
theorem wide_27 (n : Int32) {c fr : Nat} (hc : c ≤ 255) (hf : fr < 2 ^ 23) : f_X6_wide_27 (nI c) (lN fr) n = some (if c = 255 ∧ ¬ fr = 0 then 9221120237041090560 else sgD n (wD c fr)) := by
  unfold f_X6_wide_27 wD
  have c1 : nI c = 255 ↔ c = 255 := nI_eq (b := 255) (by omega) (by omega)
  have c2 : lN fr = 0 ↔ fr = 0 := lN_z (by omega)
  have c3 : nI c = 0 ↔ c = 0 := nI_eq (b := 0) (by omega) (by omega)
  by_cases d1 : c = 255
  · rw [ifp c1 d1, if_pos d1]
    by_cases d2 : fr = 0
    · rw [ifp c2 d2, if_neg (show ¬ (c = 255 ∧ ¬ fr = 0) from fun q => q.2 d2), show (9218868437227405312 : Int64) = lN (2047 * 2 ^ 52) from by decide, signed_ok]
    · rw [ifn c2 d2, if_pos (show c = 255 ∧ ¬ fr = 0 from ⟨d1, d2⟩)]
  · rw [ifn c1 d1, if_neg d1, if_neg (show ¬ (c = 255 ∧ ¬ fr = 0) from fun q => d1 q.1)]
    by_cases d3 : c = 0
    · have hM : vM 23 c fr = fr := by unfold vM; rw [if_pos d3]
      have hE : vE 23 127 c = -149 := by unfold vE; rw [d3]; omega
      rw [ifp c3 d3, hM, hE, show (-149 : Int32) = jI (-149) from rfl]
      by_cases d2 : fr = 0
      · rw [if_pos d2, d2, pack_0, gb_some]
      · have := bl_le_of hf
        rw [if_neg d2, pack_ok n (by omega) (by omega) (by omega) (by omega), gb_some]
    · have hM : vM 23 c fr = fr + 2 ^ 23 := by unfold vM; rw [if_neg d3]
      have hE : vE 23 127 c = c - 150 := by unfold vE; omega
      have e1 : (lN fr ||| 8388608) = lN (fr + 2 ^ 23) := by
        rw [show (8388608 : Int64) = lN (1 * 2 ^ 23) from by decide, lor_N (by omega) (by omega), Nat.or_comm, lor_add hf]
        exact congrArg lN (by omega)
      have e2 : nI c - 150 = jI (c - 150) := by rw [nI_jI, show (150 : Int32) = jI 150 from rfl, jI_sub]
      have hbl : bl (fr + 2 ^ 23) = 24 := bl_of (by omega) (by omega)
      rw [ifn c3 d3, hM, hE, if_neg (by omega), e1, e2, pack_ok n (by omega) (by omega) (by omega) (by omega), gb_some]
theorem wide_ok {n : Int32} (hn : n = 0 ∨ n = 1) {F : Nat} (hF : F < 2 ^ 31) : f_X6_wide (sgF n F) = some (if F / 2 ^ 23 = 255 ∧ ¬ F % 2 ^ 23 = 0 then 9221120237041090560 else sgD n (wD (F / 2 ^ 23) (F % 2 ^ 23))) := by
  have e1 : (g_lshr (sgF n F) 23 &&& 255) = lN (F / 2 ^ 23) := by
    rw [show (23 : Int32) = nI 23 from rfl, show (255 : Int64) = lN (2 ^ 8 - 1) from by decide]
    rcases hn with rfl | rfl
    · rw [sgF_0, lshr_mask (by omega) (by omega) (by omega)]
      exact congrArg lN (by omega)
    · rw [sgF_1 hF, lshr_mask (by omega) (by omega) (by omega)]
      exact congrArg lN (by omega)
  have e2 : (sgF n F &&& 8388607) = lN (F % 2 ^ 23) := by
    rw [show (8388607 : Int64) = lN (2 ^ 23 - 1) from by decide]
    rcases hn with rfl | rfl
    · rw [sgF_0, lmask_N (by omega) (by omega)]
    · rw [sgF_1 hF, lmask_N (by omega) (by omega)]
      exact congrArg lN (by omega)
  have c := sgF_nonneg hn hF
  have key := wide_27 n (c := F / 2 ^ 23) (fr := F % 2 ^ 23) (by omega) (Nat.mod_lt _ (by omega))
  unfold f_X6_wide
  simp only [gl]
  rw [e1, e2, lN_i]
  rcases hn with rfl | rfl
  · rw [ifp c rfl]; exact key
  · rw [ifn c (by decide)]; exact key
