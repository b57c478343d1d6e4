/-! What setValue lays into a Real. -/
theorem sgD_1 {D : Nat} (h : D < 2 ^ 63) : sgD 1 D = lN (D + 2 ^ 63) := by
  unfold sgD
  rw [if_neg (by decide), show (-9223372036854775808 : Int64) = lN (1 * 2 ^ 63) from by decide, lor_N (by omega) (by omega), Nat.or_comm, lor_add h]
  congr 1
  omega
theorem sgF_1 {F : Nat} (h : F < 2 ^ 31) : sgF 1 F = lN (F + (2 ^ 64 - 2 ^ 31)) := by
  unfold sgF
  rw [if_neg (by decide), show (-2147483648 : Int64) = lN ((2 ^ 33 - 1) * 2 ^ 31) from by decide, lor_N (by omega) (by omega), Nat.or_comm, lor_add h]
  congr 1
  omega
theorem sgD_0 (D : Nat) : sgD 0 D = lN D := by unfold sgD; rw [if_pos rfl]
theorem sgF_0 (F : Nat) : sgF 0 F = lN F := by unfold sgF; rw [if_pos rfl]
theorem lN_nonneg {x : Nat} (h : x < 2 ^ 63) : (0 : Int64) ≤ lN x := by
  have := pk_lLE (a := 0) (b := x) (by omega) h
  exact this.mpr (Nat.zero_le x)
theorem lN_neg {x : Nat} (h : 2 ^ 63 ≤ x) (h2 : x < 2 ^ 64) : ¬ (0 : Int64) ≤ lN x := by
  rw [Int64.le_iff_toInt_le]
  show ¬ (0 : Int64).toInt ≤ (lN x).toBitVec.toInt
  rw [BitVec.toInt_eq_toNat_cond, lN_tn h2, if_neg (by omega)]
  have : (0 : Int64).toInt = 0 := by decide
  omega
theorem and_code {x k : Nat} (hk : k ≤ 31) {m : Int32} (hm : m.toBitVec.toNat = 2 ^ k - 1) : (Int64.toInt32 (lN x) &&& m) = nI (x % 2 ^ k) := by
  rw [lN_i, pk_and _ k hm]
  congr 1
  have e : (nI x).toBitVec.toNat = x % 2 ^ 32 := by
    show (BitVec.ofNat 32 x).toNat = _
    rw [BitVec.toNat_ofNat]
  rw [e, Nat.mod_mod_of_dvd]
  exact Nat.pow_dvd_pow 2 (by omega)
/-- the significand and the exponent that bits tell: c their exponent's, fr their fraction's -/
def vM (w c fr : Nat) : Nat := if c = 0 then fr else fr + 2 ^ w
def vE (w b c : Nat) : Int := (max c 1 : Nat) - b - w
def rv (w b : Nat) (n : Int32) (c fr : Nat) (sg : Int64) (ex : Int32) : gC :=
  if c = 2 * b + 1 then (if fr = 0 then rc 2 n sg ex else rc 3 n sg ex) else if c = 0 ∧ fr = 0 then rc 0 n sg ex
  else rc 1 n (lN (vM w c fr * 2 ^ (63 - bl (vM w c fr)))) (jI (vE w b c - (63 - bl (vM w c fr) : Nat)))
theorem setv40 {G : gG} {a : Nat} {k0 n0 : Int32} {sg : Int64} {ex : Int32} (h : G a = some (rc k0 n0 sg ex)) {v : Int64} {w b c fr : Nat} {n : Int32} (hn : n = 0 ∨ n = 1) (hs : (0 : Int64) ≤ v ↔ n = 0) (hc : (Int64.toInt32 (g_lushr v (nI w)) &&& nI (2 * b + 1)) = nI c) (hf : (v &&& (g_lshl 1 (nI w) - 1)) = lN fr) (hfr : fr < 2 ^ w) (hcb : c ≤ 2 * b + 1) (hw : w ≤ 52) (hb : b ≤ 1023) (hb0 : 1 ≤ b) :
    f_X2_setValue_40 G a v (nI w) (nI (2 * b + 1)) = some (g_up G a (rv w b n c fr sg ex)) := by
  have l1 : (1 : Int32) = jI 1 := rfl
  have e1 : nI (2 * b + 1) / 2 = nI b := by
    have := pk_div (a := 2 * b + 1) (d := 2) (by omega) (by omega) (by omega)
    rw [show (2 * b + 1) / 2 = b by omega] at this
    exact this
  have e2 : (1 : Int32) - nI b - nI w = jI (1 - b - w) := by rw [l1, nI_jI, nI_jI, jI_sub, jI_sub]
  have hwp : (2 : Nat) ^ w ≤ 2 ^ 52 := Nat.pow_le_pow_right (by omega) hw
  unfold f_X2_setValue_40
  simp only [gl]
  rw [hc, hf, e1, e2]
  have c1 : nI c = nI (2 * b + 1) ↔ c = 2 * b + 1 := nI_eq (by omega) (by omega)
  have c2 : lN fr = 0 ↔ fr = 0 := lN_z (by omega)
  have c3 : nI c = 0 ↔ c = 0 := nI_eq (b := 0) (by omega) (by omega)
  unfold rv
  by_cases d1 : c = 2 * b + 1
  · rw [ifp c1 d1, if_pos d1]
    by_cases d2 : fr = 0
    · rw [ifp c2 d2, if_pos d2]
      unfold f_X2_setValue_93 f_X2_setValue_104
      rcases hn with rfl | rfl
      · rw [ifp hs rfl, gck_true (rc_o h), setKind_ok h 2 (Or.inl rfl), gb_some]
      · rw [ifn hs (by decide), gck_true (rc_o h), setKind_ok h 2 (Or.inr rfl), gb_some]
    · rw [ifn c2 d2, if_neg d2]
      unfold f_X2_setValue_93 f_X2_setValue_104
      rcases hn with rfl | rfl
      · rw [ifp hs rfl, gck_true (rc_o h), setKind_ok h 3 (Or.inl rfl), gb_some]
      · rw [ifn hs (by decide), gck_true (rc_o h), setKind_ok h 3 (Or.inr rfl), gb_some]
  · rw [ifn c1 d1, if_neg d1]
    by_cases d3 : c = 0
    · rw [ifp c3 d3]
      by_cases d2 : fr = 0
      · rw [ifp c2 d2, if_pos (show c = 0 ∧ fr = 0 from ⟨d3, d2⟩)]
        unfold f_X2_setValue_189
        rcases hn with rfl | rfl
        · rw [ifp hs rfl, gck_true (rc_o h), setKind_ok h 0 (Or.inl rfl), gb_some]
        · rw [ifn hs (by decide), gck_true (rc_o h), setKind_ok h 0 (Or.inr rfl), gb_some]
      · rw [ifn c2 d2, if_neg (show ¬ (c = 0 ∧ fr = 0) from fun q => d2 q.2)]
        have hM : vM w c fr = fr := by unfold vM; rw [if_pos d3]
        have hE : vE w b c = 1 - b - w := by unfold vE; rw [d3]; omega
        rw [hM, hE]
        unfold f_X2_setValue_166
        rcases hn with rfl | rfl
        · rw [ifp hs rfl, gck_true (rc_o h), setFinite_ok h (Or.inl rfl) (by omega) (by omega), gb_some]
        · rw [ifn hs (by decide), gck_true (rc_o h), setFinite_ok h (Or.inr rfl) (by omega) (by omega), gb_some]
    · rw [ifn c3 d3, if_neg (show ¬ (c = 0 ∧ fr = 0) from fun q => d3 q.1)]
      have hM : vM w c fr = fr + 2 ^ w := by unfold vM; rw [if_neg d3]
      have hE : vE w b c = c - b - w := by unfold vE; omega
      have e5 : (lN fr ||| g_lshl 1 (nI w)) = lN (fr + 2 ^ w) := by
        rw [show (1 : Int64) = lN 1 from rfl, lshl_N 1 (by omega), lor_N (by omega) (by omega), Nat.or_comm, lor_add hfr]
        congr 1
        omega
      have e6 : jI (1 - b - w) + nI c - 1 = jI (c - b - w) := by
        rw [l1, nI_jI, jI_add, jI_sub]
        congr 1
        omega
      have hwp0 : 0 < 2 ^ w := Nat.two_pow_pos w
      rw [hM, hE]
      unfold f_X2_setValue_127
      rw [e5, e6]
      rcases hn with rfl | rfl
      · rw [ifp hs rfl, gck_true (rc_o h), setFinite_ok h (Or.inl rfl) (by omega) (by omega), gb_some]
      · rw [ifn hs (by decide), gck_true (rc_o h), setFinite_ok h (Or.inr rfl) (by omega) (by omega), gb_some]
theorem setValue_5 {G : gG} {a : Nat} {k0 n0 : Int32} {sg : Int64} {ex : Int32} (h : G a = some (rc k0 n0 sg ex)) {n : Int32} (hn : n = 0 ∨ n = 1) {D : Nat} (hD : D < 2 ^ 63) :
    f_X2_setValue G a (sgD n D) 5 = some (g_up G a (rv 52 1023 n (D / 2 ^ 52) (D % 2 ^ 52) sg ex)) := by
  unfold f_X2_setValue f_X2_setValue_10 f_X2_setValue_24
  rw [if_neg (by decide), if_pos rfl, if_pos rfl]
  have hm : (2047 : Int32).toBitVec.toNat = 2 ^ 11 - 1 := by decide
  rcases hn with rfl | rfl
  · rw [sgD_0]
    refine setv40 h (w := 52) (b := 1023) (Or.inl rfl) ⟨fun _ => rfl, fun _ => lN_nonneg hD⟩ ?_ ?_ (Nat.mod_lt _ (by omega)) (by omega) (by omega) (by omega) (by omega)
    · rw [lushr_N (by omega) (by omega)]
      refine (and_code (k := 11) (by omega) hm).trans ?_
      congr 1
      omega
    · rw [lsub1_N (by omega), lmask_N (by omega) (by omega)]
  · rw [sgD_1 hD]
    refine setv40 h (w := 52) (b := 1023) (Or.inr rfl) ⟨fun q => absurd q (lN_neg (by omega) (by omega)), fun q => absurd q (by decide)⟩ ?_ ?_ (Nat.mod_lt _ (by omega)) (by omega) (by omega) (by omega) (by omega)
    · rw [lushr_N (by omega) (by omega)]
      refine (and_code (k := 11) (by omega) hm).trans ?_
      congr 1
      omega
    · rw [lsub1_N (by omega), lmask_N (by omega) (by omega)]
      exact congrArg lN (by omega)
theorem setValue_4 {G : gG} {a : Nat} {k0 n0 : Int32} {sg : Int64} {ex : Int32} (h : G a = some (rc k0 n0 sg ex)) {n : Int32} (hn : n = 0 ∨ n = 1) {F : Nat} (hF : F < 2 ^ 31) :
    f_X2_setValue G a (sgF n F) 4 = some (g_up G a (rv 23 127 n (F / 2 ^ 23) (F % 2 ^ 23) sg ex)) := by
  unfold f_X2_setValue f_X2_setValue_10 f_X2_setValue_24
  rw [if_pos rfl, if_neg (by decide), if_neg (by decide)]
  have hm : (255 : Int32).toBitVec.toNat = 2 ^ 8 - 1 := by decide
  rcases hn with rfl | rfl
  · rw [sgF_0]
    refine setv40 h (w := 23) (b := 127) (Or.inl rfl) ⟨fun _ => rfl, fun _ => lN_nonneg (by omega)⟩ ?_ ?_ (Nat.mod_lt _ (by omega)) (by omega) (by omega) (by omega) (by omega)
    · rw [lushr_N (by omega) (by omega)]
      refine (and_code (k := 8) (by omega) hm).trans ?_
      congr 1
      omega
    · rw [lsub1_N (by omega), lmask_N (by omega) (by omega)]
  · rw [sgF_1 hF]
    refine setv40 h (w := 23) (b := 127) (Or.inr rfl) ⟨fun q => absurd q (lN_neg (by omega) (by omega)), fun q => absurd q (by decide)⟩ ?_ ?_ (Nat.mod_lt _ (by omega)) (by omega) (by omega) (by omega) (by omega)
    · rw [lushr_N (by omega) (by omega)]
      refine (and_code (k := 8) (by omega) hm).trans ?_
      congr 1
      omega
    · rw [lsub1_N (by omega), lmask_N (by omega) (by omega)]
      exact congrArg lN (by omega)
