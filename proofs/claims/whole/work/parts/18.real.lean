/-! The cells of Real: what its methods do to them. -/
def rc (k ng : Int32) (sg : Int64) (ex : Int32) : gC := .inl (1, [.int k, .int ng, .long sg, .int ex])
theorem g_up_same (G : gG) (a : Nat) (c : gC) : g_up G a c a = some c := by simp [g_up]
theorem g_up_ne {G : gG} {a b : Nat} {c : gC} (h : b ≠ a) : g_up G a c b = G b := by simp [g_up, h]
theorem g_up_up (G : gG) (a : Nat) (c d : gC) : g_up (g_up G a c) a d = g_up G a d := by
  funext b
  unfold g_up
  split <;> rfl
theorem g_up_id {G : gG} {a : Nat} {c : gC} (h : G a = some c) : g_up G a c = G := by
  funext b
  unfold g_up
  split
  · rename_i e; rw [e, h]
  · rfl
section RC
variable {G : gG} {a : Nat} {k ng : Int32} {sg : Int64} {ex : Int32}
theorem rc_k (h : G a = some (rc k ng sg ex)) : g_fI G a 1 0 = some k := by simp [g_fI, g_fld, h, rc]
theorem rc_n (h : G a = some (rc k ng sg ex)) : g_fI G a 1 1 = some ng := by simp [g_fI, g_fld, h, rc]
theorem rc_s (h : G a = some (rc k ng sg ex)) : g_fL G a 1 2 = some sg := by simp [g_fL, g_fld, h, rc]
theorem rc_e (h : G a = some (rc k ng sg ex)) : g_fI G a 1 3 = some ex := by simp [g_fI, g_fld, h, rc]
theorem rc_o (h : G a = some (rc k ng sg ex)) : g_isO G a 1 = true := by simp [g_isO, h, rc]
theorem rc_sk (h : G a = some (rc k ng sg ex)) (v : Int32) : g_sI G a 1 0 v = some (g_up G a (rc v ng sg ex)) := by simp [g_sI, g_st, h, rc]
theorem rc_sn (h : G a = some (rc k ng sg ex)) {v : Int32} (hv : v = 0 ∨ v = 1) : g_sZ G a 1 1 v = some (g_up G a (rc k v sg ex)) := by simp [g_sZ, g_st, h, rc, hv]
theorem rc_ss (h : G a = some (rc k ng sg ex)) (v : Int64) : g_sL G a 1 2 v = some (g_up G a (rc k ng v ex)) := by simp [g_sL, g_st, h, rc]
theorem rc_se (h : G a = some (rc k ng sg ex)) (v : Int32) : g_sI G a 1 3 v = some (g_up G a (rc k ng sg v)) := by simp [g_sI, g_st, h, rc]
end RC
theorem gb_some {α β : Type} (x : α) (k : α → Option β) : gb (some x) k = k x := rfl
theorem gb2_some {α β γ : Type} (x : α) (y : β) (k : α → β → Option γ) : gb2 (some (x, y)) k = k x y := rfl
theorem gb3_some {α β γ δ : Type} (x : α) (y : β) (z : γ) (k : α → β → γ → Option δ) : gb3 (some (x, y, z)) k = k x y z := rfl
theorem gck_true {b : Bool} (h : b = true) {β : Type} (k : Option β) : gck b k = k := by rw [h]; rfl
theorem gneL_ok {y : Int64} (h : ¬ y = 0) {β : Type} (k : Option β) : gneL y k = k := by unfold gneL; rw [if_neg h]
theorem gne_ok {y : Int32} (h : ¬ y = 0) {β : Type} (k : Option β) : gne y k = k := by unfold gne; rw [if_neg h]
theorem setKind_ok {G : gG} {a : Nat} {k ng : Int32} {sg : Int64} {ex : Int32} (h : G a = some (rc k ng sg ex)) (k' : Int32) {n' : Int32} (hn : n' = 0 ∨ n' = 1) : f_X2_setKind G a k' n' = some (g_up G a (rc k' n' sg ex)) := by
  unfold f_X2_setKind
  rw [rc_sk h, gb_some, rc_sn (g_up_same _ _ _) hn, gb_some, g_up_up]
theorem ifp {c d : Prop} {α : Type} {x y : α} {hd : Decidable c} (h : c ↔ d) (k : d) : @ite α c hd x y = x := if_pos (h.mpr k)
theorem ifn {c d : Prop} {α : Type} {x y : α} {hd : Decidable c} (h : c ↔ d) (k : ¬ d) : @ite α c hd x y = y := if_neg (fun q => k (h.mp q))
theorem lN_z {x : Nat} (h : x < 2 ^ 64) : lN x = 0 ↔ x = 0 := by
  constructor
  · intro q
    have := congrArg (fun z : Int64 => z.toBitVec.toNat) q
    exact (lN_tn h).symm.trans this
  · rintro rfl; rfl
theorem fin_step {G : gG} {a : Nat} {n : Int32} {m0 : Nat} (h0 : 0 < m0) {K : Nat} {E : Int} (b : Nat) (hb1 : 1 ≤ b) (hb2 : b ≤ 32) (hlt : m0 * 2 ^ K < 2 ^ 63) (hge : 64 ≤ bl m0 + K + 2 * b) (fu : Nat) :
    ∃ K' : Nat, f_X2_setFinite_25 (fu + 1) (g_up G a (rc 1 n (lN (m0 * 2 ^ K)) (jI (E - K)))) a (nI b) = f_X2_setFinite_25 fu (g_up G a (rc 1 n (lN (m0 * 2 ^ K')) (jI (E - K')))) a (nI (b / 2)) ∧ m0 * 2 ^ K' < 2 ^ 63 ∧ 64 ≤ bl m0 + K' + b := by
  have e1 : ¬ (nI b < 1) := by
    have : (1 : Int32) = nI 1 := rfl
    rw [this, nI_ltI (by omega) (by omega)]; omega
  have e2 : (63 : Int32) - nI b = nI (63 - b) := pk_sub (a := 63) (b := b) (by omega)
  have e3 : nI b / 2 = nI (b / 2) := pk_div (a := b) (d := 2) (by omega) (by omega) (by omega)
  have hl := bl_shl h0 K
  rw [f_X2_setFinite_25, if_neg e1, rc_s (g_up_same _ _ _), gb_some, e2, lushr_N (by omega) (by omega)]
  by_cases c : m0 * 2 ^ K < 2 ^ (63 - b)
  · have e4 : lN (m0 * 2 ^ K / 2 ^ (63 - b)) = 0 := by rw [Nat.div_eq_of_lt c]; rfl
    refine ⟨K + b, ?_, ?_, ?_⟩
    · rw [if_pos e4, gb_some, rc_ss (g_up_same _ _ _), gb_some, rc_e (g_up_same _ _ _), gb_some, rc_se (g_up_same _ _ _), gb_some, g_up_up, g_up_up]
      unfold f_X2_setFinite_68
      simp only [gl]
      rw [e3, lshl_N _ (by omega), nI_jI b, jI_sub, Nat.mul_assoc, ← Nat.pow_add, Int.sub_sub]
      push_cast
      rfl
    · rw [Nat.pow_add, ← Nat.mul_assoc]
      calc m0 * 2 ^ K * 2 ^ b < 2 ^ (63 - b) * 2 ^ b := Nat.mul_lt_mul_of_pos_right c (Nat.two_pow_pos b)
        _ = 2 ^ 63 := by rw [← Nat.pow_add]; congr 1; omega
    · omega
  · have e4 : ¬ lN (m0 * 2 ^ K / 2 ^ (63 - b)) = 0 := by
      rw [lN_z (Nat.lt_of_le_of_lt (Nat.div_le_self _ _) (by omega))]
      have := Nat.div_pos (Nat.not_lt.mp c) (Nat.two_pow_pos _)
      omega
    have := bl_ge_of (Nat.not_lt.mp c)
    refine ⟨K, ?_, hlt, by omega⟩
    rw [if_neg e4]
    unfold f_X2_setFinite_68
    simp only [gl]
    rw [e3]
theorem setFinite_ok {G : gG} {a : Nat} {k ng : Int32} {sg : Int64} {ex : Int32} (h : G a = some (rc k ng sg ex)) {n : Int32} (hn : n = 0 ∨ n = 1) {m : Nat} (h0 : 0 < m) (hm : m < 2 ^ 63) (E : Int) :
    f_X2_setFinite G a n (lN m) (jI E) = some (g_up G a (rc 1 n (lN (m * 2 ^ (63 - bl m))) (jI (E - (63 - bl m : Nat))))) := by
  unfold f_X2_setFinite
  rw [rc_sk h, gb_some, rc_sn (g_up_same _ _ _) hn, gb_some, g_up_up, rc_ss (g_up_same _ _ _), gb_some, g_up_up, rc_se (g_up_same _ _ _), gb_some, g_up_up]
  have hp := bl_pos h0
  obtain ⟨K1, q1, l1, g1⟩ := fin_step (G := G) (a := a) (n := n) h0 (K := 0) (E := E) 32 (by omega) (by omega) (by omega) (by omega) 4999
  obtain ⟨K2, q2, l2, g2⟩ := fin_step (G := G) (a := a) (n := n) h0 (E := E) 16 (by omega) (by omega) l1 (by omega) 4998
  obtain ⟨K3, q3, l3, g3⟩ := fin_step (G := G) (a := a) (n := n) h0 (E := E) 8 (by omega) (by omega) l2 (by omega) 4997
  obtain ⟨K4, q4, l4, g4⟩ := fin_step (G := G) (a := a) (n := n) h0 (E := E) 4 (by omega) (by omega) l3 (by omega) 4996
  obtain ⟨K5, q5, l5, g5⟩ := fin_step (G := G) (a := a) (n := n) h0 (E := E) 2 (by omega) (by omega) l4 (by omega) 4995
  obtain ⟨K6, q6, l6, g6⟩ := fin_step (G := G) (a := a) (n := n) h0 (E := E) 1 (by omega) (by omega) l5 (by omega) 4994
  have hK : K6 = 63 - bl m := by
    have := bl_le_of l6
    rw [bl_shl h0] at this
    omega
  have e0 : g_up G a (rc 1 n (lN m) (jI E)) = g_up G a (rc 1 n (lN (m * 2 ^ 0)) (jI (E - (0 : Nat)))) := by
    rw [Nat.pow_zero, Nat.mul_one]
    simp
  rw [e0]
  show f_X2_setFinite_25 (4999 + 1) _ a (nI 32) = _
  rw [q1, q2, q3, q4, q5, q6, hK]
  show f_X2_setFinite_25 (4993 + 1) _ a (nI 0) = _
  rw [f_X2_setFinite_25, if_pos (by decide)]
theorem toNear_ok {m : Nat} (hm : m < 2 ^ 63) {k : Nat} (h1 : 1 ≤ k) (hk : k < 2 ^ 31) : f_X2_shiftedToNearest (lN m) (nI k) = lN (rs m k false) := by
  unfold f_X2_shiftedToNearest
  have c1 : ¬ (nI k < 1) := by
    have : (1 : Int32) = nI 1 := rfl
    rw [this, nI_ltI (by omega) (by omega)]; omega
  rw [if_neg c1]
  have c2 : nI k ≤ 63 ↔ k ≤ 63 := by
    have : (63 : Int32) = nI 63 := rfl
    rw [this, nI_leI (by omega) (by omega)]
  by_cases h2 : k ≤ 63
  · rw [if_pos (c2.mpr h2)]
    simp only [gl]
    have hp : 0 < 2 ^ k := Nat.two_pow_pos k
    have hp64 : (2 : Nat) ^ k ≤ 2 ^ 63 := Nat.pow_le_pow_right (by omega) h2
    have hr : m % 2 ^ k < 2 ^ k := Nat.mod_lt _ hp
    have hq : m / 2 ^ k ≤ m := Nat.div_le_self _ _
    have e1 : nI k - 1 = nI (k - 1) := pk_sub (a := k) (b := 1) h1
    have hh : (2 : Nat) ^ (k - 1) < 2 ^ 63 := Nat.pow_lt_pow_right (by omega) (by omega)
    have e2 : g_lshl 1 (nI (k - 1)) = lN (2 ^ (k - 1)) := by
      have := lshl_N 1 (k := k - 1) (by omega)
      rw [Nat.one_mul] at this
      exact this
    have e3 : (lN m &&& (g_lshl 1 (nI k) - 1)) = lN (m % 2 ^ k) := by
      rw [lsub1_N (by omega), lmask_N (by omega) (by omega)]
    have e4 : (lN (m / 2 ^ k) &&& 1) = lN (m / 2 ^ k % 2) := by
      have := lmask_N (a := m / 2 ^ k) (by omega) (k := 1) (by omega)
      rw [Nat.pow_one] at this
      exact this
    rw [lushr_N (by omega) (by omega), e3, e1, e2, e4]
    have f1 := pk_lLT (a := 2 ^ (k - 1)) (b := m % 2 ^ k) hh (by omega)
    have f2 := pk_lEQ (a := m % 2 ^ k) (b := 2 ^ (k - 1)) (by omega) hh
    have e5 : lN (m / 2 ^ k % 2) = 1 ↔ m / 2 ^ k % 2 = 1 := by
      have : (1 : Int64) = lN 1 := rfl
      rw [this, pk_lEQ (by omega) (by omega)]
    have e6 : f_X2_shiftedToNearest_66 (lN (m / 2 ^ k)) = lN (m / 2 ^ k + 1) := by
      unfold f_X2_shiftedToNearest_66
      exact lN_1 _
    rw [e6]
    unfold rs
    by_cases d1 : 2 ^ (k - 1) < m % 2 ^ k
    · rw [ifp f1 d1, if_pos (Or.inl d1)]
    · rw [ifn f1 d1]
      by_cases d2 : m % 2 ^ k = 2 ^ (k - 1)
      · rw [ifp f2 d2]
        by_cases d3 : m / 2 ^ k % 2 = 1
        · rw [if_pos (e5.mpr d3), if_pos (Or.inr ⟨d2, Or.inr d3⟩)]
        · rw [if_neg (fun q => d3 (e5.mp q)), if_neg]
          rintro (q | ⟨-, q | q⟩)
          · exact d1 q
          · cases q
          · exact d3 q
      · rw [ifn f2 d2, if_neg]
        rintro (q | ⟨q, -⟩)
        · exact d1 q
        · exact d2 q
  · rw [if_neg (fun q => h2 (c2.mp q))]
    unfold f_X2_shiftedToNearest_11
    have c3 : (1 : Int32) ≤ nI k := by
      have : (1 : Int32) = nI 1 := rfl
      rw [this, nI_leI (by omega) (by omega)]; omega
    have hs : m < 2 ^ (k - 1) := Nat.lt_of_lt_of_le hm (Nat.pow_le_pow_right (by omega) (by omega))
    rw [if_pos c3, rs_small false hs]
    rfl
