/-! The reference's rest. -/
theorem pack_RV {n : Int32} {q : Nat} (hq : q < 2 ^ 53) {t : Int} (h1 : -1074 ≤ t) (h2 : t ≤ 971) : ∃ r, f_X6_pack n (lN q) (jI t) = some r ∧ RV r (if q = 0 then 0 else 1) n (uV q t) := by
  by_cases c : q = 0
  · subst c
    exact ⟨_, pack_0 n t, Or.inl ⟨rfl, Nat.zero_mul _, rfl⟩⟩
  · have hb := bl_le_of hq
    obtain ⟨j, j1, j2, j3, j4, -⟩ := epk_dec (q := q) (by omega) hb h1 (by omega)
    have bd : -1074 ≤ t - j := by rw [← j2]; exact (vE_bd (by omega)).1
    refine ⟨_, pack_ok n (by omega) (by omega) (by omega) (by omega), ?_⟩
    rw [if_neg c]
    refine Or.inr (Or.inl ⟨rfl, _, rfl, j4, j3, ?_⟩)
    rw [j1, j2]
    exact uV_shl (by omega)
theorem lf_core {x0 x2 C R R2 V : Int64} {d j j2 : Int32} {fu : Nat} (c1 : ¬ d ≤ j) (c3 : ¬ C = 0) (hs : R * 2 = R2) (hr : g_lrem R2 C = V) (hj : j + 1 = j2) : f_X6_left_129 (fu + 1) x0 x2 C d R j = f_X6_left_129 fu x0 x2 C d V j2 := by
  rw [f_X6_left_129, if_neg c1, gneL_ok c3]
  simp only [gl]
  rw [hs, hr, hj]
theorem lf_end {x0 x2 C R : Int64} {d j : Int32} {fu : Nat} {n : Int32} (hn : n = 0 ∨ n = 1) (hs : (0 : Int64) ≤ x0 ↔ n = 0) (c1 : d ≤ j) : f_X6_left_129 (fu + 1) x0 x2 C d R j = f_X6_left_164 x2 R n := by
  rw [f_X6_left_129, if_pos c1]
  rcases hn with rfl | rfl
  · rw [ifp hs rfl]
  · rw [ifn hs (by decide)]
theorem lf_loop {x0 x2 : Int64} {M : Nat} {n : Int32} (hn : n = 0 ∨ n = 1) (hs : (0 : Int64) ≤ x0 ↔ n = 0) (hM : 0 < M) (hM2 : M < 2 ^ 53) {d : Nat} (hd : d < 2 ^ 30) : ∀ (i j A fu : Nat), j + i = d →
    f_X6_left_129 (fu + i + 1) x0 x2 (lN M) (nI d) (lN (A % M)) (nI j) = f_X6_left_164 x2 (lN (A * 2 ^ i % M)) n := by
  intro i
  induction i with
  | zero =>
    intro j A fu h
    have c : nI d ≤ nI j ↔ d ≤ j := nI_leI (by omega) (by omega)
    rw [lf_end hn hs (c.mpr (by omega)), Nat.pow_zero, Nat.mul_one]
  | succ i ih =>
    intro j A fu h
    have c : nI d ≤ nI j ↔ d ≤ j := nI_leI (by omega) (by omega)
    have hlt : A % M < M := Nat.mod_lt _ hM
    have hzq := lN_z (x := M) (by omega)
    have e := (qstep (A := A) (c := M) (i := 1) hM).2
    have e1 : lN (A % M) * 2 = lN (A % M * 2 ^ 1) := by rw [show (2 : Int64) = lN 2 from rfl, lN_mul, Nat.pow_one]
    have e2 : nI j + 1 = nI (j + 1) := by rw [show (1 : Int32) = nI 1 from rfl, nI_jI, nI_jI, jI_add, nI_jI]; rfl
    rw [show fu + (i + 1) + 1 = (fu + i + 1) + 1 by omega, lf_core (fun z => by have := c.mp z; omega) (fun z => by have := hzq.mp z; omega) e1 (lrem_N (by omega) hM (by omega)) e2, ← e, ih (j + 1) (A * 2 ^ 1) fu (by omega), Nat.mul_assoc, ← Nat.pow_add, Nat.add_comm 1 i]
theorem lf_far {a b : Int64} {M1 M2 R : Int64} {d : Int32} {fu : Nat} (hfu : 5000 = fu) (na : f_X6_isNan a = 0) (nb : f_X6_isNan b = 0) (ia : f_X6_isInfinite a = 0) (zb : f_X6_isZero b = 0) (ib : f_X6_isInfinite b = 0) (za : f_X6_isZero a = 0) (m1 : f_X6_mantissa a = M1) (m2 : f_X6_mantissa b = M2) (hd : f_X6_exponent a - f_X6_exponent b = d) (c : (0 : Int32) ≤ d) (c2 : ¬ M2 = 0) (hr : g_lrem M1 M2 = R) : f_X6_left a b = f_X6_left_129 fu a b M2 d R 0 := by
  unfold f_X6_left
  rw [na, nb, ia, zb, ib, za, m1, m2, hd, hfu, if_pos rfl, if_pos rfl, if_pos rfl, if_pos rfl, if_pos rfl, if_pos rfl]
  simp only [gl]
  rw [if_pos c, gneL_ok c2, hr]
theorem lf_near {a b : Int64} {M1 M2 : Int64} {d L : Int32} {n : Int32} (hn : n = 0 ∨ n = 1) (hs : (0 : Int64) ≤ a ↔ n = 0) (na : f_X6_isNan a = 0) (nb : f_X6_isNan b = 0) (ia : f_X6_isInfinite a = 0) (zb : f_X6_isZero b = 0) (ib : f_X6_isInfinite b = 0) (za : f_X6_isZero a = 0) (m1 : f_X6_mantissa a = M1) (m2 : f_X6_mantissa b = M2) (hd : f_X6_exponent a - f_X6_exponent b = d) (c : ¬ (0 : Int32) ≤ d) (hl : f_X6_length M2 = some L) : f_X6_left a b = if L - d ≤ 62 then f_X6_left_102 a M1 M2 d n else some a := by
  unfold f_X6_left
  rw [na, nb, ia, zb, ib, za, m1, m2, hd, if_pos rfl, if_pos rfl, if_pos rfl, if_pos rfl, if_pos rfl, if_pos rfl]
  simp only [gl]
  rw [if_neg c, hl, gb_some]
  by_cases g : L - d ≤ 62
  · rw [if_pos g, if_pos g]
    rcases hn with rfl | rfl
    · rw [ifp hs rfl]
    · rw [ifn hs (by decide)]
  · rw [if_neg g, if_neg g]
theorem left_fin {a b : Int64} {n1 : Int32} {M1 M2 : Nat} {e1 e2 : Int} (hn : n1 = 0 ∨ n1 = 1) (hs : (0 : Int64) ≤ a ↔ n1 = 0) (na : f_X6_isNan a = 0) (nb : f_X6_isNan b = 0) (ia : f_X6_isInfinite a = 0) (zb : f_X6_isZero b = 0) (ib : f_X6_isInfinite b = 0) (za : f_X6_isZero a = 0) (m1 : f_X6_mantissa a = lN M1) (m2 : f_X6_mantissa b = lN M2) (p1 : f_X6_exponent a = jI e1) (p2 : f_X6_exponent b = jI e2) (h1 : 0 < M1 ∧ M1 < 2 ^ 53) (h2 : 0 < M2 ∧ M2 < 2 ^ 53) (b1 : -1074 ≤ e1 ∧ e1 ≤ 971) (b2 : -1074 ≤ e2 ∧ e2 ≤ 971) (hv : RV a 1 n1 (uV M1 e1)) :
    ∃ r, f_X6_left a b = some r ∧ RV r (if uV M1 e1 % uV M2 e2 = 0 then 0 else 1) n1 (uV M1 e1 % uV M2 e2) := by
  have hd : f_X6_exponent a - f_X6_exponent b = jI (e1 - e2) := by rw [p1, p2, jI_sub]
  have c : (0 : Int32) ≤ jI (e1 - e2) ↔ 0 ≤ e1 - e2 := jI_le (a := 0) (by omega) (by omega)
  have c2 : ¬ lN M2 = 0 := fun z => by have := (lN_z (x := M2) (by omega)).mp z; omega
  by_cases g : 0 ≤ e1 - e2
  · obtain ⟨d, hd'⟩ : ∃ d : Nat, e1 - e2 = d := ⟨(e1 - e2).toNat, by omega⟩
    obtain ⟨fu, hfu⟩ : ∃ fu : Nat, 5000 = fu + d + 1 := ⟨4999 - d, by omega⟩
    have hu : uV M1 e1 % uV M2 e2 = uV (M1 * 2 ^ d % M2) e2 := by
      have : uV M1 e1 = uV (M1 * 2 ^ d) e2 := by
        rw [← uV_split (by omega)]
        exact congrArg (uV M1) (by omega)
      rw [this]
      unfold uV
      rw [Nat.mul_mod_mul_right]
    have hlt : M1 * 2 ^ d % M2 < M2 := Nat.mod_lt _ h2.1
    rw [lf_far hfu na nb ia zb ib za m1 m2 hd (c.mpr g) c2 (lrem_N (by omega) h2.1 (by omega)), hd', jI_nI, show (0 : Int32) = nI 0 from rfl, lf_loop hn hs h2.1 h2.2 (by omega) d 0 M1 fu (by omega), hu]
    unfold f_X6_left_164
    obtain ⟨r, r1, r2⟩ := pack_RV (n := n1) (q := M1 * 2 ^ d % M2) (t := e2) (by omega) (by omega) (by omega)
    rw [p2, r1, gb_some]
    refine ⟨r, rfl, ?_⟩
    have hz : uV (M1 * 2 ^ d % M2) e2 = 0 ↔ M1 * 2 ^ d % M2 = 0 := by
      constructor
      · intro z
        rcases Nat.mul_eq_zero.mp z with z | z
        · exact z
        · have := Nat.two_pow_pos (e2 + 1200).toNat
          omega
      · intro z; rw [z]; exact Nat.zero_mul _
    by_cases z : M1 * 2 ^ d % M2 = 0
    · rw [if_pos z] at r2; rw [if_pos (hz.mpr z)]; exact r2
    · rw [if_neg z] at r2; rw [if_neg (fun y => z (hz.mp y))]; exact r2
  · obtain ⟨d, hd'⟩ : ∃ d : Nat, e1 - e2 = -(d : Int) := ⟨(e2 - e1).toNat, by omega⟩
    have hL := len_N (m := M2) (by omega)
    have hb := bl_le_of h2.2
    have hbp := bl_pos h2.1
    rw [lf_near hn hs na nb ia zb ib za m1 m2 hd (fun z => g (c.mp z)) hL]
    have e3 : nI (bl M2) - jI (e1 - e2) = jI (bl M2 + d) := by
      rw [nI_jI, jI_sub]
      exact congrArg jI (by omega)
    have c4 : jI (bl M2 + d) ≤ 62 ↔ (bl M2 : Int) + d ≤ 62 := jI_le (b := 62) (by omega) (by omega)
    have hu2 : uV M2 e2 = uV (M2 * 2 ^ d) e1 := by
      rw [← uV_split (by omega)]
      exact congrArg (uV M2) (by omega)
    rw [e3]
    by_cases g2 : (bl M2 : Int) + d ≤ 62
    · have hlt2 : M2 * 2 ^ d < 2 ^ 62 := by
        have h5 : M2 * 2 ^ d < 2 ^ bl M2 * 2 ^ d := Nat.mul_lt_mul_of_pos_right (bl_lt M2) (Nat.two_pow_pos _)
        have h6 : (2 : Nat) ^ bl M2 * 2 ^ d ≤ 2 ^ 62 := by rw [← Nat.pow_add]; exact Nat.pow_le_pow_right (by omega) (by omega)
        omega
      have hpos : 0 < M2 * 2 ^ d := Nat.mul_pos h2.1 (Nat.two_pow_pos _)
      have e4 : -jI (e1 - e2) = nI d := by rw [jI_neg, ← jI_nI]; exact congrArg jI (by omega)
      have hu : uV M1 e1 % uV M2 e2 = uV (M1 % (M2 * 2 ^ d)) e1 := by
        rw [hu2]
        unfold uV
        rw [Nat.mul_mod_mul_right]
      have hle := Nat.mod_le M1 (M2 * 2 ^ d)
      rw [ifp c4 g2, hu]
      unfold f_X6_left_102
      have c5 : ¬ lN (M2 * 2 ^ d) = 0 := fun z => by have := (lN_z (x := M2 * 2 ^ d) (by omega)).mp z; omega
      rw [e4, lshl_N _ (by omega), gneL_ok c5, lrem_N (by omega) hpos (by omega), p1]
      obtain ⟨r, r1, r2⟩ := pack_RV (n := n1) (q := M1 % (M2 * 2 ^ d)) (t := e1) (by omega) (by omega) (by omega)
      rw [r1, gb_some]
      refine ⟨r, rfl, ?_⟩
      have hz : uV (M1 % (M2 * 2 ^ d)) e1 = 0 ↔ M1 % (M2 * 2 ^ d) = 0 := by
        constructor
        · intro z
          rcases Nat.mul_eq_zero.mp z with z | z
          · exact z
          · have := Nat.two_pow_pos (e1 + 1200).toNat
            omega
        · intro z; rw [z]; exact Nat.zero_mul _
      by_cases z : M1 % (M2 * 2 ^ d) = 0
      · rw [if_pos z] at r2; rw [if_pos (hz.mpr z)]; exact r2
      · rw [if_neg z] at r2; rw [if_neg (fun y => z (hz.mp y))]; exact r2
    · have hge : 2 ^ 62 ≤ M2 * 2 ^ d := by
        have h5 := Nat.mul_le_mul_right (2 ^ d) (bl_le h2.1)
        rw [← Nat.pow_add] at h5
        exact Nat.le_trans (Nat.pow_le_pow_right (by omega) (by omega)) h5
      have hlt : uV M1 e1 < uV M2 e2 := by rw [hu2, uV_lt]; omega
      have hp : 0 < uV M1 e1 := uV_pos h1.1
      rw [ifn c4 g2, Nat.mod_eq_of_lt hlt, if_neg (by omega)]
      exact ⟨a, rfl, hv⟩
theorem left_ok {a b : Int64} {k1 k2 : Nat} {n1 n2 : Int32} {u1 u2 : Nat} (hn1 : n1 = 0 ∨ n1 = 1) (hn2 : n2 = 0 ∨ n2 = 1) (v1 : RV a k1 n1 u1) (v2 : RV b k2 n2 u2) : ∃ r, f_X6_left a b = some r ∧ RV r (restK k1 u1 k2 u2) n1 (restU k1 u1 k2 u2) := by
  have nanV : ∀ u, RV 9221120237041090560 3 n1 u := fun u => Or.inr (Or.inr (Or.inr ⟨rfl, rfl⟩))
  have nanK : (k1 = 3 ∨ k2 = 3 ∨ k1 = 2 ∨ k2 = 0) → f_X6_left a b = some 9221120237041090560 → ∃ r, f_X6_left a b = some r ∧ RV r (restK k1 u1 k2 u2) n1 (restU k1 u1 k2 u2) := by
    intro h e
    refine ⟨_, e, ?_⟩
    unfold restK
    rw [if_pos h]
    exact nanV _
  rcases v1.num with ⟨rfl, rfl⟩ | ⟨D1, w1⟩
  · refine nanK (Or.inl rfl) ?_
    unfold f_X6_left
    rw [isNan_nan, if_neg (by decide)]
  · rcases v2.num with ⟨rfl, rfl⟩ | ⟨D2, w2⟩
    · refine nanK (Or.inr (Or.inl rfl)) ?_
      unfold f_X6_left
      rw [w1.nan hn1, if_pos rfl, isNan_nan, if_neg (by decide)]
    · have N1 := w1.nan hn1
      have N2 := w2.nan hn2
      have I1 := w1.inf hn1
      have I2 := w2.inf hn2
      have Z1 := w1.zero hn1
      have Z2 := w2.zero hn2
      have k1r := w1.2.2.1
      have k2r := w2.2.2.1
      by_cases c1 : k1 = 2 ∨ k2 = 0
      · refine nanK (by omega) ?_
        unfold f_X6_left
        rw [N1, N2, I1, Z2]
        rcases k1r with rfl | rfl | rfl <;> rcases k2r with rfl | rfl | rfl <;> first | omega | simp (decide := true) only [if_true, if_false]
      · by_cases c2 : k1 = 0 ∨ k2 = 2
        · refine ⟨a, ?_, ?_⟩
          · unfold f_X6_left
            rw [N1, N2, I1, Z2, I2, Z1]
            rcases k1r with rfl | rfl | rfl <;> rcases k2r with rfl | rfl | rfl <;> first | omega | simp (decide := true) only [if_true, if_false]
          · unfold restK restU
            rw [if_neg (by omega), if_pos c2, if_neg (by omega)]
            exact v1
        · have q1 : k1 = 1 := by omega
          have q2 : k2 = 1 := by omega
          obtain ⟨M1, e1, m1, p1, a1, a2, a3, a4, a5⟩ := w1.fin hn1 (by omega) (by omega)
          obtain ⟨M2, e2, m2, p2, d1, d2, d3, d4, d5⟩ := w2.fin hn2 (by omega) (by omega)
          rw [if_neg (by omega)] at I1 I2 Z1 Z2
          have hk : restK k1 u1 k2 u2 = if u1 % u2 = 0 then 0 else 1 := by
            unfold restK
            rw [if_neg (by omega), if_neg (by omega)]
          have hU : restU k1 u1 k2 u2 = u1 % u2 := by
            unfold restU
            rw [if_pos ⟨q1, q2⟩]
          rw [hk, hU, ← a5, ← d5]
          rw [q1, ← a5] at v1
          exact left_fin hn1 (w1.sg hn1) N1 N2 I1 Z2 I2 Z1 m1 m2 p1 p2 ⟨a1, a2⟩ ⟨d1, d2⟩ ⟨a3, a4⟩ ⟨d3, d4⟩ v1
theorem dv_D {w b B : Nat} (h : b + w ≤ 1075) : 2 ^ 126 ∣ uD w b B := by
  have := vE_ge (w := w) (b := b) (c := B / 2 ^ w)
  unfold uD uV
  exact Nat.dvd_trans (Nat.pow_dvd_pow 2 (by omega)) (Nat.dvd_mul_left _ _)
theorem RV.dv {a : Int64} {k : Nat} {n : Int32} {u : Nat} (h : RV a k n u) (hk : k = 1) : 2 ^ 126 ∣ u := by
  rcases h with ⟨rfl, -, -⟩ | ⟨rfl, D, -, -, -, rfl⟩ | ⟨rfl, -⟩ | ⟨rfl, -⟩
  · omega
  · exact dv_D (w := 52) (b := 1023) (by omega)
  · omega
  · omega
theorem F4_mod {u1 u2 : Nat} (h1 : F4 u1) (h2 : F4 u2) (h : ¬ u1 % u2 = 0) : F4 (u1 % u2) := by
  obtain ⟨q1, t1, a1, a2, a3, a4, rfl⟩ := h1
  obtain ⟨q2, t2, b1, b2, b3, b4, rfl⟩ := h2
  by_cases c : t2 ≤ t1
  · have e : uV q1 t1 = uV (q1 * 2 ^ (t1 - t2).toNat) t2 := by
      rw [← uV_split (by omega)]
      exact congrArg (uV q1) (by omega)
    have e2 : uV q1 t1 % uV q2 t2 = uV (q1 * 2 ^ (t1 - t2).toNat % q2) t2 := by
      rw [e]
      unfold uV
      rw [Nat.mul_mod_mul_right]
    rw [e2] at h ⊢
    have hlt : q1 * 2 ^ (t1 - t2).toNat % q2 < q2 := Nat.mod_lt _ b1
    have hb := bl_mono (Nat.le_of_lt hlt)
    refine ⟨_, _, Nat.pos_of_ne_zero (fun z => h ?_), by omega, b3, by omega, rfl⟩
    rw [z]; exact Nat.zero_mul _
  · have e : uV q2 t2 = uV (q2 * 2 ^ (t2 - t1).toNat) t1 := by
      rw [← uV_split (by omega)]
      exact congrArg (uV q2) (by omega)
    have e2 : uV q1 t1 % uV q2 t2 = uV (q1 % (q2 * 2 ^ (t2 - t1).toNat)) t1 := by
      rw [e]
      unfold uV
      rw [Nat.mul_mod_mul_right]
    rw [e2] at h ⊢
    have hle := Nat.mod_le q1 (q2 * 2 ^ (t2 - t1).toNat)
    have hb := bl_mono hle
    refine ⟨_, _, Nat.pos_of_ne_zero (fun z => h ?_), by omega, a3, by omega, rfl⟩
    rw [z]; exact Nat.zero_mul _
