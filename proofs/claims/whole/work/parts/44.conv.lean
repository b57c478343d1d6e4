/-! Conversions. -/
theorem fit_0 (n : Int32) (e st lane : Int32) : f_X6_fit n (lN 0) e st lane = some (sgD n 0) := by
  unfold f_X6_fit
  rw [if_pos (show lN 0 = 0 from rfl)]
  rfl
/-- a whole number's value -/
def whZ (w b : Nat) (n : Int32) (m : Nat) : Option (Int32 × Nat) := some (n, if m = 0 then 0 else enc w b m 0 false)
theorem whZ_ok {w b : Nat} {n : Int32} {m : Nat} (h : n = 0 ∨ n = 1) : OKZ w b (whZ w b n m) := by
  intro q hq
  unfold whZ at hq
  cases hq
  refine ⟨h, ?_⟩
  show (if m = 0 then 0 else enc w b m 0 false) ≤ infB w b
  split
  · exact Nat.zero_le _
  · exact enc_le'
/-- a long's sign and size -/
theorem long_cs (x : Int64) : ∃ (n : Int32) (m : Nat), (n = 0 ∧ x = lN m ∧ m < 2 ^ 63) ∨ (n = 1 ∧ -x = lN m ∧ x = lN (2 ^ 64 - m) ∧ 0 < m ∧ m ≤ 2 ^ 63) := by
  obtain ⟨X, hX, rfl⟩ := i64_N x
  by_cases c : X < 2 ^ 63
  · exact ⟨0, X, Or.inl ⟨rfl, rfl, c⟩⟩
  · exact ⟨1, 2 ^ 64 - X, Or.inr ⟨rfl, neg_N (by omega) hX, congrArg lN (by omega), by omega, by omega⟩⟩
theorem setWhole_ok {G : gG} {a : Nat} {c0 : gC} (hG : G a = some c0) (hr : isR c0) {x : Int64} {n : Int32} {m : Nat} (hx : (n = 0 ∧ x = lN m ∧ m < 2 ^ 63) ∨ (n = 1 ∧ -x = lN m ∧ x = lN (2 ^ 64 - m) ∧ 0 < m ∧ m ≤ 2 ^ 63)) :
    ∃ c, f_X2_setWhole G a x = some (g_up G a c) ∧ isR c ∧ TV c (whZ 23 127 n m) (whZ 52 1023 n m) := by
  obtain ⟨k0, n0, s0, e0, rfl⟩ := hr
  unfold f_X2_setWhole f_X2_setWhole_47
  rcases hx with ⟨rfl, rfl, h⟩ | ⟨rfl, h1, h2, h3, h4⟩
  · have hz := lN_z (x := m) (by omega)
    have hmin : lN m = -9223372036854775808 ↔ m = 2 ^ 63 := lN_inj (b := 2 ^ 63) (by omega) (by omega)
    by_cases c : m = 0
    · rw [ifp hz c, gck_true (rc_o hG), setKind_ok hG 0 (Or.inl rfl), gb_some, c]
      exact ⟨_, rfl, ⟨_, _, _, _, rfl⟩, TV_zero⟩
    · have F : f_X2_setFinite G a 0 (lN m) 0 = _ := setFinite_ok hG (Or.inl rfl) (show 0 < m by omega) h 0
      rw [ifn hz c, ifn hmin (by omega), if_pos (lN_nonneg h), gck_true (rc_o hG), abs_N h, F, gb_some]
      refine ⟨_, rfl, ⟨_, _, _, _, rfl⟩, ?_⟩
      unfold whZ
      rw [if_neg c, if_neg c]
      exact TV_of (tv_fin (by omega) h (by omega))
  · have hz : x = 0 ↔ m = 2 ^ 64 := by rw [h2, lN_z (by omega)]; omega
    have hmin : x = -9223372036854775808 ↔ m = 2 ^ 63 := by
      rw [h2]
      have q : lN (2 ^ 64 - m) = lN (2 ^ 63) ↔ 2 ^ 64 - m = 2 ^ 63 := lN_inj (by omega) (by omega)
      have r : 2 ^ 64 - m = 2 ^ 63 ↔ m = 2 ^ 63 := by omega
      rw [show (-9223372036854775808 : Int64) = lN (2 ^ 63) from by decide]
      exact q.trans r
    have hneg : ¬ (0 : Int64) ≤ x := by rw [h2]; exact lN_neg (by omega) (by omega)
    unfold whZ
    rw [ifn hz (by omega), if_neg (show ¬ m = 0 by omega), if_neg (show ¬ m = 0 by omega)]
    by_cases c : m = 2 ^ 63
    · have F : f_X2_setFinite G a 1 (lN (2 ^ 62)) 1 = _ := setFinite_ok hG (Or.inr rfl) (show 0 < 2 ^ 62 by omega) (by omega) 1
      rw [ifp hmin c, gck_true (rc_o hG), show (4611686018427387904 : Int64) = lN (2 ^ 62) from by decide, F, gb_some, c]
      refine ⟨_, rfl, ⟨_, _, _, _, rfl⟩, ?_⟩
      have e4 := enc_shl 23 127 (m := 2 ^ 62) (e := 1) 1 (by omega)
      have e5 := enc_shl 52 1023 (m := 2 ^ 62) (e := 1) 1 (by omega)
      rw [show (1 : Int) - ((1 : Nat) : Int) = 0 by omega, show (2 : Nat) ^ 62 * 2 ^ 1 = 2 ^ 63 by omega] at e4 e5
      rw [e4, e5]
      exact TV_of (tv_fin (n := 1) (by omega) (by omega) (by omega))
    · have hab : f_J9_abs_067f4 x = lN m := by
        unfold f_J9_abs_067f4
        rw [if_neg hneg, h1]
      have F : f_X2_setFinite G a 1 (lN m) 0 = _ := setFinite_ok hG (Or.inr rfl) h3 (by omega) 0
      rw [ifn hmin c, if_neg hneg, gck_true (rc_o hG), hab, F, gb_some]
      exact ⟨_, rfl, ⟨_, _, _, _, rfl⟩, TV_of (tv_fin (by omega) (by omega) (by omega))⟩
theorem ofWhole_22 {n : Int32} (hn : n = 0 ∨ n = 1) {m : Nat} (hm : m ≤ 2 ^ 63) : PR (fun lane => f_X6_ofWhole_22 lane n (lN m)) (whZ 23 127 n m) (whZ 52 1023 n m) := by
  have hL := len_N (m := m) (by omega)
  have hb := bl_le_of (m := m) (k := 64) (by omega)
  have c63 : (63 : Int32) ≤ nI (bl m) ↔ 63 ≤ bl m := nI_leI (a := 63) (by omega) (by omega)
  unfold f_X6_ofWhole_22 f_X6_ofWhole_66 whZ
  rw [hL]
  simp only [gb_some]
  by_cases g : 63 ≤ bl m
  · have hm2 : 2 ^ 62 ≤ m := by
      have hp : 0 < m := Nat.pos_of_ne_zero (fun z => by rw [z, show bl 0 = 0 from rfl] at g; omega)
      have := bl_le hp
      exact Nat.le_trans (Nat.pow_le_pow_right (by omega) (by omega)) this
    simp only [if_pos (c63.mpr g)]
    have e1 : g_lushr (lN m) 2 = lN (m / 2 ^ 2) := lushr_N (by omega) (k := 2) (by omega)
    have e2 : (lN m &&& 3) = lN (m % 2 ^ 2) := lmask_N (by omega) (k := 2) (by omega)
    have c := lN_z (x := m % 2 ^ 2) (by omega)
    have hbl := bl_ge_of (m := m / 2 ^ 2) (k := 60) (by omega)
    have E4 := enc_ts 23 127 (N := m) (d := 2) (E := 0) (by omega) (Or.inr (by omega))
    have E5 := enc_ts 52 1023 (N := m) (d := 2) (E := 0) (by omega) (Or.inr (by omega))
    rw [show (0 : Int) + ((2 : Nat) : Int) = 2 by omega] at E4 E5
    have F := fit_PR hn (m := m / 2 ^ 2) (by omega) (by omega) (e := 2) (by omega) (decide (m % 2 ^ 2 ≠ 0))
    rw [E4, E5] at F
    rw [if_neg (show ¬ m = 0 by omega), if_neg (show ¬ m = 0 by omega), e1, e2]
    by_cases d : m % 2 ^ 2 = 0
    · rw [decide_eq_false (fun q => q d)] at F
      simp only [if_pos (c.mpr d)]
      exact PR_gb F
    · rw [decide_eq_true d] at F
      simp only [if_neg (fun q => d (c.mp q))]
      exact PR_gb F
  · simp only [if_neg (fun q => g (c63.mp q))]
    apply PR_gb
    by_cases d : m = 0
    · rw [if_pos d, if_pos d, d]
      have e : (fun lane => f_X6_fit n (lN 0) 0 0 lane) = fun _ => some (sgD n 0) := funext (fun lane => fit_0 n 0 0 lane)
      have key : PR (fun lane => f_X6_fit n (lN 0) 0 0 lane) (some (n, 0)) (some (n, 0)) := by rw [e]; exact PR_z hn
      exact key
    · rw [if_neg d, if_neg d]
      have hlt : m < 2 ^ 62 := Nat.lt_of_lt_of_le (bl_lt m) (Nat.pow_le_pow_right (by omega) (by omega))
      exact fit_PR hn (by omega) hlt (e := 0) (by omega) false
theorem ofWhole_ok {x : Int64} {n : Int32} {m : Nat} (hx : (n = 0 ∧ x = lN m ∧ m < 2 ^ 63) ∨ (n = 1 ∧ -x = lN m ∧ x = lN (2 ^ 64 - m) ∧ 0 < m ∧ m ≤ 2 ^ 63)) : PR (fun lane => f_X6_ofWhole x lane) (whZ 23 127 n m) (whZ 52 1023 n m) := by
  have e : (fun lane => f_X6_ofWhole x lane) = fun lane => f_X6_ofWhole_22 lane n (lN m) := by
    funext lane
    unfold f_X6_ofWhole f_X6_ofWhole_11
    rcases hx with ⟨rfl, rfl, h⟩ | ⟨rfl, h1, h2, h3, h4⟩
    · rw [if_pos (lN_nonneg h), if_pos rfl]
    · have hneg : ¬ (0 : Int64) ≤ x := by rw [h2]; exact lN_neg (by omega) (by omega)
      rw [if_neg hneg, if_neg (by decide), h1]
  rw [e]
  rcases hx with ⟨rfl, -, h⟩ | ⟨rfl, -, -, -, h⟩
  · exact ofWhole_22 (Or.inl rfl) (by omega)
  · exact ofWhole_22 (Or.inr rfl) h
/-! Real to whole. -/
theorem cutV_e {md : Nat} {n : Int32} {m : Nat} {e : Int} (he : 0 ≤ e) : cutV md n (uV m e) 1200 = m * 2 ^ e.toNat := by
  have e1 : uV m e = m * 2 ^ e.toNat * 2 ^ 1200 := by
    unfold uV
    rw [Nat.mul_assoc, ← Nat.pow_add]
    exact congrArg (fun z => m * 2 ^ z) (by omega)
  rw [e1]
  exact cutV_0 (by omega)
/-- a number cut and held in 64 bits -/
def satL (k : Nat) (n : Int32) (v : Nat) : Int64 :=
  if k = 0 ∨ k = 3 then 0 else if k = 2 ∨ 2 ^ 63 ≤ v then (if n = 0 then 9223372036854775807 else -9223372036854775808) else if n = 0 then lN v else -lN v
theorem cut3 {n : Int32} {m s : Nat} : cutV 3 n m s = m / 2 ^ s := by
  unfold cutV
  rw [if_neg (by decide), if_pos rfl]
theorem toLong_ok {G : gG} {a : Nat} {c : gC} (hG : G a = some c) {k : Nat} {n : Int32} {u : Nat} (h : CV c k n u) : f_X2_toLong G a = some (satL k n (cutV 3 n u 1200)) := by
  unfold f_X2_toLong f_X2_toLong_32 f_X2_toLong_72 satL
  rcases h with ⟨rfl, -, s, x, rfl⟩ | ⟨rfl, X, E, rfl, h1, h2, h3, h4, h5, rfl⟩ | ⟨rfl, s, x, rfl⟩ | ⟨rfl, n', s, x, rfl⟩
  · rw [rc_k hG, gb_some, if_pos rfl, if_pos (Or.inl rfl)]
  · rw [rc_k hG, gb_some, if_neg (by decide), gb_some, if_neg (by decide), gb_some, if_neg (by decide), rc_e hG, gb_some, rc_n hG, rc_s hG]
    simp only [gb_some]
    rw [if_neg (show ¬ (1 = 0 ∨ 1 = 3) by omega)]
    have c0 : jI E ≤ 0 ↔ E ≤ 0 := jI_le (b := 0) (by omega) (by omega)
    have c1 : (-62 : Int32) ≤ jI E ↔ -62 ≤ E := by rw [show (-62 : Int32) = jI (-62) from rfl, jI_le (by omega) (by omega)]
    by_cases d : E ≤ 0
    · rw [ifp c0 d]
      have hv : cutV 3 n (uV X E) 1200 = X / 2 ^ (-E).toNat := by
        by_cases z : E = 0
        · rw [cutV_e (by omega), z, show (0 : Int).toNat = 0 from rfl, show (-0 : Int).toNat = 0 from rfl, Nat.pow_zero, Nat.mul_one, Nat.div_one]
        · rw [cutV_u (s := (-E).toNat) (by omega) (by omega) (by omega), cut3]
      have hle : X / 2 ^ (-E).toNat ≤ X := Nat.div_le_self _ _
      rw [hv, if_neg (show ¬ (1 = 2 ∨ 2 ^ 63 ≤ X / 2 ^ (-E).toNat) by omega)]
      by_cases g : -62 ≤ E
      · have e1 : -jI E = nI (-E).toNat := by rw [jI_neg, ← jI_nI]; exact congrArg jI (by omega)
        rw [ifp c1 g, e1, lushr_N (by omega) (by omega)]
        split <;> rfl
      · have hlt : X < 2 ^ (-E).toNat := Nat.lt_of_lt_of_le h2 (Nat.pow_le_pow_right (by omega) (by omega))
        rw [ifn c1 g, Nat.div_eq_of_lt hlt]
        split <;> rfl
    · rw [ifn c0 d]
      have hv : 2 ^ 63 ≤ cutV 3 n (uV X E) 1200 := by
        rw [cutV_e (by omega)]
        have : (2 : Nat) ^ 1 ≤ 2 ^ E.toNat := Nat.pow_le_pow_right (by omega) (by omega)
        have h6 := Nat.mul_le_mul h1 this
        omega
      rw [if_pos (Or.inr hv)]
      split <;> rfl
  · rw [rc_k hG, gb_some, if_neg (by decide), gb_some, if_neg (by decide), gb_some, if_pos rfl, rc_n hG, gb_some, if_neg (show ¬ (2 = 0 ∨ 2 = 3) by omega), if_pos (Or.inl rfl)]
    split <;> rfl
  · rw [rc_k hG, gb_some, if_neg (by decide), gb_some, if_pos rfl, if_pos (Or.inr rfl)]
/-- held between two bounds -/
def clmp (lo hi s : Int64) : Int64 := if lo ≤ s then (if s ≤ hi then s else hi) else lo
def satB (lo hi : Int64) (k : Nat) (n : Int32) (v : Nat) : Int64 :=
  if k = 3 then 0 else if k = 2 ∨ 2 ^ 63 ≤ v then (if n = 0 then hi else lo) else clmp lo hi (if n = 0 then lN v else -lN v)
theorem num_127 (lo hi s : Int64) : f_X6_number_127 lo hi s = some (clmp lo hi s) := by
  unfold f_X6_number_127 clmp
  split
  · split <;> rfl
  · rfl
theorem number_ok {a : Int64} {k : Nat} {n : Int32} {u : Nat} (hn : n = 0 ∨ n = 1) (h : RV a k n u) (lo hi : Int64) : f_X6_number a lo hi = some (satB lo hi k n (cutV 3 n u 1200)) := by
  rcases h.num with ⟨rfl, rfl⟩ | ⟨D, w⟩
  · unfold f_X6_number satB
    rw [isNan_nan, if_neg (by decide), if_pos rfl]
  · have N := w.nan hn
    have I := w.inf hn
    have Z := w.zero hn
    have S := w.sg hn
    have kr := w.2.2.1
    have hsg : f_X6_number a lo hi = f_X6_number_20 a lo hi n := by
      unfold f_X6_number
      rw [N, if_pos rfl]
      rcases hn with rfl | rfl
      · rw [ifp S rfl]
      · rw [ifn S (by decide)]
    have e112 : ∀ v : Nat, f_X6_number_112 lo hi n (lN v) = some (clmp lo hi (if n = 0 then lN v else -lN v)) := by
      intro v
      unfold f_X6_number_112
      rw [num_127, num_127]
      split <;> rfl
    have e59 : f_X6_number_59 lo hi n = some (if n = 0 then hi else lo) := by
      unfold f_X6_number_59
      split <;> rfl
    obtain ⟨rfl, hD, -, w0, w2, w5⟩ := w
    have hD63 : D < 2 ^ 63 := by omega
    have hm := mant_ok hn hD63
    have hp := exp_ok hn hD63
    have hE := vE_bd hD63
    have hMl := vM_lt (D := D)
    rw [hsg]
    by_cases k0 : k = 0
    · have hD0 := w0.mp k0
      have hu := w5 (by omega)
      subst hD0
      have hM0 : vM 52 (0 / 2 ^ 52) (0 % 2 ^ 52) = 0 := by decide
      have hE0 : vE 52 1023 (0 / 2 ^ 52) = -1074 := by decide
      rw [hM0] at hm hu
      rw [hE0] at hp
      have hu0 : u = 0 := by rw [← hu]; exact Nat.zero_mul _
      have hv : cutV 3 n u 1200 = 0 := by rw [hu0, cut3]; exact Nat.zero_div _
      unfold f_X6_number_20 f_X6_number_71 satB
      rw [hm, hp, len_N (by omega), gb_some]
      simp only [gl]
      rw [I, Z, if_neg (show ¬ k = 3 by omega), if_neg (show ¬ k = 2 by omega), if_pos rfl, if_pos k0, if_neg (by decide), if_pos (by decide), if_neg (by decide), hv, if_neg (by omega)]
      exact e112 0
    · have hMp := vM_pos (D := D) (by omega)
      unfold f_X6_number_20 f_X6_number_71 satB
      have hb := bl_le_of hMl
      rw [hm, hp, len_N (by omega), gb_some]
      simp only [gl]
      rw [I, Z, if_neg (show ¬ k = 3 by omega)]
      by_cases k2 : k = 2
      · rw [if_pos k2, if_neg (by decide), if_pos (Or.inl k2), e59]
      · have hu := w5 k2
        rw [if_neg k2, if_pos rfl]
        generalize vM 52 (D / 2 ^ 52) (D % 2 ^ 52) = M at *
        generalize vE 52 1023 (D / 2 ^ 52) = e at *
        have hbp := bl_pos hMp
        have e1 : nI (bl M) + jI e - 1 = jI (bl M + e - 1) := by rw [nI_jI, show (1 : Int32) = jI 1 from rfl, jI_add, jI_sub]
        have c62 : jI (bl M + e - 1) ≤ 62 ↔ (bl M : Int) + e - 1 ≤ 62 := jI_le (b := 62) (by omega) (by omega)
        have cE : jI e < 0 ↔ e < 0 := jI_lt (b := 0) (by omega) (by omega)
        rw [e1, if_neg k0, if_pos rfl]
        by_cases g : (bl M : Int) + e - 1 ≤ 62
        · rw [ifp c62 g]
          by_cases d : e < 0
          · obtain ⟨s, hs⟩ : ∃ s : Nat, e = -(s : Int) := ⟨(-e).toNat, by omega⟩
            have e2 : -jI e = nI s := by rw [jI_neg, ← jI_nI]; exact congrArg jI (by omega)
            have c : nI s ≤ 62 ↔ s ≤ 62 := nI_leI (b := 62) (by omega) (by omega)
            have hv : cutV 3 n u 1200 = M / 2 ^ s := by rw [← hu, cutV_u hs (by omega) (by omega), cut3]
            have hq : M / 2 ^ s ≤ M := Nat.div_le_self _ _
            rw [ifp cE d, e2, hv, if_neg (show ¬ (k = 2 ∨ 2 ^ 63 ≤ M / 2 ^ s) by omega)]
            by_cases g2 : s ≤ 62
            · rw [ifp c g2, lshr_N (by omega) (by omega), e112]
            · have hlt : M < 2 ^ s := Nat.lt_of_lt_of_le hMl (Nat.pow_le_pow_right (by omega) (by omega))
              rw [ifn c g2, Nat.div_eq_of_lt hlt]
              exact e112 0
          · obtain ⟨s, hs⟩ : ∃ s : Nat, e = (s : Int) := ⟨e.toNat, by omega⟩
            have hv : cutV 3 n u 1200 = M * 2 ^ s := by rw [← hu, cutV_e (by omega)]; exact congrArg (fun z => M * 2 ^ z) (by omega)
            have hlt : M * 2 ^ s < 2 ^ 63 := by
              have h5 : M * 2 ^ s < 2 ^ bl M * 2 ^ s := Nat.mul_lt_mul_of_pos_right (bl_lt M) (Nat.two_pow_pos _)
              have h6 : (2 : Nat) ^ bl M * 2 ^ s ≤ 2 ^ 63 := by rw [← Nat.pow_add]; exact Nat.pow_le_pow_right (by omega) (by omega)
              omega
            rw [ifn cE d, hs, jI_nI, hv, lshl_N _ (by omega), e112, if_neg (show ¬ (k = 2 ∨ 2 ^ 63 ≤ M * 2 ^ s) by omega)]
        · have hv : 2 ^ 63 ≤ cutV 3 n u 1200 := by
            rw [← hu, cutV_e (by omega)]
            have h5 := Nat.mul_le_mul_right (2 ^ e.toNat) (bl_le hMp)
            rw [← Nat.pow_add] at h5
            exact Nat.le_trans (Nat.pow_le_pow_right (by omega) (by omega)) h5
          rw [ifn c62 g, if_pos (Or.inr hv), e59]
