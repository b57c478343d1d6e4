/-! Rounding to whole numbers. -/
/-- m / 2 ^ s made whole: 0 downward, 1 upward, 2 to the nearest, 3 toward zero -/
def cutV (md : Nat) (n : Int32) (m s : Nat) : Nat :=
  if md = 2 then rs m s false else if md = 3 then m / 2 ^ s else if m % 2 ^ s = 0 then m / 2 ^ s
  else if (md = 0 ∧ n = 1) ∨ (md = 1 ∧ n = 0) then m / 2 ^ s + 1 else m / 2 ^ s
theorem cutV_le {md : Nat} {n : Int32} {m s : Nat} : m / 2 ^ s ≤ cutV md n m s ∧ cutV md n m s ≤ m / 2 ^ s + 1 := by
  unfold cutV
  have := rs_le m s false
  split
  · exact this
  · split
    · omega
    · split
      · omega
      · split <;> omega
theorem cutV_exact {md : Nat} {n : Int32} {m s : Nat} (hs : 1 ≤ s) (h : m % 2 ^ s = 0) : cutV md n m s = m / 2 ^ s := by
  unfold cutV
  rw [rs_exact false hs h, if_pos h]
  split
  · rfl
  · split <;> rfl
theorem cutV_shl {md : Nat} {n : Int32} {m s j : Nat} (hs : 1 ≤ s) : cutV md n (m * 2 ^ j) (s + j) = cutV md n m s := by
  have hj := Nat.two_pow_pos j
  have e1 : m * 2 ^ j / 2 ^ (s + j) = m / 2 ^ s := by rw [Nat.pow_add, Nat.mul_div_mul_right _ _ hj]
  have e2 : m * 2 ^ j % 2 ^ (s + j) = m % 2 ^ s * 2 ^ j := by rw [Nat.pow_add, Nat.mul_mod_mul_right]
  have e3 : rs (m * 2 ^ j) (s + j) false = rs m s false := by
    rw [rs_trunc _ _ false hs, Nat.mul_div_cancel _ hj, Nat.mul_mod_left]
    rfl
  have e4 : m % 2 ^ s * 2 ^ j = 0 ↔ m % 2 ^ s = 0 := by
    rw [Nat.mul_eq_zero]
    constructor
    · rintro (h | h)
      · exact h
      · omega
    · exact Or.inl
  unfold cutV
  rw [e1, e2, e3]
  by_cases c : m % 2 ^ s = 0
  · rw [if_pos c, if_pos (e4.mpr c)]
  · rw [if_neg c, if_neg (fun q => c (e4.mp q))]
theorem cutV_0 {md : Nat} {n : Int32} {m j : Nat} (hj : 1 ≤ j) : cutV md n (m * 2 ^ j) j = m := by
  rw [cutV_exact hj (Nat.mul_mod_left _ _), Nat.mul_div_cancel _ (Nat.two_pow_pos j)]
def cutK (md : Nat) (n : Int32) (k u : Nat) : Nat := if k = 1 then (if cutV md n u 1200 = 0 then 0 else 1) else k
def cutU (md : Nat) (n : Int32) (k u : Nat) : Nat := if k = 1 then uV (cutV md n u 1200) 0 else u
theorem cutV_u {md : Nat} {n : Int32} {m : Nat} {e : Int} {s : Nat} (he : e = -(s : Int)) (h0 : 1 ≤ s) (h1 : -1200 ≤ e) : cutV md n (uV m e) 1200 = cutV md n m s := by
  rw [← cutV_shl (m := m) (s := s) (j := (e + 1200).toNat) h0]
  unfold uV
  exact congrArg (cutV md n _) (by omega)
theorem cutV_w {md : Nat} {n : Int32} {m : Nat} {e : Int} (he : 0 ≤ e) : uV (cutV md n (uV m e) 1200) 0 = uV m e ∧ (0 < m → 0 < cutV md n (uV m e) 1200) := by
  have e1 : uV m e = m * 2 ^ e.toNat * 2 ^ 1200 := by
    unfold uV
    rw [Nat.mul_assoc, ← Nat.pow_add]
    exact congrArg (fun z => m * 2 ^ z) (by omega)
  have e2 : cutV md n (uV m e) 1200 = m * 2 ^ e.toNat := by
    rw [e1]
    exact cutV_0 (by omega)
  rw [e2]
  constructor
  · have := uV_split (m := m) (e := 0) (j := e.toNat) (by omega)
    rw [← this]
    exact congrArg (uV m) (by omega)
  · intro h
    exact Nat.mul_pos h (Nat.two_pow_pos _)
theorem lN_inj {a b : Nat} (ha : a < 2 ^ 64) (hb : b < 2 ^ 64) : lN a = lN b ↔ a = b := by
  constructor
  · intro h
    have := congrArg (fun z : Int64 => z.toBitVec.toNat) h
    simp only [lN_tn ha, lN_tn hb] at this
    exact this
  · intro h; rw [h]
/-! The class. -/
theorem rw105 {G : gG} {th : Nat} {n : Int32} {S : Int64} {X0 : Int32} (ht : G th = some (rc 1 n S X0)) (hn : n = 0 ∨ n = 1) {v : Nat} (hv : v < 2 ^ 63) (h10 : v * 2 ^ (63 - bl v) % 2 ^ 10 = 0) :
    ∃ c, f_X2_roundToWhole_105 G th (lN v) = some (g_up G th c) ∧ CV c (if v = 0 then 0 else 1) n (uV v 0) := by
  unfold f_X2_roundToWhole_105
  have hz := lN_z (x := v) (by omega)
  by_cases d : v = 0
  · rw [ifp hz d, rc_n ht, gb_some, gck_true (rc_o ht), setKind_ok ht 0 hn, gb_some, if_pos d, d]
    exact ⟨_, rfl, Or.inl ⟨rfl, Nat.zero_mul _, _, _, rfl⟩⟩
  · have h0 : 0 < v := by omega
    obtain ⟨n1, n2⟩ := rf_norm h0 hv
    have hb := bl_le_of hv
    rw [ifn hz d, rc_n ht, gb_some, gck_true (rc_o ht), show (0 : Int32) = jI 0 from rfl, setFinite_ok ht hn h0 hv, gb_some, if_neg d]
    exact ⟨_, rfl, Or.inr (Or.inl ⟨rfl, _, _, rfl, n1, n2, h10, by omega, by omega, uV_shl (by omega)⟩)⟩
theorem rw61 {G : gG} {th : Nat} {n : Int32} {X : Nat} {X0 : Int32} (ht : G th = some (rc 1 n (lN X) X0)) (hn : n = 0 ∨ n = 1) (hX : X < 2 ^ 63) {s : Nat} (hs : 1 ≤ s) (hs2 : s < 2 ^ 31) {md : Nat} (hmd : md ≤ 3) (s0 : Int32) (hs0 : s0 = 0 ↔ ¬ X % 2 ^ s = 0) :
    f_X2_roundToWhole_61 G th (nI (md + 3)) (nI s) (lN (X / 2 ^ s)) s0 = f_X2_roundToWhole_105 G th (lN (cutV md n X s)) := by
  have hq : X / 2 ^ s ≤ X := Nat.div_le_self _ _
  have e1 : lN (X / 2 ^ s) + 1 = lN (X / 2 ^ s + 1) := by rw [show (1 : Int64) = lN 1 from rfl, lN_add]
  unfold f_X2_roundToWhole_61 f_X2_roundToWhole_98
  simp only [gl]
  rw [rc_s ht, gb_some, toNear_ok hX hs hs2, rc_n ht, gb_some, e1]
  unfold cutV
  generalize X / 2 ^ s = v at *
  generalize X % 2 ^ s = r at *
  generalize rs X s false = w at *
  have hm : md = 0 ∨ md = 1 ∨ md = 2 ∨ md = 3 := by omega
  by_cases c : r = 0
  · have z : ¬ s0 = 0 := fun q => hs0.mp q c
    simp only [if_neg z, if_pos c]
    rcases hm with rfl | rfl | rfl | rfl <;> simp (decide := true) only [if_true, if_false, nI]
  · have z : s0 = 0 := hs0.mpr c
    simp only [if_pos z, if_neg c]
    rcases hn with rfl | rfl <;> rcases hm with rfl | rfl | rfl | rfl <;> simp (decide := true) only [if_true, if_false, nI]
theorem rwhole_ok {G : gG} {th : Nat} {c0 : gC} (ht : G th = some c0) {k : Nat} {n : Int32} {u : Nat} (hn : n = 0 ∨ n = 1) (v : CV c0 k n u) {md : Nat} (hmd : md ≤ 3) :
    ∃ c, f_X2_roundToWhole G th (nI (md + 3)) = some (g_up G th c) ∧ CV c (cutK md n k u) n (cutU md n k u) := by
  by_cases hk : k = 1
  · unfold cutK cutU
    rw [if_pos hk, if_pos hk]
    subst hk
    have v' := v
    rcases v with ⟨z, -⟩ | ⟨-, X, E, rfl, p1, p2, p3, p4, p5, p6⟩ | ⟨z, -⟩ | ⟨z, -⟩
    · omega
    · unfold f_X2_roundToWhole
      rw [rc_k ht, gb_some, if_pos rfl, rc_e ht, gb_some]
      have cE : jI E < 0 ↔ E < 0 := jI_lt (b := 0) (by omega) (by omega)
      by_cases d : E < 0
      · obtain ⟨s, hs⟩ : ∃ s : Nat, E = -(s : Int) := ⟨(-E).toNat, by omega⟩
        have e1 : -jI E = nI s := by rw [jI_neg, ← jI_nI]; exact congrArg jI (by omega)
        rw [ifp cE d, gb_some]
        simp only [gl]
        rw [e1, rc_s ht, gb_some]
        have c62 : nI s ≤ 62 ↔ s ≤ 62 := nI_leI (b := 62) (by omega) (by omega)
        have c62' : (62 : Int32) < nI s ↔ 62 < s := by
          rw [show (62 : Int32) = jI 62 from rfl, nI_jI, jI_lt (by omega) (by omega)]
          omega
        have hdm := Nat.div_add_mod' X (2 ^ s)
        have key : f_X2_roundToWhole_38 G th (nI (md + 3)) (nI s) (lN (X / 2 ^ s)) = f_X2_roundToWhole_105 G th (lN (cutV md n X s)) := by
          unfold f_X2_roundToWhole_38 f_X2_roundToWhole_60
          by_cases g : 62 < s
          · have hlt : X % 2 ^ s = X := Nat.mod_eq_of_lt (Nat.lt_of_lt_of_le p2 (Nat.pow_le_pow_right (by omega) (by omega)))
            rw [ifp c62' g]
            exact rw61 ht hn p2 (by omega) (by omega) hmd 0 (by rw [hlt]; exact ⟨fun _ => by omega, fun _ => rfl⟩)
          · rw [ifn c62' g, rc_s ht, gb_some, lshl_N _ (by omega)]
            have hle : X / 2 ^ s * 2 ^ s ≤ X := by omega
            have ceq : lN (X / 2 ^ s * 2 ^ s) = lN X ↔ X / 2 ^ s * 2 ^ s = X := lN_inj (by omega) (by omega)
            by_cases g2 : X / 2 ^ s * 2 ^ s = X
            · rw [ifp ceq g2]
              exact rw61 ht hn p2 (by omega) (by omega) hmd 1 ⟨fun q => absurd q (by decide), fun q => absurd (by omega) q⟩
            · rw [ifn ceq g2]
              exact rw61 ht hn p2 (by omega) (by omega) hmd 0 ⟨fun _ => by omega, fun _ => rfl⟩
        have hcv : cutV md n u 1200 = cutV md n X s := by rw [← p6]; exact cutV_u hs (by omega) (by omega)
        have hle := cutV_le (md := md) (n := n) (m := X) (s := s)
        have hfin : cutV md n X s < 2 ^ 63 ∧ cutV md n X s * 2 ^ (63 - bl (cutV md n X s)) % 2 ^ 10 = 0 := by
          by_cases g : s ≤ 10
          · have hx : X % 2 ^ s = 0 := by
              apply Nat.mod_eq_zero_of_dvd
              exact Nat.dvd_trans (Nat.pow_dvd_pow 2 g) (Nat.dvd_of_mod_eq_zero p3)
            have e : cutV md n X s = X / 2 ^ s := cutV_exact (by omega) hx
            have hX : X = X / 2 ^ s * 2 ^ s := by omega
            have hblX : bl X = 63 := bl_of p1 p2
            have hq : X / 2 ^ s ≤ X := Nat.div_le_self _ _
            rw [e]
            refine ⟨by omega, ?_⟩
            have hpos : 0 < X / 2 ^ s := Nat.pos_of_ne_zero (fun z => by rw [z] at hX; omega)
            have hb := bl_shl hpos s
            rw [← hX, hblX] at hb
            rw [show 63 - bl (X / 2 ^ s) = s by omega, ← hX]
            exact p3
          · have hlt : X / 2 ^ s < 2 ^ 52 := by
              rw [Nat.div_lt_iff_lt_mul (Nat.two_pow_pos s), ← Nat.pow_add]
              exact Nat.lt_of_lt_of_le p2 (Nat.pow_le_pow_right (by omega) (by omega))
            have hb := bl_le_of (m := cutV md n X s) (k := 53) (by omega)
            refine ⟨by omega, ?_⟩
            apply Nat.mod_eq_zero_of_dvd
            exact Nat.dvd_trans (Nat.pow_dvd_pow 2 (by omega)) (Nat.dvd_mul_left _ _)
        obtain ⟨c, f1, f2⟩ := rw105 ht hn hfin.1 hfin.2
        rw [hcv]
        refine ⟨c, ?_, f2⟩
        rw [← f1, ← key]
        by_cases g : s ≤ 62
        · rw [ifp c62 g, lushr_N (by omega) (by omega)]
        · rw [ifn c62 g, Nat.div_eq_of_lt (Nat.lt_of_lt_of_le p2 (Nat.pow_le_pow_right (by omega) (by omega)))]
          rfl
      · rw [ifn cE d]
        obtain ⟨w1, w2⟩ := cutV_w (md := md) (n := n) (m := X) (e := E) (by omega)
        rw [p6] at w1 w2
        have := w2 (by omega)
        rw [if_neg (by omega), w1]
        refine ⟨_, ?_, v'⟩
        rw [g_up_id ht]
    · omega
    · omega
  · unfold cutK cutU
    rw [if_neg hk, if_neg hk]
    obtain ⟨n', s, x, rfl, l⟩ := v.kd
    refine ⟨_, ?_, v⟩
    unfold f_X2_roundToWhole
    have c : nI k = 1 ↔ k = 1 := nI_eq (b := 1) (by omega) (by omega)
    rw [rc_k ht, gb_some, ifn c hk, g_up_id ht]
/-! The reference. -/
theorem cut_193 {x0 : Int64} {n : Int32} (hn : n = 0 ∨ n = 1) (hs : (0 : Int64) ≤ x0 ↔ n = 0) (v : Nat) (a : Int32) : f_X6_cut_193 x0 (lN v) a = gb (f_X6_pack n (lN (if a = 0 then v else v + 1)) 0) fun r => some r := by
  have e1 : lN v + 1 = lN (v + 1) := by rw [show (1 : Int64) = lN 1 from rfl, lN_add]
  unfold f_X6_cut_193 f_X6_cut_204 f_X6_cut_218
  rw [e1]
  rcases hn with rfl | rfl
  · rw [ifp hs rfl]
    split <;> rfl
  · rw [ifn hs (by decide)]
    split <;> rfl
theorem cut_91 {x0 : Int64} {n : Int32} (hn : n = 0 ∨ n = 1) (hs : (0 : Int64) ≤ x0 ↔ n = 0) {M s : Nat} (hM : M < 2 ^ 53) (h1 : 1 ≤ s) (h2 : s < 2 ^ 31) {md : Nat} (hmd : md ≤ 3) :
    f_X6_cut_91 x0 (nI md) (nI s) (lN (M / 2 ^ s)) (lN (M % 2 ^ s)) = gb (f_X6_pack n (lN (cutV md n M s)) 0) fun r => some r := by
  have hq : M / 2 ^ s ≤ M := Nat.div_le_self _ _
  have hr : M % 2 ^ s ≤ M := Nat.mod_le _ _
  have C : ∀ a, f_X6_cut_193 x0 (lN (M / 2 ^ s)) a = gb (f_X6_pack n (lN (if a = 0 then M / 2 ^ s else M / 2 ^ s + 1)) 0) fun r => some r := fun a => cut_193 hn hs _ a
  have hz := lN_z (x := M % 2 ^ s) (by omega)
  have hm : md = 0 ∨ md = 1 ∨ md = 2 ∨ md = 3 := by omega
  have A : ∀ v : Nat, v = M / 2 ^ s → ∀ a : Int32, ∀ w : Nat, w = (if a = 0 then v else v + 1) → f_X6_cut_193 x0 (lN v) a = gb (f_X6_pack n (lN w) 0) fun r => some r := by
    intro v hv a w hw
    rw [hv, C, hw, hv]
  unfold f_X6_cut_91 f_X6_cut_135 f_X6_cut_119 f_X6_cut_128 f_X6_cut_135 f_X6_cut_136 f_X6_cut_186 f_X6_cut_190 f_X6_cut_191 cutV
  simp only [gl]
  rcases hm with rfl | rfl | rfl | rfl
  · by_cases c : M % 2 ^ s = 0
    · have z : (lN (M % 2 ^ s) = 0) = True := eq_true (hz.mpr c)
      simp (decide := true) only [z, c, if_true, if_false]
      exact A _ rfl _ _ rfl
    · have z : (lN (M % 2 ^ s) = 0) = False := eq_false (fun q => c (hz.mp q))
      rcases hn with rfl | rfl
      · simp (decide := true) only [z, c, eq_true (hs.mpr rfl), if_true, if_false]
        exact A _ rfl _ _ rfl
      · simp (decide := true) only [z, c, eq_false (fun q => absurd (hs.mp q) (by decide)), if_true, if_false]
        exact A _ rfl _ _ rfl
  · by_cases c : M % 2 ^ s = 0
    · have z : (lN (M % 2 ^ s) = 0) = True := eq_true (hz.mpr c)
      simp (decide := true) only [z, c, if_true, if_false]
      exact A _ rfl _ _ rfl
    · have z : (lN (M % 2 ^ s) = 0) = False := eq_false (fun q => c (hz.mp q))
      rcases hn with rfl | rfl
      · simp (decide := true) only [z, c, eq_true (hs.mpr rfl), if_true, if_false]
        exact A _ rfl _ _ rfl
      · simp (decide := true) only [z, c, eq_false (fun q => absurd (hs.mp q) (by decide)), if_true, if_false]
        exact A _ rfl _ _ rfl
  · have c62' : (62 : Int32) < nI s ↔ 62 < s := by
      rw [show (62 : Int32) = jI 62 from rfl, nI_jI, jI_lt (by omega) (by omega)]
      omega
    by_cases g : 62 < s
    · have hlt : M < 2 ^ (s - 1) := Nat.lt_of_lt_of_le hM (Nat.pow_le_pow_right (by omega) (by omega))
      have hlt2 : M < 2 ^ s := Nat.lt_of_lt_of_le hM (Nat.pow_le_pow_right (by omega) (by omega))
      simp (decide := true) only [eq_true (c62'.mpr g), if_true]
      exact A _ rfl _ _ (by rw [if_pos rfl, rs_small false hlt, Nat.div_eq_of_lt hlt2])
    · have hp : (2 : Nat) ^ (s - 1) ≤ 2 ^ 61 := Nat.pow_le_pow_right (by omega) (by omega)
      have e1 : nI s - 1 = nI (s - 1) := pk_sub (b := 1) (by omega)
      have e2 : g_lshl 1 (nI (s - 1)) = lN (2 ^ (s - 1)) := by
        rw [show (1 : Int64) = lN 1 from rfl, lshl_N _ (by omega), Nat.one_mul]
      have c1 : lN (2 ^ (s - 1)) < lN (M % 2 ^ s) ↔ 2 ^ (s - 1) < M % 2 ^ s := pk_lLT (by omega) (by omega)
      have c2 : lN (M % 2 ^ s) = lN (2 ^ (s - 1)) ↔ M % 2 ^ s = 2 ^ (s - 1) := lN_inj (by omega) (by omega)
      have e3 : (lN (M / 2 ^ s) &&& 1) = lN (M / 2 ^ s % 2) := lmask_N (k := 1) (by omega) (by omega)
      have c3 : lN (M / 2 ^ s % 2) = 1 ↔ M / 2 ^ s % 2 = 1 := lN_inj (b := 1) (by omega) (by omega)
      have g' : ((62 : Int32) < nI s) = False := eq_false (fun q => g (c62'.mp q))
      rw [e1, e2, e3]
      simp (decide := true) only [g', if_true, if_false]
      unfold rs
      by_cases d1 : 2 ^ (s - 1) < M % 2 ^ s
      · rw [ifp c1 d1]
        exact A _ rfl _ _ (by rw [if_pos (Or.inl d1)]; rfl)
      · rw [ifn c1 d1]
        by_cases d2 : M % 2 ^ s = 2 ^ (s - 1)
        · rw [ifp c2 d2]
          by_cases d3 : M / 2 ^ s % 2 = 1
          · rw [ifp c3 d3]
            exact A _ rfl _ _ (by rw [if_pos (Or.inr ⟨d2, Or.inr d3⟩)]; rfl)
          · rw [ifn c3 d3]
            refine A _ rfl _ _ ?_
            rw [if_pos rfl, if_neg]
            rintro (q | ⟨-, q | q⟩)
            · exact d1 q
            · cases q
            · exact d3 q
        · rw [ifn c2 d2]
          refine A _ rfl _ _ ?_
          rw [if_pos rfl, if_neg]
          rintro (q | ⟨q, -⟩)
          · exact d1 q
          · exact d2 q
  · simp (decide := true) only [if_true, if_false]
    exact A _ rfl _ _ rfl
theorem cut_ok {a : Int64} {k : Nat} {n : Int32} {u : Nat} (hn : n = 0 ∨ n = 1) (v : RV a k n u) {md : Nat} (hmd : md ≤ 3) : ∃ r, f_X6_cut a (nI md) = some r ∧ RV r (cutK md n k u) n (cutU md n k u) := by
  by_cases hk : k = 1
  · unfold cutK cutU
    rw [if_pos hk, if_pos hk]
    have v' := v
    rcases v.num with ⟨z, -⟩ | ⟨D, w⟩
    · omega
    have N := w.nan hn
    have I := w.inf hn
    have Z := w.zero hn
    have S := w.sg hn
    rw [if_neg (by omega)] at I Z
    obtain ⟨M, e, m1, p1, a1, a2, a3, a4, a5⟩ := w.fin hn (by omega) (by omega)
    unfold f_X6_cut
    rw [N, I, Z, p1, m1, if_pos rfl, if_pos rfl, if_pos rfl]
    have cE : jI e < 0 ↔ e < 0 := jI_lt (b := 0) (by omega) (by omega)
    by_cases d : e < 0
    · obtain ⟨s, hs⟩ : ∃ s : Nat, e = -(s : Int) := ⟨(-e).toNat, by omega⟩
      have e1 : -jI e = nI s := by rw [jI_neg, ← jI_nI]; exact congrArg jI (by omega)
      have c62 : nI s ≤ 62 ↔ s ≤ 62 := nI_leI (b := 62) (by omega) (by omega)
      rw [ifp cE d]
      simp only [gl]
      rw [e1]
      have hcv : cutV md n u 1200 = cutV md n M s := by rw [← a5]; exact cutV_u hs (by omega) (by omega)
      have hle := cutV_le (md := md) (n := n) (m := M) (s := s)
      have hlt : M / 2 ^ s < 2 ^ 52 := by
        rw [Nat.div_lt_iff_lt_mul (Nat.two_pow_pos s), ← Nat.pow_add]
        exact Nat.lt_of_lt_of_le a2 (Nat.pow_le_pow_right (by omega) (by omega))
      obtain ⟨r, r1, r2⟩ := pack_RV (n := n) (q := cutV md n M s) (t := 0) (by omega) (by omega) (by omega)
      have K := cut_91 hn S a2 (s := s) (by omega) (by omega) hmd
      rw [show (0 : Int32) = jI 0 from rfl, r1, gb_some] at K
      rw [hcv]
      refine ⟨r, ?_, r2⟩
      rw [← K]
      unfold f_X6_cut_70
      by_cases g : s ≤ 62
      · rw [ifp c62 g, ifp c62 g, lshr_N (by omega) (by omega), lsub1_N (by omega), lmask_N (by omega) (by omega)]
      · have hlt2 : M < 2 ^ s := Nat.lt_of_lt_of_le a2 (Nat.pow_le_pow_right (by omega) (by omega))
        rw [ifn c62 g, ifn c62 g, Nat.div_eq_of_lt hlt2, Nat.mod_eq_of_lt hlt2]
        rfl
    · rw [ifn cE d]
      unfold f_X6_cut_28
      obtain ⟨w1, w2⟩ := cutV_w (md := md) (n := n) (m := M) (e := e) (by omega)
      rw [a5] at w1 w2
      have := w2 (by omega)
      rw [N, if_pos rfl, if_neg (by omega), w1]
      rw [hk] at v'
      exact ⟨a, rfl, v'⟩
  · unfold cutK cutU
    rw [if_neg hk, if_neg hk]
    refine ⟨a, ?_, v⟩
    rcases v.num with ⟨rfl, rfl⟩ | ⟨D, w⟩
    · unfold f_X6_cut f_X6_cut_28
      rw [isNan_nan, if_neg (by decide), if_neg (by decide)]
    · have N := w.nan hn
      have I := w.inf hn
      have Z := w.zero hn
      have kr := w.2.2.1
      unfold f_X6_cut f_X6_cut_28
      rw [N, I, Z]
      rcases kr with rfl | rfl | rfl
      · simp (decide := true) only [if_true, if_false]
      · exact absurd rfl hk
      · simp (decide := true) only [if_true, if_false]
theorem F4_cut {md : Nat} {n : Int32} {u : Nat} (h : F4 u) (hz : ¬ cutV md n u 1200 = 0) : F4 (uV (cutV md n u 1200) 0) := by
  obtain ⟨q, t, a1, a2, a3, a4, rfl⟩ := h
  by_cases d : t < 0
  · obtain ⟨s, hs⟩ : ∃ s : Nat, t = -(s : Int) := ⟨(-t).toNat, by omega⟩
    have hcv : cutV md n (uV q t) 1200 = cutV md n q s := cutV_u hs (by omega) (by omega)
    rw [hcv] at hz ⊢
    have hle := cutV_le (md := md) (n := n) (m := q) (s := s)
    have hlt : q / 2 ^ s < 2 ^ 23 := by
      rw [Nat.div_lt_iff_lt_mul (Nat.two_pow_pos s), ← Nat.pow_add]
      exact Nat.lt_of_lt_of_le a2 (Nat.pow_le_pow_right (by omega) (by omega))
    have hb := bl_le_of (m := cutV md n q s) (k := 24) (by omega)
    exact ⟨_, 0, by omega, by omega, by omega, by omega, rfl⟩
  · rw [(cutV_w (md := md) (n := n) (m := q) (e := t) (by omega)).1]
    exact ⟨q, t, a1, a2, a3, a4, rfl⟩
