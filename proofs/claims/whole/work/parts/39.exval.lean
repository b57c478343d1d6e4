/-! Exact numbers as values. -/
/-- the number that bits spell -/
def uD (w b B : Nat) : Nat := uV (vM w (B / 2 ^ w) (B % 2 ^ w)) (vE w b (B / 2 ^ w))
theorem vM_pos' {w B : Nat} (h : 0 < B) : 0 < vM w (B / 2 ^ w) (B % 2 ^ w) := by
  have hd := Nat.div_add_mod' B (2 ^ w)
  have hp := Nat.two_pow_pos w
  unfold vM
  by_cases c : B / 2 ^ w = 0
  · rw [if_pos c]
    rw [c, Nat.zero_mul] at hd
    omega
  · rw [if_neg c]; omega
theorem enc_self {w b B : Nat} (h0 : 0 < B) (hB : B < (2 * b + 1) * 2 ^ w) : enc w b (vM w (B / 2 ^ w) (B % 2 ^ w)) (vE w b (B / 2 ^ w)) false = B := by
  have hd := Nat.div_add_mod' B (2 ^ w)
  have hp := Nat.two_pow_pos w
  have hm := Nat.mod_lt B hp
  have hT : encT w b (vM w (B / 2 ^ w) (B % 2 ^ w)) (vE w b (B / 2 ^ w)) = vE w b (B / 2 ^ w) := by
    unfold encT vM vE
    by_cases c : B / 2 ^ w = 0
    · rw [if_pos c, c]
      have := bl_le_of hm
      omega
    · rw [if_neg c]
      have e : bl (B % 2 ^ w + 2 ^ w) = w + 1 := bl_of (by omega) (by rw [Nat.pow_succ]; omega)
      rw [e]
      omega
  unfold enc encQ
  rw [hT, if_neg (by omega), Int.sub_self, Int.toNat_zero, Nat.pow_zero, Nat.mul_one]
  have key : (vE w b (B / 2 ^ w) - (1 - b - w)).toNat * 2 ^ w + vM w (B / 2 ^ w) (B % 2 ^ w) = B := by
    unfold vM vE
    by_cases c : B / 2 ^ w = 0
    · rw [if_pos c]
      have e : (((max (B / 2 ^ w) 1 : Nat) : Int) - b - w - (1 - b - w)).toNat = 0 := by omega
      rw [e, Nat.zero_mul]
      rw [c, Nat.zero_mul] at hd
      exact hd
    · rw [if_neg c]
      obtain ⟨d, hc⟩ := Nat.exists_eq_succ_of_ne_zero c
      have e : (((max (B / 2 ^ w) 1 : Nat) : Int) - b - w - (1 - b - w)).toNat = d := by omega
      rw [e]
      rw [hc, Nat.succ_mul] at hd
      omega
  rw [key]
  exact Nat.min_eq_left (Nat.le_of_lt hB)
theorem vE_ge {w b c : Nat} : (1 : Int) - b - w ≤ vE w b c := by unfold vE; omega
theorem enc_dec {w b B : Nat} (hbw : b + w ≤ 1200) (h0 : 0 < B) (hB : B < (2 * b + 1) * 2 ^ w) : enc w b (uD w b B) (-1200) false = B := by
  unfold uD
  have h := vE_ge (w := w) (b := b) (c := B / 2 ^ w)
  rw [enc_u w b (vM_pos' h0) (by omega), enc_self h0 hB]
theorem uD_pos {w b B : Nat} (h0 : 0 < B) : 0 < uD w b B := uV_pos (vM_pos' h0)
theorem encU_dec {w b B : Nat} (hbw : b + w ≤ 1200) (h0 : 0 < B) (hB : B < (2 * b + 1) * 2 ^ w) : encU w b (uD w b B) = B := by
  unfold encU
  have := uD_pos (w := w) (b := b) h0
  rw [if_neg (by omega), enc_dec hbw h0 hB]
/-- the value of an exact number -/
def exZ (w b k : Nat) (n : Int32) (u : Nat) : Option (Int32 × Nat) := if k = 3 then none else if k = 2 then some (n, infB w b) else some (n, encU w b u)
theorem exZ_0 (w b : Nat) (n : Int32) : exZ w b 0 n 0 = some (n, 0) := rfl
theorem exZ_1 (w b : Nat) (n : Int32) (u : Nat) : exZ w b 1 n u = some (n, encU w b u) := rfl
theorem exZ_2 (w b : Nat) (n : Int32) (u : Nat) : exZ w b 2 n u = some (n, infB w b) := rfl
theorem exZ_3 (w b : Nat) (n : Int32) (u : Nat) : exZ w b 3 n u = none := rfl
theorem CV.tv {c : gC} {k : Nat} {n : Int32} {u : Nat} (h : CV c k n u) : TV c (exZ 23 127 k n u) (exZ 52 1023 k n u) := by
  rcases h with ⟨rfl, rfl, s, x, rfl⟩ | ⟨rfl, X, E, rfl, h1, h2, -, h3, h4, rfl⟩ | ⟨rfl, s, x, rfl⟩ | ⟨rfl, n', s, x, rfl⟩
  · exact TV_zero
  · exact tv_cell h1 h2 h3 (by omega)
  · rw [exZ_2, exZ_2, infB4, infB5]
    exact TV_inf
  · exact TV_nan
theorem RV.f5 {a : Int64} {k : Nat} {n : Int32} {u : Nat} (h : RV a k n u) : a = fin5 (exZ 52 1023 k n u) := by
  rcases h with ⟨rfl, rfl, rfl⟩ | ⟨rfl, D, rfl, h0, h1, rfl⟩ | ⟨rfl, rfl⟩ | ⟨rfl, rfl⟩
  · rfl
  · rw [exZ_1]
    have := encU_dec (w := 52) (b := 1023) (B := D) (by omega) h0 (by omega)
    show sgD n D = sgD n (encU 52 1023 (uD 52 1023 D))
    rw [this]
  · rw [exZ_2, infB5]; rfl
  · rfl
theorem enc_epk {w b q : Nat} {t : Int} (h0 : 0 < q) (hb : 1 ≤ b) (h1 : bl q ≤ w + 1) (h2 : (1 : Int) - b - w ≤ t) (h3 : (bl q : Int) + t - 1 ≤ b) : enc w b q t false = epk w b q t := by
  have hT : ¬ 0 < encT w b q t - t := by unfold encT; omega
  have hfq : fq w b q t false = q := by unfold fq; rw [if_neg hT]
  have hft : ft w b q t = t := by unfold ft; rw [if_neg hT]
  rw [enc_fit false h0 hb (by rw [hfq]; exact h0), hfq, hft, if_neg (by omega)]
/-- a number that 24 digits spell -/
def F4 (u : Nat) : Prop := ∃ (q : Nat) (t : Int), 0 < q ∧ q < 2 ^ 24 ∧ -149 ≤ t ∧ (bl q : Int) + t - 1 ≤ 127 ∧ uV q t = u
theorem RV.fb {a : Int64} {k : Nat} {n : Int32} {u : Nat} (hn : n = 0 ∨ n = 1) (h : RV a k n u) (h4 : k = 1 → F4 u) : f_X6_floatBits a = some (fin4 (exZ 23 127 k n u)) := by
  rcases h with ⟨rfl, rfl, rfl⟩ | ⟨rfl, D, rfl, h0, h1, rfl⟩ | ⟨rfl, rfl⟩ | ⟨rfl, rfl⟩
  · exact floatBits_zero hn
  · obtain ⟨q, t, q0, q1, t0, t1, hu⟩ := h4 rfl
    have hb24 := bl_le_of q1
    have hup : 0 < uV q t := uV_pos q0
    have hD : D = epk 52 1023 q t := by
      have := encU_dec (w := 52) (b := 1023) (B := D) (by omega) h0 (by omega)
      rw [← this]
      show encU 52 1023 (uV (vM 52 (D / 2 ^ 52) (D % 2 ^ 52)) (vE 52 1023 (D / 2 ^ 52))) = _
      rw [← hu]
      unfold encU
      rw [if_neg (by omega), enc_u 52 1023 q0 (by omega), enc_epk q0 (by omega) (by omega) (by omega) (by omega)]
    have hF : encU 23 127 (uV (vM 52 (D / 2 ^ 52) (D % 2 ^ 52)) (vE 52 1023 (D / 2 ^ 52))) = epk 23 127 q t := by
      rw [← hu]
      unfold encU
      rw [if_neg (by omega), enc_u 23 127 q0 (by omega), enc_epk q0 (by omega) (by omega) (by omega) (by omega)]
    rw [exZ_1, hF, hD]
    exact floatBits_fin hn q0 (by omega) (by omega) (by omega)
  · rw [exZ_2, infB4]
    exact floatBits_inf hn
  · exact floatBits_nan
theorem RV.pr {a : Int64} {k : Nat} {n : Int32} {u : Nat} (hn : n = 0 ∨ n = 1) (h : RV a k n u) (h4 : k = 1 → F4 u) : f_X6_floatBits a = some (fin4 (exZ 23 127 k n u)) ∧ a = fin5 (exZ 52 1023 k n u) := ⟨h.fb hn h4, h.f5⟩
/-- bits of a float that are a value: kind, sign, number -/
def V4 (x : Int64) (k : Nat) (n : Int32) (u : Nat) : Prop :=
  (k = 0 ∧ u = 0 ∧ x = sgF n 0) ∨ (k = 1 ∧ ∃ F, x = sgF n F ∧ 0 < F ∧ F < 255 * 2 ^ 23 ∧ uD 23 127 F = u) ∨ (k = 2 ∧ x = sgF n (255 * 2 ^ 23)) ∨ (k = 3 ∧ x = 2143289344)
theorem vM23 {F : Nat} : vM 23 (F / 2 ^ 23) (F % 2 ^ 23) < 2 ^ 24 := by
  have := Nat.mod_lt F (show 0 < 2 ^ 23 by omega)
  unfold vM
  split <;> omega
theorem vE23 {F : Nat} (h : F < 255 * 2 ^ 23) : -149 ≤ vE 23 127 (F / 2 ^ 23) ∧ vE 23 127 (F / 2 ^ 23) ≤ 104 := by
  unfold vE
  omega
theorem V4.f4 {x : Int64} {k : Nat} {n : Int32} {u : Nat} (h : V4 x k n u) : x = fin4 (exZ 23 127 k n u) := by
  rcases h with ⟨rfl, rfl, rfl⟩ | ⟨rfl, F, rfl, h0, h1, rfl⟩ | ⟨rfl, rfl⟩ | ⟨rfl, rfl⟩
  · rfl
  · rw [exZ_1]
    have := encU_dec (w := 23) (b := 127) (B := F) (by omega) h0 (by omega)
    show sgF n F = sgF n (encU 23 127 (uD 23 127 F))
    rw [this]
  · rw [exZ_2, infB4]; rfl
  · rfl
theorem F4_of {F : Nat} (h0 : 0 < F) (h1 : F < 255 * 2 ^ 23) : F4 (uD 23 127 F) := by
  have a := vM23 (F := F)
  have b := bl_le_of a
  have c := vE23 h1
  exact ⟨_, _, vM_pos' h0, a, c.1, by omega, rfl⟩
theorem V4.F4 {x : Int64} {k : Nat} {n : Int32} {u : Nat} (h : V4 x k n u) (hk : k = 1) : F4 u := by
  rcases h with ⟨rfl, -, -⟩ | ⟨rfl, F, -, h0, h1, rfl⟩ | ⟨rfl, -⟩ | ⟨rfl, -⟩
  · omega
  · exact F4_of h0 h1
  · omega
  · omega
theorem V4.wide {x : Int64} {k : Nat} {n : Int32} {u : Nat} (hn : n = 0 ∨ n = 1) (h : V4 x k n u) : ∃ a, f_X6_wide x = some a ∧ RV a k n u := by
  rcases h with ⟨rfl, rfl, rfl⟩ | ⟨rfl, F, rfl, h0, h1, rfl⟩ | ⟨rfl, rfl⟩ | ⟨rfl, rfl⟩
  · refine ⟨_, wide_ok hn (by omega), Or.inl ⟨rfl, rfl, ?_⟩⟩
    rw [if_neg (by omega)]
    rfl
  · refine ⟨_, wide_ok hn (by omega), Or.inr (Or.inl ⟨rfl, ?_⟩)⟩
    have a := vM23 (F := F)
    have b := bl_le_of a
    have c := vE23 h1
    have p := vM_pos' (w := 23) h0
    obtain ⟨j, j1, j2, j3, j4, -⟩ := epk_dec p (by omega) (t := vE 23 127 (F / 2 ^ 23)) (by omega) (by omega)
    have hw : wD (F / 2 ^ 23) (F % 2 ^ 23) = epk 52 1023 (vM 23 (F / 2 ^ 23) (F % 2 ^ 23)) (vE 23 127 (F / 2 ^ 23)) := by
      unfold wD
      rw [if_neg (by omega), if_neg (by omega)]
    have bd : -1074 ≤ vE 23 127 (F / 2 ^ 23) - j := by rw [← j2]; exact (vE_bd (by omega)).1
    refine ⟨wD (F / 2 ^ 23) (F % 2 ^ 23), ?_, ?_, ?_, ?_⟩
    · rw [if_neg (by omega)]
    · rw [hw]; exact j4
    · rw [hw]; exact j3
    · rw [hw, j1, j2]
      exact uV_shl (by omega)
  · refine ⟨_, wide_ok hn (by omega), Or.inr (Or.inr (Or.inl ⟨rfl, ?_⟩))⟩
    rw [if_neg (by omega)]
    rfl
  · rw [show (2143289344 : Int64) = sgF 0 2143289344 from by decide]
    refine ⟨_, wide_ok (Or.inl rfl) (by omega), Or.inr (Or.inr (Or.inr ⟨rfl, ?_⟩))⟩
    rw [if_pos (by omega)]
/-- the cell of a value -/
theorem rv_CV {w b : Nat} {n : Int32} {B : Nat} (h0 : 0 < B) (hB : B < (2 * b + 1) * 2 ^ w) (hw : w ≤ 52) (hbw : b + w ≤ 1075) (sg : Int64) (ex : Int32) : CV (rv w b n (B / 2 ^ w) (B % 2 ^ w) sg ex) 1 n (uD w b B) := by
  have hp := Nat.two_pow_pos w
  have hc : B / 2 ^ w < 2 * b + 1 := by rw [Nat.div_lt_iff_lt_mul hp]; exact hB
  have hm := Nat.mod_lt B hp
  have hd := Nat.div_add_mod' B (2 ^ w)
  have hMp := vM_pos' (w := w) h0
  have hM : vM w (B / 2 ^ w) (B % 2 ^ w) < 2 ^ (w + 1) := by
    unfold vM
    rw [Nat.pow_succ]
    split <;> omega
  have hbl := bl_le_of hM
  have hblp := bl_pos hMp
  have hE := vE_ge (w := w) (b := b) (c := B / 2 ^ w)
  have hE2 : vE w b (B / 2 ^ w) ≤ b + 1 := by
    unfold vE
    generalize B / 2 ^ w = c at *
    omega
  have h63 : vM w (B / 2 ^ w) (B % 2 ^ w) < 2 ^ 63 := Nat.lt_of_lt_of_le hM (Nat.pow_le_pow_right (by omega) (by omega))
  obtain ⟨n1, n2⟩ := rf_norm hMp h63
  refine Or.inr (Or.inl ⟨rfl, vM w (B / 2 ^ w) (B % 2 ^ w) * 2 ^ (63 - bl (vM w (B / 2 ^ w) (B % 2 ^ w))), vE w b (B / 2 ^ w) - (63 - bl (vM w (B / 2 ^ w) (B % 2 ^ w)) : Nat), ?_, n1, n2, ?_, by omega, by omega, ?_⟩)
  · unfold rv
    rw [if_neg (by omega), if_neg]
    rintro ⟨z1, z2⟩
    rw [z1, z2, Nat.zero_mul] at hd
    omega
  · apply Nat.mod_eq_zero_of_dvd
    exact Nat.dvd_trans (Nat.pow_dvd_pow 2 (by omega)) (Nat.dvd_mul_left _ _)
  · unfold uD
    exact uV_shl (by omega)
theorem V4.set {x : Int64} {k : Nat} {n : Int32} {u : Nat} (hn : n = 0 ∨ n = 1) (h : V4 x k n u) {G : gG} {a : Nat} {c0 : gC} (hG : G a = some c0) (hr : isR c0) : ∃ c, f_X2_setValue G a x 4 = some (g_up G a c) ∧ CV c k n u := by
  obtain ⟨k0, n0, sg, ex, rfl⟩ := hr
  rcases h with ⟨rfl, rfl, rfl⟩ | ⟨rfl, F, rfl, h0, h1, rfl⟩ | ⟨rfl, rfl⟩ | ⟨rfl, rfl⟩
  · refine ⟨_, setValue_4 hG hn (by omega), Or.inl ⟨rfl, rfl, sg, ex, ?_⟩⟩
    unfold rv
    rw [if_neg (by decide), if_pos (by decide)]
  · exact ⟨_, setValue_4 hG hn (by omega), rv_CV h0 (by omega) (by omega) (by omega) sg ex⟩
  · refine ⟨_, setValue_4 hG hn (by omega), Or.inr (Or.inr (Or.inl ⟨rfl, sg, ex, ?_⟩))⟩
    unfold rv
    rw [if_pos (by decide), if_pos (by decide)]
  · rw [show (2143289344 : Int64) = sgF 0 2143289344 from by decide]
    refine ⟨_, setValue_4 hG (Or.inl rfl) (by omega), Or.inr (Or.inr (Or.inr ⟨rfl, 0, sg, ex, ?_⟩))⟩
    unfold rv
    rw [if_pos (by decide), if_neg (by decide)]
theorem RV.set {x : Int64} {k : Nat} {n : Int32} {u : Nat} (hn : n = 0 ∨ n = 1) (h : RV x k n u) {G : gG} {a : Nat} {c0 : gC} (hG : G a = some c0) (hr : isR c0) : ∃ c, f_X2_setValue G a x 5 = some (g_up G a c) ∧ CV c k n u := by
  obtain ⟨k0, n0, sg, ex, rfl⟩ := hr
  rcases h with ⟨rfl, rfl, rfl⟩ | ⟨rfl, D, rfl, h0, h1, rfl⟩ | ⟨rfl, rfl⟩ | ⟨rfl, rfl⟩
  · refine ⟨_, setValue_5 hG hn (by omega), Or.inl ⟨rfl, rfl, sg, ex, ?_⟩⟩
    unfold rv
    rw [if_neg (by decide), if_pos (by decide)]
  · exact ⟨_, setValue_5 hG hn (by omega), rv_CV h0 (by omega) (by omega) (by omega) sg ex⟩
  · refine ⟨_, setValue_5 hG hn (by omega), Or.inr (Or.inr (Or.inl ⟨rfl, sg, ex, ?_⟩))⟩
    unfold rv
    rw [if_pos (by decide), if_pos (by decide)]
  · rw [show (9221120237041090560 : Int64) = sgD 0 9221120237041090560 from by decide]
    refine ⟨_, setValue_5 hG (Or.inl rfl) (by omega), Or.inr (Or.inr (Or.inr ⟨rfl, 0, sg, ex, ?_⟩))⟩
    unfold rv
    rw [if_pos (by decide), if_neg (by decide)]
