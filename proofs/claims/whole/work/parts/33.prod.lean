/-! Products. -/
theorem mul_split {a b : Nat} (ha : a < 2 ^ 53) (hb : b < 2 ^ 53) :
    let mid := a / 2 ^ 27 * (b % 2 ^ 27) + a % 2 ^ 27 * (b / 2 ^ 27)
    let low := a % 2 ^ 27 * (b % 2 ^ 27) + mid % 2 ^ 27 * 2 ^ 27
    let high := a / 2 ^ 27 * (b / 2 ^ 27) + mid / 2 ^ 27 + low / 2 ^ 54
    a * b = high * 2 ^ 54 + low % 2 ^ 54 ∧ mid < 2 ^ 55 ∧ low < 2 ^ 56 ∧ high < 2 ^ 53 := by
  intro mid low high
  have h1 : a / 2 ^ 27 < 2 ^ 26 := by omega
  have h2 : b / 2 ^ 27 < 2 ^ 26 := by omega
  have h3 : a % 2 ^ 27 < 2 ^ 27 := Nat.mod_lt _ (by omega)
  have h4 : b % 2 ^ 27 < 2 ^ 27 := Nat.mod_lt _ (by omega)
  have e : a * b = a / 2 ^ 27 * (b / 2 ^ 27) * 2 ^ 54 + mid * 2 ^ 27 + a % 2 ^ 27 * (b % 2 ^ 27) := by
    have ea : a = a / 2 ^ 27 * 2 ^ 27 + a % 2 ^ 27 := by omega
    have eb : b = b / 2 ^ 27 * 2 ^ 27 + b % 2 ^ 27 := by omega
    have : a * b = (a / 2 ^ 27 * 2 ^ 27 + a % 2 ^ 27) * (b / 2 ^ 27 * 2 ^ 27 + b % 2 ^ 27) := by rw [← ea, ← eb]
    rw [this]
    show _ = _ + (a / 2 ^ 27 * (b % 2 ^ 27) + a % 2 ^ 27 * (b / 2 ^ 27)) * 2 ^ 27 + _
    generalize a / 2 ^ 27 = p
    generalize a % 2 ^ 27 = q
    generalize b / 2 ^ 27 = r
    generalize b % 2 ^ 27 = t
    have e1 : p * 2 ^ 27 * (r * 2 ^ 27) = p * r * 2 ^ 54 := by
      rw [Nat.mul_mul_mul_comm]
    have e2 : p * 2 ^ 27 * t = p * t * 2 ^ 27 := by rw [Nat.mul_right_comm]
    have e3 : q * (r * 2 ^ 27) = q * r * 2 ^ 27 := by rw [Nat.mul_assoc]
    rw [Nat.add_mul, Nat.mul_add, Nat.mul_add, e1, e2, e3, Nat.add_mul]
    omega
  have m1 := Nat.mul_le_mul (show a / 2 ^ 27 ≤ 2 ^ 26 - 1 by omega) (show b % 2 ^ 27 ≤ 2 ^ 27 - 1 by omega)
  have m2 := Nat.mul_le_mul (show a % 2 ^ 27 ≤ 2 ^ 27 - 1 by omega) (show b / 2 ^ 27 ≤ 2 ^ 26 - 1 by omega)
  have m3 := Nat.mul_le_mul (show a % 2 ^ 27 ≤ 2 ^ 27 - 1 by omega) (show b % 2 ^ 27 ≤ 2 ^ 27 - 1 by omega)
  have m4 := Nat.mul_le_mul (show a / 2 ^ 27 ≤ 2 ^ 26 - 1 by omega) (show b / 2 ^ 27 ≤ 2 ^ 26 - 1 by omega)
  have hmid : mid = a / 2 ^ 27 * (b % 2 ^ 27) + a % 2 ^ 27 * (b / 2 ^ 27) := rfl
  have hlow : low = a % 2 ^ 27 * (b % 2 ^ 27) + mid % 2 ^ 27 * 2 ^ 27 := rfl
  have hhigh : high = a / 2 ^ 27 * (b / 2 ^ 27) + mid / 2 ^ 27 + low / 2 ^ 54 := rfl
  generalize a / 2 ^ 27 * (b / 2 ^ 27) = p11 at *
  generalize a % 2 ^ 27 * (b % 2 ^ 27) = p00 at *
  generalize a / 2 ^ 27 * (b % 2 ^ 27) = p10 at *
  generalize a % 2 ^ 27 * (b / 2 ^ 27) = p01 at *
  clear_value mid low high
  refine ⟨?_, by omega, by omega, by omega⟩
  rw [e]
  omega
/-- a product, cut after 44 bits -/
theorem cprod (w b : Nat) (hw : w ≤ 52) {X Y : Nat} {E1 E2 : Int} (hX1 : 2 ^ 62 ≤ X) (hX : X % 2 ^ 10 = 0) (hY1 : 2 ^ 62 ≤ Y) (hY : Y % 2 ^ 10 = 0) (h1 : -1200 ≤ E1) (h2 : -1200 ≤ E2) :
    enc w b (jam (X / 2 ^ 10 * (Y / 2 ^ 10) / 2 ^ 44) (decide (X / 2 ^ 10 * (Y / 2 ^ 10) % 2 ^ 44 ≠ 0))) (E1 + E2 + 64) false = enc w b (uV X E1 * uV Y E2) (-2400) false := by
  have hN : 2 ^ 104 ≤ X / 2 ^ 10 * (Y / 2 ^ 10) := by
    have := Nat.mul_le_mul (show 2 ^ 52 ≤ X / 2 ^ 10 by omega) (show 2 ^ 52 ≤ Y / 2 ^ 10 by omega)
    omega
  have hu : uV X E1 * uV Y E2 = X / 2 ^ 10 * (Y / 2 ^ 10) * 2 ^ (20 + (E1 + 1200).toNat + (E2 + 1200).toNat) := by
    unfold uV
    have ex : X = X / 2 ^ 10 * 2 ^ 10 := by omega
    have ey : Y = Y / 2 ^ 10 * 2 ^ 10 := by omega
    have e0 : X * Y = X / 2 ^ 10 * (Y / 2 ^ 10) * 2 ^ 20 := by
      have : X * Y = X / 2 ^ 10 * 2 ^ 10 * (Y / 2 ^ 10 * 2 ^ 10) := by rw [← ex, ← ey]
      rw [this, Nat.mul_mul_mul_comm]
    rw [Nat.mul_mul_mul_comm, e0, Nat.pow_add, Nat.pow_add]
    simp only [Nat.mul_assoc]
  generalize X / 2 ^ 10 * (Y / 2 ^ 10) = N at *
  have hge : 2 ^ 60 ≤ N / 2 ^ 44 := by omega
  have hbl := bl_ge_of hge
  have e1 := enc_js w b (N := N) (d := 44) (E := E1 + E2 + 20) (by omega) (Or.inr (by omega))
  have e2 := enc_shl w b (m := N) (e := E1 + E2 + 20) (20 + (E1 + 1200).toNat + (E2 + 1200).toNat) (by omega)
  rw [hu]
  have e3 : E1 + E2 + 20 - ((20 + (E1 + 1200).toNat + (E2 + 1200).toNat : Nat) : Int) = -2400 := by omega
  rw [e3] at e2
  rw [e2, ← e1]
  exact congrArg (fun z => enc w b _ z false) (by omega)
theorem prod_or {high B N : Nat} (hB : B < 2 ^ 54) (hN : N = high * 2 ^ 54 + B) : (high * 2 ^ 10 ||| trc B 44) = jam (N / 2 ^ 44) (decide (N % 2 ^ 44 ≠ 0)) := by
  have e1 : N / 2 ^ 44 = high * 2 ^ 10 + B / 2 ^ 44 := by omega
  have e2 : N % 2 ^ 44 = B % 2 ^ 44 := by omega
  have hq : B / 2 ^ 44 < 2 ^ 10 := by omega
  rw [e1, e2]
  unfold trc jam
  rw [if_neg (by decide), if_pos (by decide), ← Nat.or_assoc, lor_add hq]
  by_cases c : B % 2 ^ 44 = 0
  · rw [if_pos c, if_neg (by simp [c]), Nat.or_zero]
  · rw [if_neg c, if_pos (by simp [c])]
theorem fprod_ok {G : gG} {th a1 a2 : Nat} {k0 n0 n1 n2 : Int32} {s0 : Int64} {e0 : Int32} {X Y : Nat} {E1 E2 : Int} (ht : G th = some (rc k0 n0 s0 e0)) (h1 : G a1 = some (rc 1 n1 (lN X) (jI E1))) (h2 : G a2 = some (rc 1 n2 (lN Y) (jI E2))) {n : Int32} (hn : n = 0 ∨ n = 1) (hX1 : 2 ^ 62 ≤ X) (hX2 : X < 2 ^ 63) (hY1 : 2 ^ 62 ≤ Y) (hY2 : Y < 2 ^ 63) :
    f_X2_setFiniteProduct G th n a1 a2 = some (g_up G th (rf n (jam (X / 2 ^ 10 * (Y / 2 ^ 10) / 2 ^ 44) (decide (X / 2 ^ 10 * (Y / 2 ^ 10) % 2 ^ 44 ≠ 0))) (E1 + E2 + 64))) := by
  obtain ⟨q1, q2, q3, q4⟩ := mul_split (a := X / 2 ^ 10) (b := Y / 2 ^ 10) (by omega) (by omega)
  have ha : X / 2 ^ 10 < 2 ^ 53 := by omega
  have hb : Y / 2 ^ 10 < 2 ^ 53 := by omega
  have hN : 2 ^ 104 ≤ X / 2 ^ 10 * (Y / 2 ^ 10) := by
    have := Nat.mul_le_mul (show 2 ^ 52 ≤ X / 2 ^ 10 by omega) (show 2 ^ 52 ≤ Y / 2 ^ 10 by omega)
    omega
  have eX : g_lushr (lN X) 10 = lN (X / 2 ^ 10) := lushr_N (by omega) (k := 10) (by omega)
  have eY : g_lushr (lN Y) 10 = lN (Y / 2 ^ 10) := lushr_N (by omega) (k := 10) (by omega)
  have lm : g_lshl 1 27 - 1 = lN (2 ^ 27 - 1) := lsub1_N (k := 27) (by omega)
  have l54 : g_lshl 1 ((2 : Int32) * 27) - 1 = lN (2 ^ 54 - 1) := lsub1_N (k := 54) (by omega)
  have c54 : (2 : Int32) * 27 = nI 54 := by decide
  have c44 : (2 : Int32) * 27 - 10 = nI 44 := by decide
  have s27 : ∀ {x : Nat}, x < 2 ^ 64 → g_lushr (lN x) 27 = lN (x / 2 ^ 27) := fun h => lushr_N h (k := 27) (by omega)
  have k27 : ∀ {x : Nat}, x < 2 ^ 64 → (lN x &&& lN (2 ^ 27 - 1)) = lN (x % 2 ^ 27) := fun h => lmask_N h (by omega)
  generalize X / 2 ^ 10 = a at *
  generalize Y / 2 ^ 10 = b at *
  unfold f_X2_setFiniteProduct
  rw [rc_s h1, rc_s h2, rc_e h1, rc_e h2, c44, l54]
  simp only [gl, gb_some]
  rw [eX, eY, lm, c54, s27 (x := a) (by omega), s27 (x := b) (by omega), k27 (x := a) (by omega), k27 (x := b) (by omega), lN_mul, lN_mul, lN_mul, lN_mul, lN_add]
  generalize a / 2 ^ 27 * (b % 2 ^ 27) + a % 2 ^ 27 * (b / 2 ^ 27) = mid at *
  rw [k27 (x := mid) (by omega), s27 (x := mid) (by omega), show (27 : Int32) = nI 27 from rfl, lshl_N _ (by omega), lN_add, lN_add]
  generalize a % 2 ^ 27 * (b % 2 ^ 27) + mid % 2 ^ 27 * 2 ^ 27 = low at *
  rw [lushr_N (by omega) (k := 54) (by omega), lN_add, lmask_N (by omega) (by omega), trace_ok (by omega) (by omega)]
  generalize a / 2 ^ 27 * (b / 2 ^ 27) + mid / 2 ^ 27 + low / 2 ^ 54 = high at *
  have hB : low % 2 ^ 54 < 2 ^ 54 := Nat.mod_lt _ (by omega)
  have ho := prod_or hB q1
  generalize a * b = N at *
  have hN2 : N < 2 ^ 106 + 2 ^ 54 * 2 ^ 53 := by omega
  have hj : 0 < jam (N / 2 ^ 44) (decide (N % 2 ^ 44 ≠ 0)) ∧ jam (N / 2 ^ 44) (decide (N % 2 ^ 44 ≠ 0)) < 2 ^ 63 := by
    unfold jam
    split
    · exact ⟨Nat.lt_of_lt_of_le (show 0 < N / 2 ^ 44 by omega) Nat.left_le_or, Nat.or_lt_two_pow (by omega) (by omega)⟩
    · exact ⟨by omega, by omega⟩
  have ht44 : trc (low % 2 ^ 54) 44 < 2 ^ 62 := by
    rcases Nat.eq_zero_or_pos (low % 2 ^ 54) with g | g
    · rw [g]; decide
    · exact trc_lt g (by omega)
  rw [show (10 : Int32) = nI 10 from rfl, lshl_N _ (by omega), lor_N (by omega) (by omega), ho, show (20 : Int32) = jI 20 from rfl, nI_jI 44, jI_add, jI_add, jI_add, gck_true (rc_o ht), setFinite_ok ht hn hj.1 hj.2, gb_some]
  have e9 : E1 + E2 + 20 + ((44 : Nat) : Int) = E1 + E2 + 64 := by omega
  rw [e9]
  rfl
def sgnP (n1 n2 : Int32) : Int32 := if n1 = n2 then 0 else 1
theorem sgnP_b (n1 n2 : Int32) : sgnP n1 n2 = 0 ∨ sgnP n1 n2 = 1 := by
  unfold sgnP; split
  · exact Or.inl rfl
  · exact Or.inr rfl
def prodZ (w b : Nat) (k1 : Nat) (n1 : Int32) (u1 : Nat) (k2 : Nat) (n2 : Int32) (u2 : Nat) : Option (Int32 × Nat) :=
  if k1 = 3 ∨ k2 = 3 ∨ (k1 = 0 ∧ k2 = 2) ∨ (k1 = 2 ∧ k2 = 0) then none
  else if k1 = 2 ∨ k2 = 2 then some (sgnP n1 n2, infB w b) else if k1 = 0 ∨ k2 = 0 then some (sgnP n1 n2, 0)
  else some (sgnP n1 n2, enc w b (u1 * u2) (-2400) false)
theorem fprod_TV {n : Int32} {X Y : Nat} {E1 E2 : Int} (hX1 : 2 ^ 62 ≤ X) (hX2 : X < 2 ^ 63) (hX : X % 2 ^ 10 = 0) (hY1 : 2 ^ 62 ≤ Y) (hY2 : Y < 2 ^ 63) (hY : Y % 2 ^ 10 = 0) (h1 : -1200 ≤ E1 ∧ E1 ≤ 2000) (h2 : -1200 ≤ E2 ∧ E2 ≤ 2000) :
    TV (rf n (jam (X / 2 ^ 10 * (Y / 2 ^ 10) / 2 ^ 44) (decide (X / 2 ^ 10 * (Y / 2 ^ 10) % 2 ^ 44 ≠ 0))) (E1 + E2 + 64)) (some (n, enc 23 127 (uV X E1 * uV Y E2) (-2400) false)) (some (n, enc 52 1023 (uV X E1 * uV Y E2) (-2400) false)) := by
  rw [← cprod 23 127 (by omega) hX1 hX hY1 hY h1.1 h2.1, ← cprod 52 1023 (by omega) hX1 hX hY1 hY h1.1 h2.1]
  have hN : 2 ^ 104 ≤ X / 2 ^ 10 * (Y / 2 ^ 10) := by
    have := Nat.mul_le_mul (show 2 ^ 52 ≤ X / 2 ^ 10 by omega) (show 2 ^ 52 ≤ Y / 2 ^ 10 by omega)
    omega
  have hN2 : X / 2 ^ 10 * (Y / 2 ^ 10) ≤ 2 ^ 53 * 2 ^ 53 := Nat.mul_le_mul (by omega) (by omega)
  generalize X / 2 ^ 10 * (Y / 2 ^ 10) = N at *
  apply TV_of
  apply tv_fin
  · unfold jam
    split
    · exact Nat.lt_of_lt_of_le (show 0 < N / 2 ^ 44 by omega) Nat.left_le_or
    · omega
  · unfold jam
    split
    · exact Nat.or_lt_two_pow (by omega) (by omega)
    · omega
  · omega
theorem setProduct_16 {G : gG} {th a1 a2 : Nat} {K1 N1 K2 N2 : Int32} {S1 S2 : Int64} {X1 X2 : Int32} (h1 : G a1 = some (rc K1 N1 S1 X1)) (h2 : G a2 = some (rc K2 N2 S2 X2)) : f_X2_setProduct G th a1 a2 = f_X2_setProduct_16 G th a1 a2 (sgnP N1 N2) := by
  unfold f_X2_setProduct sgnP
  rw [rc_n h1, gb_some, rc_n h2, gb_some]
  by_cases c : N1 = N2
  · rw [if_pos c, if_pos c]
  · rw [if_neg c, if_neg c]
theorem setProduct_ok {G : gG} {th a1 a2 : Nat} {c0 c1 c2 : gC} (ht : G th = some c0) (hr : isR c0) (h1 : G a1 = some c1) (h2 : G a2 = some c2) {k1 k2 : Nat} {n1 n2 : Int32} {u1 u2 : Nat} (v1 : CV c1 k1 n1 u1) (v2 : CV c2 k2 n2 u2) :
    ∃ c, f_X2_setProduct G th a1 a2 = some (g_up G th c) ∧ isR c ∧ TV c (prodZ 23 127 k1 n1 u1 k2 n2 u2) (prodZ 52 1023 k1 n1 u1 k2 n2 u2) := by
  obtain ⟨k0, n0, s0, e0, rfl⟩ := hr
  have nan : ∃ c, f_X2_setProduct_87 G th = some (g_up G th c) ∧ isR c ∧ TV c none none := by
    refine ⟨rc 3 0 s0 e0, ?_, ⟨_, _, _, _, rfl⟩, TV_nan⟩
    unfold f_X2_setProduct_87
    rw [gck_true (rc_o ht), setKind_ok ht 3 (Or.inl rfl), gb_some]
  have k117 : ∀ (k : Int32), f_X2_setProduct_117 G (sgnP n1 n2) k th = some (g_up G th (rc k (sgnP n1 n2) s0 e0)) := by
    intro k
    unfold f_X2_setProduct_117
    rw [gck_true (rc_o ht), setKind_ok ht k (sgnP_b n1 n2), gb_some]
  rcases v1 with ⟨rfl, rfl, s1, x1, rfl⟩ | ⟨rfl, X, E1, rfl, w1, w2, w3, w4, w5, rfl⟩ | ⟨rfl, s1, x1, rfl⟩ | ⟨rfl, n1', s1, x1, rfl⟩
  · rcases v2 with ⟨rfl, rfl, s2, x2, rfl⟩ | ⟨rfl, Y, E2, rfl, z1, z2, z3, z4, z5, rfl⟩ | ⟨rfl, s2, x2, rfl⟩ | ⟨rfl, n2', s2, x2, rfl⟩
    all_goals rw [setProduct_16 h1 h2]
    all_goals simp (decide := true) only [f_X2_setProduct_16, f_X2_setProduct_31, f_X2_setProduct_36, f_X2_setProduct_54, f_X2_setProduct_59, f_X2_setProduct_96, f_X2_setProduct_106, rc_k h1, rc_k h2, gb_some, if_true, if_false, prodZ]
    · exact ⟨_, k117 0, ⟨_, _, _, _, rfl⟩, TV_zero⟩
    · exact ⟨_, k117 0, ⟨_, _, _, _, rfl⟩, TV_zero⟩
    · exact nan
    · exact nan
  · rcases v2 with ⟨rfl, rfl, s2, x2, rfl⟩ | ⟨rfl, Y, E2, rfl, z1, z2, z3, z4, z5, rfl⟩ | ⟨rfl, s2, x2, rfl⟩ | ⟨rfl, n2', s2, x2, rfl⟩
    all_goals rw [setProduct_16 h1 h2]
    all_goals simp (decide := true) only [f_X2_setProduct_16, f_X2_setProduct_31, f_X2_setProduct_36, f_X2_setProduct_54, f_X2_setProduct_59, f_X2_setProduct_96, f_X2_setProduct_106, rc_k h1, rc_k h2, gb_some, if_true, if_false, prodZ]
    · exact ⟨_, k117 0, ⟨_, _, _, _, rfl⟩, TV_zero⟩
    · rw [gck_true (rc_o ht), fprod_ok ht h1 h2 (sgnP_b n1 n2) w1 w2 z1 z2, gb_some]
      exact ⟨_, rfl, ⟨_, _, _, _, rfl⟩, fprod_TV w1 w2 w3 z1 z2 z3 ⟨w4, w5⟩ ⟨z4, z5⟩⟩
    · exact ⟨_, k117 2, ⟨_, _, _, _, rfl⟩, TV_inf⟩
    · exact nan
  · rcases v2 with ⟨rfl, rfl, s2, x2, rfl⟩ | ⟨rfl, Y, E2, rfl, z1, z2, z3, z4, z5, rfl⟩ | ⟨rfl, s2, x2, rfl⟩ | ⟨rfl, n2', s2, x2, rfl⟩
    all_goals rw [setProduct_16 h1 h2]
    all_goals simp (decide := true) only [f_X2_setProduct_16, f_X2_setProduct_31, f_X2_setProduct_36, f_X2_setProduct_54, f_X2_setProduct_59, f_X2_setProduct_96, f_X2_setProduct_106, rc_k h1, rc_k h2, gb_some, if_true, if_false, prodZ]
    · exact nan
    · exact ⟨_, k117 2, ⟨_, _, _, _, rfl⟩, TV_inf⟩
    · exact ⟨_, k117 2, ⟨_, _, _, _, rfl⟩, TV_inf⟩
    · exact nan
  · have hz : ∀ w b, prodZ w b 3 n1 u1 k2 n2 u2 = none := fun w b => by unfold prodZ; rw [if_pos (Or.inl rfl)]
    rw [hz, hz]
    obtain ⟨K2, N2, S2, X2, rfl⟩ := v2.real
    rw [setProduct_16 h1 h2]
    unfold f_X2_setProduct_16 f_X2_setProduct_31 f_X2_setProduct_36 f_X2_setProduct_54 f_X2_setProduct_59
    simp (decide := true) only [rc_k h1, rc_k h2, gb_some, if_true, if_false]
    by_cases c : K2 = 0
    · simp only [if_pos c]
      by_cases c2 : K2 = 2
      · simp only [if_pos c2]; exact nan
      · simp only [if_neg c2]; exact nan
    · simp only [if_neg c]
      by_cases c2 : K2 = 2
      · simp only [if_pos c2]; exact nan
      · simp only [if_neg c2]; exact nan
