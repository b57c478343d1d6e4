/-! Rounding to the nearest, ties to even. -/
def rs (m k : Nat) (s : Bool) : Nat := if 2 ^ (k - 1) < m % 2 ^ k ∨ (m % 2 ^ k = 2 ^ (k - 1) ∧ (s = true ∨ m / 2 ^ k % 2 = 1)) then m / 2 ^ k + 1 else m / 2 ^ k
theorem cmp_lt {J h R r : Nat} (hr : r < J) : h * J < r + J * R ↔ h < R ∨ (R = h ∧ 0 < r) := by
  rcases Nat.lt_trichotomy R h with q | q | q
  · have := Nat.mul_le_mul_left J (show R + 1 ≤ h from q)
    rw [Nat.mul_add, Nat.mul_one] at this
    rw [Nat.mul_comm h J]
    omega
  · subst q
    rw [Nat.mul_comm]
    omega
  · have := Nat.mul_le_mul_left J (show h + 1 ≤ R from q)
    rw [Nat.mul_add, Nat.mul_one] at this
    rw [Nat.mul_comm h J]
    omega
theorem cmp_eq {J h R r : Nat} (hr : r < J) : r + J * R = h * J ↔ R = h ∧ r = 0 := by
  rcases Nat.lt_trichotomy R h with q | q | q
  · have := Nat.mul_le_mul_left J (show R + 1 ≤ h from q)
    rw [Nat.mul_add, Nat.mul_one] at this
    rw [Nat.mul_comm h J]
    omega
  · subst q
    rw [Nat.mul_comm]
    omega
  · have := Nat.mul_le_mul_left J (show h + 1 ≤ R from q)
    rw [Nat.mul_add, Nat.mul_one] at this
    rw [Nat.mul_comm h J]
    omega
/-- what is cut off first only counts by whether it is there -/
theorem rs_trunc (m j : Nat) {k : Nat} (s : Bool) (hk : 1 ≤ k) : rs m (k + j) s = rs (m / 2 ^ j) k (s || decide (m % 2 ^ j ≠ 0)) := by
  unfold rs
  have e0 : (2 : Nat) ^ (k + j) = 2 ^ j * 2 ^ k := by rw [Nat.pow_add, Nat.mul_comm]
  have e1 : m / 2 ^ (k + j) = m / 2 ^ j / 2 ^ k := by rw [e0, Nat.div_div_eq_div_mul]
  have e2 : m % 2 ^ (k + j) = m % 2 ^ j + 2 ^ j * (m / 2 ^ j % 2 ^ k) := by rw [e0, Nat.mod_mul]
  have e3 : (2 : Nat) ^ (k + j - 1) = 2 ^ (k - 1) * 2 ^ j := by rw [← Nat.pow_add]; congr 1; omega
  have hr : m % 2 ^ j < 2 ^ j := Nat.mod_lt _ (Nat.two_pow_pos j)
  rw [e1, e2, e3]
  generalize m / 2 ^ j / 2 ^ k = Q at *
  generalize m / 2 ^ j % 2 ^ k = Rr at *
  generalize m % 2 ^ j = r at *
  have hd : (s || decide (r ≠ 0)) = true ↔ (s = true ∨ 0 < r) := by
    rw [Bool.or_eq_true, decide_eq_true_iff, Nat.pos_iff_ne_zero]
  by_cases c : 2 ^ (k - 1) < Rr ∨ Rr = 2 ^ (k - 1) ∧ ((s || decide (r ≠ 0)) = true ∨ Q % 2 = 1)
  · rw [if_pos c, if_pos]
    rw [cmp_lt hr, cmp_eq hr]
    rw [hd] at c
    by_cases h0 : r = 0
    · rcases c with c | ⟨c1, c2⟩
      · exact Or.inl (Or.inl c)
      · right
        refine ⟨⟨c1, h0⟩, ?_⟩
        rcases c2 with (c2 | c2) | c2
        · exact Or.inl c2
        · omega
        · exact Or.inr c2
    · rcases c with c | ⟨c1, c2⟩
      · exact Or.inl (Or.inl c)
      · exact Or.inl (Or.inr ⟨c1, by omega⟩)
  · rw [if_neg c, if_neg]
    intro q
    rw [cmp_lt hr, cmp_eq hr] at q
    apply c
    rw [hd]
    rcases q with (q | ⟨q1, q2⟩) | ⟨⟨q1, q2⟩, q3⟩
    · exact Or.inl q
    · exact Or.inr ⟨q1, Or.inl (Or.inr q2)⟩
    · refine Or.inr ⟨q1, ?_⟩
      rcases q3 with q3 | q3
      · exact Or.inl (Or.inl q3)
      · exact Or.inr q3
/-- a bit at the end tells as well that something more is there -/
theorem rs_jam (m : Nat) {k : Nat} (hk : 2 ≤ k) : rs (m ||| 1) k false = rs m k true := by
  have hq : (m ||| 1) / 2 = m / 2 := by
    have := Nat.shiftRight_or_distrib (a := m) (b := 1) (i := 1)
    simp only [Nat.shiftRight_eq_div_pow, Nat.pow_one] at this
    rw [this]
    simp
  have hb : (m ||| 1) % 2 = 1 := by
    have := Nat.or_mod_two_eq_one (a := m) (b := 1)
    omega
  obtain ⟨q, rfl⟩ : ∃ q, k = q + 1 := ⟨k - 1, by omega⟩
  rw [rs_trunc (m ||| 1) 1 false (by omega), rs_trunc m 1 true (by omega), Nat.pow_one, hq, hb]
  simp
theorem rs_exact {m k : Nat} (s : Bool) (hk : 1 ≤ k) (h : m % 2 ^ k = 0) : rs m k s = m / 2 ^ k := by
  unfold rs
  have := Nat.two_pow_pos (k - 1)
  rw [if_neg]
  omega
theorem rs_small {m k : Nat} (s : Bool) (h : m < 2 ^ (k - 1)) : rs m k s = 0 := by
  unfold rs
  have h1 : (2 : Nat) ^ (k - 1) ≤ 2 ^ k := Nat.pow_le_pow_right (by omega) (by omega)
  have h2 : m % 2 ^ k = m := Nat.mod_eq_of_lt (by omega)
  have h3 : m / 2 ^ k = 0 := Nat.div_eq_of_lt (by omega)
  rw [h2, h3, if_neg]
  omega
theorem rs_le (m k : Nat) (s : Bool) : m / 2 ^ k ≤ rs m k s ∧ rs m k s ≤ m / 2 ^ k + 1 := by
  unfold rs
  split <;> omega
theorem rs_lo {m k j : Nat} (s : Bool) (h : 2 ^ (k + j) ≤ m) : 2 ^ j ≤ rs m k s := by
  refine Nat.le_trans ?_ (rs_le m k s).1
  rw [Nat.le_div_iff_mul_le (Nat.two_pow_pos k), ← Nat.pow_add, Nat.add_comm]
  exact h
theorem rs_hi {m k j : Nat} (s : Bool) (h : m < 2 ^ (k + j)) : rs m k s ≤ 2 ^ j := by
  refine Nat.le_trans (rs_le m k s).2 ?_
  have : m / 2 ^ k < 2 ^ j := by
    rw [Nat.div_lt_iff_lt_mul (Nat.two_pow_pos k), ← Nat.pow_add, Nat.add_comm]
    exact h
  omega
/-- the size, in bits, of m times 2 to the e (s: and something more) in a format of w bits of fraction and a bias b -/
def encT (w b : Nat) (m : Nat) (e : Int) : Int := max (e + bl m - (w + 1)) (1 - b - w)
def encQ (w b : Nat) (m : Nat) (e : Int) (s : Bool) : Nat := if 0 < encT w b m e - e then rs m (encT w b m e - e).toNat s else m * 2 ^ (e - encT w b m e).toNat
def enc (w b : Nat) (m : Nat) (e : Int) (s : Bool) : Nat := min ((encT w b m e - (1 - b - w)).toNat * 2 ^ w + encQ w b m e s) ((2 * b + 1) * 2 ^ w)
/-- the same number, cut: the same bits -/
theorem enc_trunc (w b : Nat) {m : Nat} {e : Int} {j : Nat} (s : Bool) (hm : 0 < m / 2 ^ j) (ht : e + j < encT w b m e) : enc w b m e s = enc w b (m / 2 ^ j) (e + j) (s || decide (m % 2 ^ j ≠ 0)) := by
  have hm0 : 0 < m := Nat.pos_of_ne_zero (fun q => by subst q; simp at hm)
  have hb : bl m = bl (m / 2 ^ j) + j := by
    have p := bl_pos hm
    have a := bl_lt (m / 2 ^ j)
    have c := bl_le hm
    have e1 : bl m = (bl (m / 2 ^ j) - 1 + j) + 1 := by
      apply bl_of
      · rw [Nat.pow_add, ← Nat.le_div_iff_mul_le (Nat.two_pow_pos j)]
        exact c
      · rw [show bl (m / 2 ^ j) - 1 + j + 1 = bl (m / 2 ^ j) + j by omega, Nat.pow_add, ← Nat.div_lt_iff_lt_mul (Nat.two_pow_pos j)]
        exact a
    omega
  have hT : encT w b (m / 2 ^ j) (e + j) = encT w b m e := by
    unfold encT
    rw [hb]
    congr 1
    push_cast
    omega
  unfold enc
  rw [hT]
  congr 2
  unfold encQ
  rw [hT, if_pos (by omega), if_pos (by omega)]
  have hk : (encT w b m e - e).toNat = (encT w b m e - (e + j)).toNat + j := by omega
  rw [hk]
  exact rs_trunc m j s (by omega)
theorem enc_shl (w b : Nat) {m : Nat} {e : Int} (j : Nat) (hm : 0 < m) : enc w b (m * 2 ^ j) (e - j) false = enc w b m e false := by
  have hT : encT w b (m * 2 ^ j) (e - j) = encT w b m e := by
    unfold encT
    rw [bl_shl hm]
    congr 1
    push_cast
    omega
  unfold enc
  rw [hT]
  congr 2
  unfold encQ
  rw [hT]
  generalize encT w b m e = t
  by_cases c : 0 < t - e
  · rw [if_pos (by omega), if_pos c]
    have hk : (t - (e - j)).toNat = (t - e).toNat + j := by omega
    rw [hk, rs_trunc (m * 2 ^ j) j false (by omega), Nat.mul_div_cancel _ (Nat.two_pow_pos j), Nat.mul_mod_left]
    simp
  · rw [if_neg c]
    by_cases c2 : 0 < t - (e - j)
    · rw [if_pos c2]
      have hk : e - t = (e - t).toNat := by omega
      obtain ⟨i, hi⟩ : ∃ i : Nat, j = (t - (e - j)).toNat + i := ⟨(e - t).toNat, by omega⟩
      have hi2 : (e - t).toNat = i := by omega
      rw [hi2]
      have h4 : m * 2 ^ j = m * 2 ^ i * 2 ^ (t - (e - j)).toNat := by
        rw [Nat.mul_assoc, ← Nat.pow_add]
        congr 2
        omega
      rw [h4, rs_exact false (by omega) (Nat.mul_mod_left _ _), Nat.mul_div_cancel _ (Nat.two_pow_pos _)]
    · rw [if_neg c2, Nat.mul_assoc, ← Nat.pow_add]
      congr 2
      omega
