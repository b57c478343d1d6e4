/-! The reference's rounding: fit, and what floatBits makes of it. -/
theorem encT_le {w b m : Nat} {e : Int} : (1 - b - w : Int) ≤ encT w b m e ∧ e + bl m - (w + 1) ≤ encT w b m e ∧ (encT w b m e = 1 - b - w ∨ encT w b m e = e + bl m - (w + 1)) := by
  unfold encT
  omega
/-- the number that is kept, and its exponent -/
def fq (w b m : Nat) (e : Int) (s : Bool) : Nat := if 0 < encT w b m e - e then rs m (encT w b m e - e).toNat s else m
def ft (w b m : Nat) (e : Int) : Int := if 0 < encT w b m e - e then encT w b m e else e
theorem enc_fit {w b m : Nat} {e : Int} (s : Bool) (hm : 0 < m) (hb : 1 ≤ b) (hq : 0 < fq w b m e s) :
    enc w b m e s = if (b : Int) < bl (fq w b m e s) + ft w b m e - 1 then (2 * b + 1) * 2 ^ w else epk w b (fq w b m e s) (ft w b m e) := by
  obtain ⟨t1, t2, t3⟩ := encT_le (w := w) (b := b) (m := m) (e := e)
  have hlt := bl_lt m
  have hge := bl_le hm
  have hp := bl_pos hm
  have hw0 := Nat.two_pow_pos w
  unfold enc encQ
  unfold fq ft at *
  generalize encT w b m e = T at *
  by_cases c : 0 < T - e
  · rw [if_pos c] at hq
    rw [if_pos c, if_pos c, if_pos c]
    have hhi : rs m (T - e).toNat s ≤ 2 ^ (w + 1) := rs_hi s (Nat.lt_of_lt_of_le hlt (Nat.pow_le_pow_right (by omega) (by omega)))
    generalize hQ : rs m (T - e).toNat s = q at *
    rcases Nat.lt_or_ge q (2 ^ w) with g1 | g1
    · -- below the least that has all bits: no exponent
      have hT : T = 1 - b - w := by
        rcases t3 with t3 | t3
        · exact t3
        · have := rs_lo (m := m) (k := (T - e).toNat) (j := w) s (by rw [show (T - e).toNat + w = bl m - 1 by omega]; exact hge)
          omega
      have hb1 := bl_le_of g1
      rw [if_neg (by omega), epk_s (by omega), hT]
      have e1 : ((1 - b - w : Int) - (1 - b - w)).toNat = 0 := by omega
      rw [e1, Nat.zero_mul, Nat.zero_add, Nat.pow_zero, Nat.mul_one, min_l]
      have := Nat.mul_le_mul_right (2 ^ w) (show 1 ≤ 2 * b + 1 by omega)
      omega
    · rcases Nat.lt_or_ge q (2 ^ (w + 1)) with g2 | g2
      · have hbq : bl q = w + 1 := bl_of g1 g2
        by_cases d : (b : Int) < bl q + T - 1
        · rw [if_pos d, min_r]
          have hx : 2 * b + 1 ≤ (T - (1 - b - w)).toNat + 1 := by omega
          have := Nat.mul_le_mul_right (2 ^ w) hx
          rw [Nat.add_mul (T - (1 - b - w)).toNat] at this
          omega
        · rw [if_neg d, epk_n (by omega) (by omega), hbq, Nat.sub_self, Nat.pow_zero, Nat.mul_one, min_l]
          · have e2 : (((w + 1 : Nat) : Int) + T - 1 + b - 1).toNat = (T - (1 - b - w)).toNat := by omega
            rw [e2]
          · have hx : (T - (1 - b - w)).toNat + 2 ≤ 2 * b + 1 := by omega
            have := Nat.mul_le_mul_right (2 ^ w) hx
            rw [Nat.add_mul (T - (1 - b - w)).toNat] at this
            rw [Nat.pow_succ] at g2
            omega
      · have hq2 : q = 2 ^ (w + 1) := by omega
        have hbq : bl q = w + 2 := by
          apply bl_of
          · omega
          · rw [hq2]; exact Nat.pow_lt_pow_right (by omega) (by omega)
        have hh : q / 2 ^ (w + 2 - (w + 1)) = 2 ^ w := by
          rw [hq2, show w + 2 - (w + 1) = 1 by omega, Nat.pow_one, Nat.pow_succ, Nat.mul_div_cancel _ (by omega)]
        by_cases d : (b : Int) < bl q + T - 1
        · rw [if_pos d, min_r]
          have hx : 2 * b + 1 ≤ (T - (1 - b - w)).toNat + 2 := by omega
          have := Nat.mul_le_mul_right (2 ^ w) hx
          rw [Nat.add_mul (T - (1 - b - w)).toNat] at this
          rw [Nat.pow_succ] at g2
          omega
        · rw [if_neg d, epk_m (by omega) (by omega), hbq, hh, min_l]
          · have e2 : (((w + 2 : Nat) : Int) + T - 1 + b - 1).toNat = (T - (1 - b - w)).toNat + 1 := by omega
            rw [e2, Nat.add_mul, hq2, Nat.pow_succ]
            omega
          · have hx : (T - (1 - b - w)).toNat + 2 ≤ 2 * b + 1 := by omega
            have := Nat.mul_le_mul_right (2 ^ w) hx
            rw [Nat.add_mul (T - (1 - b - w)).toNat] at this
            rw [hq2, Nat.pow_succ]
            omega
  · rw [if_neg c] at hq
    rw [if_neg c, if_neg c, if_neg c]
    have hbm : bl m ≤ w + 1 := by omega
    by_cases d1 : 1 - (b : Int) ≤ bl m + e - 1
    · have hT : T = e + bl m - (w + 1) := by omega
      obtain ⟨n1, n2⟩ := norm_hi hm hbm
      have e3 : (e - T).toNat = w + 1 - bl m := by omega
      rw [e3]
      by_cases d : (b : Int) < bl m + e - 1
      · rw [if_pos d, min_r]
        have hx : 2 * b + 1 ≤ (T - (1 - b - w)).toNat + 1 := by omega
        have := Nat.mul_le_mul_right (2 ^ w) hx
        rw [Nat.add_mul (T - (1 - b - w)).toNat] at this
        omega
      · rw [if_neg d, epk_n d1 (by omega), min_l]
        · have e2 : ((bl m : Int) + e - 1 + b - 1).toNat = (T - (1 - b - w)).toNat := by omega
          rw [e2]
        · have hx : (T - (1 - b - w)).toNat + 2 ≤ 2 * b + 1 := by omega
          have := Nat.mul_le_mul_right (2 ^ w) hx
          rw [Nat.add_mul (T - (1 - b - w)).toNat] at this
          rw [Nat.pow_succ] at n2
          omega
    · have hT : T = 1 - b - w := by omega
      rw [if_neg (by omega), epk_s d1, hT]
      have e1 : ((1 - b - w : Int) - (1 - b - w)).toNat = 0 := by omega
      rw [e1, Nat.zero_mul, Nat.zero_add, min_l]
      have hz : m * 2 ^ (e - (1 - b - w)).toNat < 2 ^ w := by
        calc m * 2 ^ (e - (1 - b - w)).toNat < 2 ^ bl m * 2 ^ (e - (1 - b - w)).toNat := Nat.mul_lt_mul_of_pos_right hlt (Nat.two_pow_pos _)
          _ ≤ 2 ^ w := by rw [← Nat.pow_add]; exact Nat.pow_le_pow_right (by omega) (by omega)
      have := Nat.mul_le_mul_right (2 ^ w) (show 1 ≤ 2 * b + 1 by omega)
      omega
theorem enc_zero {w b m : Nat} {e : Int} (s : Bool) (hm : 0 < m) (hq : fq w b m e s = 0) : enc w b m e s = 0 := by
  obtain ⟨t1, t2, t3⟩ := encT_le (w := w) (b := b) (m := m) (e := e)
  have hge := bl_le hm
  unfold enc encQ
  unfold fq at hq
  generalize encT w b m e = T at *
  by_cases c : 0 < T - e
  · rw [if_pos c] at hq
    rw [if_pos c, hq]
    have hT : T = 1 - b - w := by
      rcases t3 with t3 | t3
      · exact t3
      · have := rs_lo (m := m) (k := (T - e).toNat) (j := w) s (by rw [show (T - e).toNat + w = bl m - 1 by have := bl_pos hm; omega]; exact hge)
        have := Nat.two_pow_pos w
        omega
    rw [hT, show ((1 - b - w : Int) - (1 - b - w)).toNat = 0 by omega]
    simp
  · rw [if_neg c] at hq
    omega
