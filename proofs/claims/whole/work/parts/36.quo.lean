/-! Quotients. -/
/-- the bits of the quotient of two numbers -/
def quoE (w b u1 u2 : Nat) : Nat := enc w b (u1 * 2 ^ 5000 / u2) (-5000) (decide (u1 * 2 ^ 5000 % u2 ≠ 0))
theorem qstep {A c i : Nat} (hc : 0 < c) : A * 2 ^ i / c = A / c * 2 ^ i + A % c * 2 ^ i / c ∧ A * 2 ^ i % c = A % c * 2 ^ i % c := by
  have e : A * 2 ^ i = A % c * 2 ^ i + A / c * 2 ^ i * c := by
    have := Nat.div_add_mod' A c
    have h2 : (A / c * c + A % c) * 2 ^ i = A * 2 ^ i := by rw [this]
    rw [Nat.add_mul] at h2
    rw [← h2, Nat.mul_right_comm, Nat.add_comm]
  constructor
  · rw [e, Nat.add_mul_div_right _ _ hc, Nat.add_comm]
  · rw [e, Nat.add_mul_mod_self_right]
theorem quo_rep (w b : Nat) {a c k j al be : Nat} (ha : 0 < a) (hc : 0 < c) (hj : al + 5000 = k + j + be) {E : Int} (hE : E = -5000 + j) (hbl : w + 2 ≤ bl (a * 2 ^ k / c)) :
    enc w b (a * 2 ^ k / c) E (decide (a * 2 ^ k % c ≠ 0)) = quoE w b (a * 2 ^ al) (c * 2 ^ be) := by
  unfold quoE
  have hbe := Nat.two_pow_pos be
  have hjp := Nat.two_pow_pos j
  have e1 : a * 2 ^ al * 2 ^ 5000 = a * 2 ^ k * 2 ^ j * 2 ^ be := by
    rw [Nat.mul_assoc, ← Nat.pow_add, Nat.mul_assoc, Nat.mul_assoc, ← Nat.pow_add, ← Nat.pow_add]
    exact congrArg (fun z => a * 2 ^ z) (by omega)
  have e2 : a * 2 ^ al * 2 ^ 5000 / (c * 2 ^ be) = a * 2 ^ k * 2 ^ j / c := by
    rw [e1, Nat.mul_div_mul_right _ _ hbe]
  have e3 : a * 2 ^ al * 2 ^ 5000 % (c * 2 ^ be) = a * 2 ^ k * 2 ^ j % c * 2 ^ be := by
    rw [e1, Nat.mul_mod_mul_right]
  have e4 : decide (a * 2 ^ al * 2 ^ 5000 % (c * 2 ^ be) ≠ 0) = decide (a * 2 ^ k * 2 ^ j % c ≠ 0) := by
    rw [e3, decide_eq_decide]
    constructor
    · intro q z; exact q (by rw [z, Nat.zero_mul])
    · intro q z
      rcases Nat.mul_eq_zero.mp z with z | z
      · exact q z
      · omega
  rw [e2, e4]
  generalize a * 2 ^ k = A at *
  have hd : A * 2 ^ j / c / 2 ^ j = A / c := by rw [Nat.div_div_eq_div_mul, Nat.mul_div_mul_right _ _ hjp]
  have hpos : 0 < A / c := by
    refine Nat.pos_of_ne_zero (fun z => ?_)
    rw [z, show bl 0 = 0 from rfl] at hbl
    omega
  have hbl2 : bl (A * 2 ^ j / c) = bl (A / c) + j := by
    have p := bl_pos hpos
    have a1 := bl_lt (A / c)
    have c2 := bl_le hpos
    have e5 : bl (A * 2 ^ j / c) = (bl (A / c) - 1 + j) + 1 := by
      apply bl_of
      · rw [Nat.pow_add, ← Nat.le_div_iff_mul_le hjp, hd]
        exact c2
      · rw [show bl (A / c) - 1 + j + 1 = bl (A / c) + j by omega, Nat.pow_add, ← Nat.div_lt_iff_lt_mul hjp, hd]
        exact a1
    omega
  have ht : (-5000 : Int) + j < encT w b (A * 2 ^ j / c) (-5000) := by
    have := (encT_le (w := w) (b := b) (m := A * 2 ^ j / c) (e := -5000)).2.1
    omega
  rw [enc_trunc w b (m := A * 2 ^ j / c) (e := -5000) (j := j) _ (by rw [hd]; exact hpos) ht, hd, ← hE]
  refine congrArg (fun z => enc w b (A / c) E z) ?_
  have key : (A % c ≠ 0) ↔ (A * 2 ^ j % c ≠ 0 ∨ A * 2 ^ j / c % 2 ^ j ≠ 0) := by
    have hs := qstep (A := A) (c := c) (i := j) hc
    constructor
    · intro q
      refine Decidable.byContradiction (fun z => ?_)
      have z1 : A * 2 ^ j % c = 0 := Decidable.byContradiction (fun y => z (Or.inl y))
      have z2 : A * 2 ^ j / c % 2 ^ j = 0 := Decidable.byContradiction (fun y => z (Or.inr y))
      have h1 := Nat.div_add_mod' (A * 2 ^ j) c
      have h2 := Nat.div_add_mod' (A * 2 ^ j / c) (2 ^ j)
      rw [z1, Nat.add_zero] at h1
      rw [z2, Nat.add_zero, hd] at h2
      rw [← h2, Nat.mul_right_comm] at h1
      have h3 := Nat.eq_of_mul_eq_mul_right hjp h1
      have h4 := Nat.div_add_mod' A c
      omega
    · rintro q z
      have h5 : A * 2 ^ j % c = 0 := by rw [hs.2, z, Nat.zero_mul, Nat.zero_mod]
      have h6 : A * 2 ^ j / c % 2 ^ j = 0 := by rw [hs.1, z, Nat.zero_mul, Nat.zero_div, Nat.add_zero, Nat.mul_mod_left]
      rcases q with q | q
      · exact q h5
      · exact q h6
  by_cases d : A % c = 0
  · have h7 : ¬ (A * 2 ^ j % c ≠ 0 ∨ A * 2 ^ j / c % 2 ^ j ≠ 0) := fun q => (key.mpr q) d
    have h8 : A * 2 ^ j % c = 0 := Decidable.byContradiction (fun y => h7 (Or.inl y))
    have h9 : A * 2 ^ j / c % 2 ^ j = 0 := Decidable.byContradiction (fun y => h7 (Or.inr y))
    rw [decide_eq_false (fun q => q d), h8, h9]
    rfl
  · rw [decide_eq_true d]
    rcases key.mp d with q | q
    · rw [decide_eq_true q]; rfl
    · rw [decide_eq_true q, Bool.or_true]
/-- the class's quotient of two significands -/
theorem cquo (w b : Nat) (hw : w ≤ 52) {X Y : Nat} {E1 E2 : Int} (hX1 : 2 ^ 62 ≤ X) (hX2 : X < 2 ^ 63) (hX : X % 2 ^ 10 = 0) (hY1 : 2 ^ 62 ≤ Y) (hY2 : Y < 2 ^ 63) (hY : Y % 2 ^ 10 = 0) (h1 : -1200 ≤ E1 ∧ E1 ≤ 2000) (h2 : -1200 ≤ E2 ∧ E2 ≤ 2000) :
    enc w b (jam (X / 2 ^ 10 * 2 ^ 60 / (Y / 2 ^ 10)) (decide (X / 2 ^ 10 * 2 ^ 60 % (Y / 2 ^ 10) ≠ 0))) (E1 - E2 - 60) false = quoE w b (uV X E1) (uV Y E2) ∧ 0 < jam (X / 2 ^ 10 * 2 ^ 60 / (Y / 2 ^ 10)) (decide (X / 2 ^ 10 * 2 ^ 60 % (Y / 2 ^ 10) ≠ 0)) ∧ jam (X / 2 ^ 10 * 2 ^ 60 / (Y / 2 ^ 10)) (decide (X / 2 ^ 10 * 2 ^ 60 % (Y / 2 ^ 10) ≠ 0)) < 2 ^ 63 := by
  have hu1 : uV X E1 = X / 2 ^ 10 * 2 ^ (10 + (E1 + 1200).toNat) := by
    unfold uV
    rw [Nat.pow_add, ← Nat.mul_assoc, show X / 2 ^ 10 * 2 ^ 10 = X by omega]
  have hu2 : uV Y E2 = Y / 2 ^ 10 * 2 ^ (10 + (E2 + 1200).toNat) := by
    unfold uV
    rw [Nat.pow_add, ← Nat.mul_assoc, show Y / 2 ^ 10 * 2 ^ 10 = Y by omega]
  rw [hu1, hu2]
  have a1 : 2 ^ 52 ≤ X / 2 ^ 10 := by omega
  have a2 : X / 2 ^ 10 < 2 ^ 53 := by omega
  have a3 : 2 ^ 52 ≤ Y / 2 ^ 10 := by omega
  have a4 : Y / 2 ^ 10 < 2 ^ 53 := by omega
  generalize X / 2 ^ 10 = p at *
  generalize Y / 2 ^ 10 = q at *
  have hlo : 2 ^ 59 ≤ p * 2 ^ 60 / q := by
    rw [Nat.le_div_iff_mul_le (by omega)]
    omega
  have hhi : p * 2 ^ 60 / q < 2 ^ 62 := by
    rw [Nat.div_lt_iff_lt_mul (by omega)]
    omega
  have hbl := bl_ge_of hlo
  have key := quo_rep w b (a := p) (c := q) (k := 60) (j := (5000 + (10 + (E1 + 1200).toNat) - (10 + (E2 + 1200).toNat) - 60)) (al := 10 + (E1 + 1200).toNat) (be := 10 + (E2 + 1200).toNat) (by omega) (by omega) (by omega) (E := E1 - E2 - 60) (by omega) (by omega)
  rw [← key]
  generalize p * 2 ^ 60 / q = N at *
  generalize decide (p * 2 ^ 60 % q ≠ 0) = s at *
  unfold jam
  cases s with
  | true =>
    rw [if_pos rfl]
    exact ⟨enc_jam w b (by omega), Nat.lt_of_lt_of_le (by omega) Nat.left_le_or, Nat.or_lt_two_pow (by omega) (by omega)⟩
  | false =>
    rw [if_neg (by decide)]
    exact ⟨rfl, by omega, by omega⟩
