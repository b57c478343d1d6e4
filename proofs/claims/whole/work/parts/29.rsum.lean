/-! The reference's sums. -/
theorem bits_mono {D1 D2 : Nat} (h : D1 ≤ D2) : uV (vM 52 (D1 / 2 ^ 52) (D1 % 2 ^ 52)) (vE 52 1023 (D1 / 2 ^ 52)) ≤ uV (vM 52 (D2 / 2 ^ 52) (D2 % 2 ^ 52)) (vE 52 1023 (D2 / 2 ^ 52)) := by
  have hc : D1 / 2 ^ 52 ≤ D2 / 2 ^ 52 := Nat.div_le_div_right h
  rcases Nat.lt_or_ge (max (D1 / 2 ^ 52) 1) (max (D2 / 2 ^ 52) 1) with g | g
  · -- a lesser exponent
    obtain ⟨j, hj⟩ : ∃ j : Nat, vE 52 1023 (D2 / 2 ^ 52) = vE 52 1023 (D1 / 2 ^ 52) + j ∧ 1 ≤ j := ⟨max (D2 / 2 ^ 52) 1 - max (D1 / 2 ^ 52) 1, by unfold vE; omega⟩
    have hE : -1074 ≤ vE 52 1023 (D1 / 2 ^ 52) := by unfold vE; omega
    rw [hj.1, uV_split (by omega), uV_le]
    have h1 := vM_lt (D := D1)
    have h2 : 2 ^ 52 ≤ vM 52 (D2 / 2 ^ 52) (D2 % 2 ^ 52) := by
      unfold vM
      rw [if_neg (by omega)]
      omega
    have h3 : (2 : Nat) ^ 1 ≤ 2 ^ j := Nat.pow_le_pow_right (by omega) hj.2
    have h4 := Nat.mul_le_mul h2 h3
    omega
  · have hE : vE 52 1023 (D1 / 2 ^ 52) = vE 52 1023 (D2 / 2 ^ 52) := by unfold vE; omega
    rw [hE, uV_le]
    unfold vM
    by_cases c1 : D1 / 2 ^ 52 = 0
    · rw [if_pos c1]
      by_cases c2 : D2 / 2 ^ 52 = 0
      · rw [if_pos c2]; omega
      · rw [if_neg c2]; omega
    · rw [if_neg c1, if_neg (by omega)]
      omega
/-- the lesser one, brought to the greater one's exponent -/
def lsN (M : Nat) (d : Int) : Nat := if d ≤ 0 then M * 2 ^ (-d).toNat else M / 2 ^ d.toNat
def lsS (M : Nat) (d : Int) : Bool := if d ≤ 0 then false else decide (M % 2 ^ d.toNat ≠ 0)
theorem rsum_add (w b : Nat) (hw : w ≤ 52) {P M : Nat} {e es : Int} (hP : 2 ^ 60 ≤ P) (he : -1200 ≤ e) (hes : -1200 ≤ es) : enc w b (P + lsN M (e - es)) e (lsS M (e - es)) = enc w b (uV P e + uV M es) (-1200) false := by
  unfold lsN lsS
  by_cases c : e - es ≤ 0
  · rw [if_pos c, if_pos c]
    have h1 : uV M es = uV (M * 2 ^ (-(e - es)).toNat) e := by
      have := uV_split (m := M) (e := e) (j := (-(e - es)).toNat) he
      rw [← this]
      exact congrArg (uV M) (by omega)
    rw [h1, ← uV_add, enc_u w b (by omega) he]
  · rw [if_neg c, if_neg c]
    obtain ⟨d, hd⟩ : ∃ d : Nat, e - es = d := ⟨(e - es).toNat, by omega⟩
    rw [hd, Int.toNat_natCast]
    have h1 : uV P e = uV (P * 2 ^ d) es := by
      have := uV_split (m := P) (e := es) (j := d) hes
      rw [← this]
      exact congrArg (uV P) (by omega)
    have hdp := Nat.two_pow_pos d
    have q1 : (P * 2 ^ d + M) / 2 ^ d = P + M / 2 ^ d := by rw [Nat.add_comm, Nat.add_mul_div_right _ _ hdp, Nat.add_comm]
    have q2 : (P * 2 ^ d + M) % 2 ^ d = M % 2 ^ d := by rw [Nat.add_comm, Nat.add_mul_mod_self_right]
    have hge : 2 ^ 60 ≤ P + M / 2 ^ d := Nat.le_trans hP (Nat.le_add_right _ _)
    have hbl := bl_ge_of hge
    have hpos : 0 < P * 2 ^ d + M := Nat.lt_of_lt_of_le (Nat.mul_pos (by omega) hdp) (Nat.le_add_right _ _)
    rw [h1, ← uV_add, enc_u w b hpos hes, ← enc_ts w b (N := P * 2 ^ d + M) (d := d) (E := es) (by rw [q1]; exact Nat.lt_of_lt_of_le (by omega) hge) (Or.inr (by rw [q1]; omega)), q1, q2]
    exact congrArg (fun z => enc w b (P + M / 2 ^ d) z (decide (M % 2 ^ d ≠ 0))) (by omega)
theorem rsum_sub (w b : Nat) (hw : w ≤ 52) {P M : Nat} {e es : Int} (hP : 2 ^ 60 ≤ P) (hM : M < 2 ^ 53) (he : -1200 ≤ e) (hes : -1200 ≤ es) (hle : uV M es ≤ uV P e) :
    lsN M (e - es) + (if lsS M (e - es) = true then 1 else 0) ≤ P ∧ (P - lsN M (e - es) - (if lsS M (e - es) = true then 1 else 0) = 0 ↔ uV P e = uV M es) ∧
    (¬ uV P e = uV M es → enc w b (P - lsN M (e - es) - (if lsS M (e - es) = true then 1 else 0)) e (lsS M (e - es)) = enc w b (uV P e - uV M es) (-1200) false) := by
  unfold lsN lsS
  by_cases c : e - es ≤ 0
  · rw [if_pos c, if_pos c]
    have h1 : uV M es = uV (M * 2 ^ (-(e - es)).toNat) e := by
      have := uV_split (m := M) (e := e) (j := (-(e - es)).toNat) he
      rw [← this]
      exact congrArg (uV M) (by omega)
    rw [h1] at hle ⊢
    rw [uV_le] at hle
    rw [if_neg (by decide), Nat.add_zero, Nat.sub_zero]
    generalize M * 2 ^ (-(e - es)).toNat = m at *
    refine ⟨hle, ⟨fun q => ?_, fun q => ?_⟩, fun q => ?_⟩
    · rw [show m = P by omega]
    · have a1 := uV_le (a := P) (c := m) (e := e)
      have := a1.mp (by omega)
      omega
    · have hne : ¬ P = m := fun z => q (by rw [z])
      rw [← uV_sub, enc_u w b (by omega) he]
  · rw [if_neg c, if_neg c]
    obtain ⟨d, hd⟩ : ∃ d : Nat, e - es = d := ⟨(e - es).toNat, by omega⟩
    have hd1 : 1 ≤ d := by omega
    rw [hd, Int.toNat_natCast]
    have h1 : uV P e = uV (P * 2 ^ d) es := by
      have := uV_split (m := P) (e := es) (j := d) hes
      rw [← this]
      exact congrArg (uV P) (by omega)
    have hdp := Nat.two_pow_pos d
    have hq52 : M / 2 ^ d ≤ 2 ^ 52 := by
      have h3 : (2 : Nat) ^ 1 ≤ 2 ^ d := Nat.pow_le_pow_right (by omega) hd1
      have h4 : M / 2 ^ d ≤ M / 2 ^ 1 := Nat.div_le_div_left h3 (by omega)
      omega
    have hPd : P ≤ P * 2 ^ d := by
      have := Nat.mul_le_mul_left P (show 1 ≤ 2 ^ d from hdp)
      omega
    have hMP : M < P * 2 ^ d := by omega
    have hne : ¬ uV P e = uV M es := by
      rw [h1]
      intro q
      have := uV_lt (a := M) (c := P * 2 ^ d) (e := es)
      have := this.mpr hMP
      omega
    have hdm := Nat.div_add_mod' M (2 ^ d)
    have hml := Nat.mod_lt M hdp
    have hN : uV P e - uV M es = uV (P * 2 ^ d - M) es := by rw [uV_sub, h1]
    rw [hN, enc_u w b (by omega) hes]
    by_cases s : M % 2 ^ d = 0
    · have ds : decide (M % 2 ^ d ≠ 0) = false := decide_eq_false (fun q => q s)
      rw [ds, if_neg (by decide), Nat.add_zero, Nat.sub_zero]
      generalize M / 2 ^ d = q at *
      refine ⟨by omega, ⟨fun z => by omega, fun z => absurd z hne⟩, fun _ => ?_⟩
      have h5 : P * 2 ^ d - M = (P - q) * 2 ^ d := by rw [Nat.sub_mul]; omega
      have := enc_shl w b (m := P - q) (e := e) d (by omega)
      rw [← this, h5]
      exact congrArg (fun z => enc w b ((P - q) * 2 ^ d) z false) (by omega)
    · have ds : decide (M % 2 ^ d ≠ 0) = true := decide_eq_true s
      rw [ds, if_pos rfl]
      have e3 : P * 2 ^ d - M = (2 ^ d - M % 2 ^ d) + (P - M / 2 ^ d - 1) * 2 ^ d := by
        rw [Nat.sub_mul, Nat.sub_mul, Nat.one_mul]
        have h6 : M / 2 ^ d * 2 ^ d + 2 ^ d ≤ P * 2 ^ d := by
          have := Nat.mul_le_mul_right (2 ^ d) (show M / 2 ^ d + 1 ≤ P by generalize M / 2 ^ d = q at *; omega)
          rw [Nat.add_mul, Nat.one_mul] at this
          exact this
        omega
      have e4 : (P * 2 ^ d - M) / 2 ^ d = P - M / 2 ^ d - 1 := by rw [e3, Nat.add_mul_div_right _ _ hdp, Nat.div_eq_of_lt (by omega), Nat.zero_add]
      have e5 : (P * 2 ^ d - M) % 2 ^ d = 2 ^ d - M % 2 ^ d := by rw [e3, Nat.add_mul_mod_self_right, Nat.mod_eq_of_lt (by omega)]
      have hge : 2 ^ 59 ≤ P - M / 2 ^ d - 1 := by generalize M / 2 ^ d = q at *; omega
      have hbl := bl_ge_of hge
      refine ⟨by generalize M / 2 ^ d = q at *; omega, ⟨fun z => by generalize M / 2 ^ d = q at *; omega, fun z => absurd z hne⟩, fun _ => ?_⟩
      rw [← enc_ts w b (N := P * 2 ^ d - M) (d := d) (E := es) (by rw [e4]; omega) (Or.inr (by rw [e4]; omega)), e4, e5]
      have ds2 : decide (2 ^ d - M % 2 ^ d ≠ 0) = true := decide_eq_true (by omega)
      rw [ds2]
      exact congrArg (fun z => enc w b (P - M / 2 ^ d - 1) z true) (by omega)
