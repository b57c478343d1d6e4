/-! Exact numbers, cut in two ways: the same bits. -/
/-- a number in units of 2 to the -1200 -/
def uV (m : Nat) (e : Int) : Nat := m * 2 ^ (e + 1200).toNat
theorem uV_pos {m : Nat} {e : Int} (h : 0 < m) : 0 < uV m e := Nat.mul_pos h (Nat.two_pow_pos _)
theorem uV_shl {m : Nat} {e : Int} {j : Nat} (h : -1200 ≤ e - j) : uV (m * 2 ^ j) (e - j) = uV m e := by
  unfold uV
  rw [Nat.mul_assoc, ← Nat.pow_add]
  exact congrArg (fun z => m * 2 ^ z) (by omega)
theorem uV_split {m : Nat} {e : Int} {j : Nat} (h : -1200 ≤ e) : uV m (e + j) = uV (m * 2 ^ j) e := by
  have := uV_shl (m := m) (e := e + j) (j := j) (by omega)
  rw [← this]
  exact congrArg (uV (m * 2 ^ j)) (by omega)
theorem uV_add {a c : Nat} {e : Int} : uV (a + c) e = uV a e + uV c e := Nat.add_mul _ _ _
theorem uV_sub {a c : Nat} {e : Int} : uV (a - c) e = uV a e - uV c e := Nat.sub_mul _ _ _
theorem uV_le {a c : Nat} {e : Int} : uV a e ≤ uV c e ↔ a ≤ c := by
  unfold uV
  exact Nat.mul_le_mul_right_iff (Nat.two_pow_pos _)
theorem uV_lt {a c : Nat} {e : Int} : uV a e < uV c e ↔ a < c := by
  unfold uV
  exact Nat.mul_lt_mul_right (Nat.two_pow_pos _)
theorem enc_u (w b : Nat) {m : Nat} {e : Int} (hm : 0 < m) (he : -1200 ≤ e) : enc w b (uV m e) (-1200) false = enc w b m e false := by
  have := enc_shl w b (m := m) (e := e) (e + 1200).toNat hm
  rw [← this]
  unfold uV
  exact congrArg (fun z => enc w b (m * 2 ^ (e + 1200).toNat) z false) (by omega)
theorem enc_ts (w b : Nat) {N d : Nat} {E : Int} (hN : 0 < N / 2 ^ d) (h : N % 2 ^ d = 0 ∨ w + 2 ≤ bl (N / 2 ^ d)) : enc w b (N / 2 ^ d) (E + d) (decide (N % 2 ^ d ≠ 0)) = enc w b N E false := by
  by_cases c : N % 2 ^ d = 0
  · have e1 : N = N / 2 ^ d * 2 ^ d := by
      have := Nat.div_add_mod' N (2 ^ d)
      omega
    have e2 : decide (N % 2 ^ d ≠ 0) = false := decide_eq_false (fun q => q c)
    rw [e2]
    have := enc_shl w b (m := N / 2 ^ d) (e := E + d) d hN
    rw [← this, ← e1]
    exact congrArg (fun z => enc w b N z false) (by omega)
  · have hb := h.resolve_left c
    have hbl : bl N = bl (N / 2 ^ d) + d := by
      have p := bl_pos hN
      have a := bl_lt (N / 2 ^ d)
      have c2 := bl_le hN
      have e1 : bl N = (bl (N / 2 ^ d) - 1 + d) + 1 := by
        apply bl_of
        · rw [Nat.pow_add, ← Nat.le_div_iff_mul_le (Nat.two_pow_pos d)]
          exact c2
        · rw [show bl (N / 2 ^ d) - 1 + d + 1 = bl (N / 2 ^ d) + d by omega, Nat.pow_add, ← Nat.div_lt_iff_lt_mul (Nat.two_pow_pos d)]
          exact a
      omega
    have ht : E + d < encT w b N E := by
      have := (encT_le (w := w) (b := b) (m := N) (e := E)).2.1
      omega
    have := enc_trunc w b (m := N) (e := E) (j := d) false hN ht
    rw [this, Bool.false_or]
theorem bl_or1 {q : Nat} (h : 0 < q) : bl (q ||| 1) = bl q := by
  have a := bl_lt q
  have b := bl_le h
  have p := bl_pos h
  have e1 : bl (q ||| 1) = (bl q - 1) + 1 := by
    apply bl_of
    · exact Nat.le_trans b Nat.left_le_or
    · rw [show bl q - 1 + 1 = bl q by omega]
      exact Nat.or_lt_two_pow a (Nat.one_lt_two_pow (by omega))
  omega
theorem enc_jam (w b : Nat) {q : Nat} {e : Int} (h : w + 3 ≤ bl q) : enc w b (q ||| 1) e false = enc w b q e true := by
  have h0 : 0 < q := Nat.pos_of_ne_zero (fun z => by subst z; rw [show bl 0 = 0 from rfl] at h; omega)
  have hT : encT w b (q ||| 1) e = encT w b q e := by unfold encT; rw [bl_or1 h0]
  have ht := (encT_le (w := w) (b := b) (m := q) (e := e)).2.1
  unfold enc encQ
  rw [hT, if_pos (by omega), if_pos (by omega), rs_jam q (by omega)]
def jam (q : Nat) (st : Bool) : Nat := if st = true then q ||| 1 else q
theorem enc_js (w b : Nat) {N d : Nat} {E : Int} (hN : 0 < N / 2 ^ d) (h : N % 2 ^ d = 0 ∨ w + 3 ≤ bl (N / 2 ^ d)) : enc w b (jam (N / 2 ^ d) (decide (N % 2 ^ d ≠ 0))) (E + d) false = enc w b N E false := by
  rw [← enc_ts w b (E := E) hN (h.imp id (fun q => by omega))]
  unfold jam
  by_cases c : N % 2 ^ d = 0
  · rw [if_neg (by simp [c])]
    simp [c]
  · have e2 : decide (N % 2 ^ d ≠ 0) = true := decide_eq_true c
    rw [if_pos e2, e2]
    exact enc_jam w b (h.resolve_left c)
theorem or1_even {q : Nat} (h : q % 2 = 0) : q ||| 1 = q + 1 := by
  have := lor_add (a := q / 2) (b := 1) (k := 1) (by omega)
  rw [Nat.pow_one, show q / 2 * 2 = q by omega] at this
  exact this
theorem or1_odd {q : Nat} (h : q % 2 = 1) : q ||| 1 = q := by
  obtain ⟨r, rfl⟩ : ∃ r, q = r * 2 ^ 1 + 1 := ⟨q / 2, by rw [Nat.pow_one]; omega⟩
  have := lor_add (a := r) (b := 1) (k := 1) (by omega)
  rw [← this, Nat.or_assoc]
  congr 1
/-- the class's cut of the lesser one -/
def trc (B d : Nat) : Nat := if d = 0 then B else if d ≤ 62 then B / 2 ^ d ||| (if B % 2 ^ d = 0 then 0 else 1) else 1
theorem trc_jam {B d : Nat} (h0 : 0 < B) (hB : B < 2 ^ 62) : trc B d = jam (B / 2 ^ d) (decide (B % 2 ^ d ≠ 0)) := by
  unfold trc jam
  by_cases c : d = 0
  · subst c
    rw [if_pos rfl, Nat.pow_zero, Nat.div_one, Nat.mod_one]
    simp
  · rw [if_neg c]
    by_cases c2 : d ≤ 62
    · rw [if_pos c2]
      by_cases c3 : B % 2 ^ d = 0
      · rw [if_pos c3, if_neg (by simp [c3]), Nat.or_zero]
      · rw [if_neg c3, if_pos (by simp [c3])]
    · rw [if_neg c2]
      have : (2 : Nat) ^ 62 ≤ 2 ^ d := Nat.pow_le_pow_right (by omega) (by omega)
      rw [Nat.div_eq_of_lt (by omega), Nat.mod_eq_of_lt (by omega), if_pos (by simp; omega)]
      rfl
theorem jam_add {a q : Nat} (h : a % 2 = 0) (st : Bool) : a + jam q st = jam (a + q) st := by
  unfold jam
  by_cases c : st = true
  · rw [if_pos c, if_pos c]
    rcases Nat.mod_two_eq_zero_or_one q with g | g
    · rw [or1_even g, or1_even (by omega)]; omega
    · rw [or1_odd g, or1_odd (by omega)]
  · rw [if_neg c, if_neg c]
theorem jam_sub {a q : Nat} (h : a % 2 = 0) (hq : q + 1 ≤ a) : a - (q ||| 1) = (a - q - 1) ||| 1 := by
  rcases Nat.mod_two_eq_zero_or_one q with g | g
  · rw [or1_even g, or1_odd (by omega)]; omega
  · rw [or1_odd g, or1_even (by omega)]; omega
/-- the class's sum of two of one sign -/
theorem csum_add (w b : Nat) (hw : w ≤ 52) {X Y : Nat} {ey : Int} {d : Nat} (hX1 : 2 ^ 62 ≤ X) (hX : X % 2 ^ 10 = 0) (hY1 : 2 ^ 62 ≤ Y) (hY2 : Y < 2 ^ 63) (hY : Y % 2 ^ 10 = 0) (he : -1200 ≤ ey) :
    enc w b (X / 2 + trc (Y / 2) d) (ey + d + 1) false = enc w b (uV X (ey + d) + uV Y ey) (-1200) false := by
  have hN : uV X (ey + d) + uV Y ey = uV (X / 2 * 2 ^ d + Y / 2) (ey + 1) := by
    rw [uV_add]
    have e1 : uV X (ey + d) = uV (X / 2 * 2 ^ d) (ey + 1) := by
      have h1 := uV_split (m := X / 2) (e := ey + d) (j := 1) (by omega)
      have h2 := uV_split (m := X / 2) (e := ey + 1) (j := d) (by omega)
      rw [Nat.pow_one, show X / 2 * 2 = X by omega] at h1
      rw [← h1, ← h2]
      exact congrArg (uV (X / 2)) (by omega)
    have e2 : uV Y ey = uV (Y / 2) (ey + 1) := by
      have h1 := uV_split (m := Y / 2) (e := ey) (j := 1) he
      rw [Nat.pow_one, show Y / 2 * 2 = Y by omega] at h1
      exact h1.symm
    rw [e1, e2]
  have hd := Nat.two_pow_pos d
  have q1 : (X / 2 * 2 ^ d + Y / 2) / 2 ^ d = X / 2 + Y / 2 / 2 ^ d := by
    rw [Nat.add_comm, Nat.add_mul_div_right _ _ hd, Nat.add_comm]
  have q2 : (X / 2 * 2 ^ d + Y / 2) % 2 ^ d = Y / 2 % 2 ^ d := by
    rw [Nat.add_comm, Nat.add_mul_mod_self_right]
  have hge : 2 ^ 61 ≤ X / 2 + Y / 2 / 2 ^ d := Nat.le_trans (by omega) (Nat.le_add_right _ _)
  have hbl := bl_ge_of hge
  rw [hN, enc_u w b (by omega) (by omega), trc_jam (by omega) (by omega), jam_add (by omega), ← q1, ← q2]
  rw [← enc_js w b (N := X / 2 * 2 ^ d + Y / 2) (d := d) (E := ey + 1) (by rw [q1]; exact Nat.lt_of_lt_of_le (by omega) hge) (Or.inr (by rw [q1]; omega))]
  exact congrArg (fun z => enc w b _ z false) (by omega)
/-- the class's difference -/
theorem csum_sub (w b : Nat) (hw : w ≤ 52) {X Y : Nat} {ey : Int} {d : Nat} (hX1 : 2 ^ 62 ≤ X) (hX : X % 2 ^ 10 = 0) (hY1 : 2 ^ 62 ≤ Y) (hY2 : Y < 2 ^ 63) (hY : Y % 2 ^ 10 = 0) (he : -1200 ≤ ey) (hd1 : 1 ≤ d ∨ Y < X) :
    trc (Y / 2) d < X / 2 ∧ enc w b (X / 2 - trc (Y / 2) d) (ey + d + 1) false = enc w b (uV X (ey + d) - uV Y ey) (-1200) false ∧ uV Y ey < uV X (ey + d) := by
  have hd := Nat.two_pow_pos d
  have e1 : uV X (ey + d) = uV (X / 2 * 2 ^ d) (ey + 1) := by
    have h1 := uV_split (m := X / 2) (e := ey + d) (j := 1) (by omega)
    have h2 := uV_split (m := X / 2) (e := ey + 1) (j := d) (by omega)
    rw [Nat.pow_one, show X / 2 * 2 = X by omega] at h1
    rw [← h1, ← h2]
    exact congrArg (uV (X / 2)) (by omega)
  have e2 : uV Y ey = uV (Y / 2) (ey + 1) := by
    have h1 := uV_split (m := Y / 2) (e := ey) (j := 1) he
    rw [Nat.pow_one, show Y / 2 * 2 = Y by omega] at h1
    exact h1.symm
  have hlt : Y / 2 < X / 2 * 2 ^ d := by
    rcases hd1 with h | h
    · have : (2 : Nat) ^ 1 ≤ 2 ^ d := Nat.pow_le_pow_right (by omega) h
      have h2 := Nat.mul_le_mul_left (X / 2) this
      omega
    · have h2 := Nat.mul_le_mul_left (X / 2) (show 1 ≤ 2 ^ d from hd)
      omega
  have hv : uV Y ey < uV X (ey + d) := by rw [e1, e2, uV_lt]; exact hlt
  have hN : uV X (ey + d) - uV Y ey = uV (X / 2 * 2 ^ d - Y / 2) (ey + 1) := by rw [uV_sub, e1, e2]
  have hqlt : Y / 2 / 2 ^ d < X / 2 := by
    rw [Nat.div_lt_iff_lt_mul hd]; exact hlt
  have hdm := Nat.div_add_mod' (Y / 2) (2 ^ d)
  have hml := Nat.mod_lt (Y / 2) hd
  rw [trc_jam (by omega) (by omega), hN, enc_u w b (by omega) (by omega)]
  have st : ¬ Y / 2 % 2 ^ d = 0 → Y / 2 / 2 ^ d ≤ 2 ^ 52 := by
    intro c
    have hd10 : 10 ≤ d := by
      refine Nat.not_lt.mp (fun q => c ?_)
      have h1 : (2 : Nat) ^ d ∣ 2 ^ 9 := Nat.pow_dvd_pow 2 (by omega)
      have h2 : (2 : Nat) ^ 9 ∣ Y / 2 := Nat.dvd_of_mod_eq_zero (by omega)
      exact Nat.mod_eq_zero_of_dvd (Nat.dvd_trans h1 h2)
    have h3 : (2 : Nat) ^ 10 ≤ 2 ^ d := Nat.pow_le_pow_right (by omega) hd10
    have h4 : Y / 2 / 2 ^ d ≤ Y / 2 / 2 ^ 10 := Nat.div_le_div_left h3 (by omega)
    omega
  refine ⟨?_, ?_, hv⟩
  all_goals by_cases c : Y / 2 % 2 ^ d = 0
  · unfold jam
    rw [if_neg (by simp [c])]
    exact hqlt
  · have h5 := st c
    unfold jam
    rw [if_pos (by simp [c])]
    generalize Y / 2 / 2 ^ d = q at *
    rcases Nat.mod_two_eq_zero_or_one q with g | g
    · rw [or1_even g]; omega
    · rw [or1_odd g]; exact hqlt
  · unfold jam
    rw [if_neg (by simp [c])]
    have h3 : X / 2 * 2 ^ d - Y / 2 = (X / 2 - Y / 2 / 2 ^ d) * 2 ^ d := by rw [Nat.sub_mul]; omega
    rw [h3]
    have := enc_shl w b (m := X / 2 - Y / 2 / 2 ^ d) (e := ey + d + 1) d (by omega)
    rw [← this]
    exact congrArg (fun z => enc w b _ z false) (by omega)
  · have h5 := st c
    have hr : Y / 2 % 2 ^ d < 2 ^ d := hml
    have e3 : X / 2 * 2 ^ d - Y / 2 = (2 ^ d - Y / 2 % 2 ^ d) + (X / 2 - Y / 2 / 2 ^ d - 1) * 2 ^ d := by
      rw [Nat.sub_mul, Nat.sub_mul, Nat.one_mul]
      have h6 : Y / 2 / 2 ^ d * 2 ^ d + 2 ^ d ≤ X / 2 * 2 ^ d := by
        have := Nat.mul_le_mul_right (2 ^ d) (show Y / 2 / 2 ^ d + 1 ≤ X / 2 from hqlt)
        rw [Nat.add_mul, Nat.one_mul] at this
        exact this
      omega
    have e4 : (X / 2 * 2 ^ d - Y / 2) / 2 ^ d = X / 2 - Y / 2 / 2 ^ d - 1 := by
      rw [e3, Nat.add_mul_div_right _ _ hd, Nat.div_eq_of_lt (by omega), Nat.zero_add]
    have e5 : (X / 2 * 2 ^ d - Y / 2) % 2 ^ d = 2 ^ d - Y / 2 % 2 ^ d := by
      rw [e3, Nat.add_mul_mod_self_right, Nat.mod_eq_of_lt (by omega)]
    have e6 : X / 2 - jam (Y / 2 / 2 ^ d) (decide (Y / 2 % 2 ^ d ≠ 0)) = jam ((X / 2 * 2 ^ d - Y / 2) / 2 ^ d) (decide ((X / 2 * 2 ^ d - Y / 2) % 2 ^ d ≠ 0)) := by
      have c2 : ¬ (X / 2 * 2 ^ d - Y / 2) % 2 ^ d = 0 := by rw [e5]; omega
      unfold jam
      rw [if_pos (by simp [c]), if_pos (by simp [c2]), e4]
      exact jam_sub (by omega) (by omega)
    have hge : 2 ^ 60 ≤ X / 2 - Y / 2 / 2 ^ d - 1 := by
      generalize Y / 2 / 2 ^ d = q at *
      omega
    have hbl := bl_ge_of hge
    rw [e6, ← enc_js w b (N := X / 2 * 2 ^ d - Y / 2) (d := d) (E := ey + 1) (by rw [e4]; omega) (Or.inr (by rw [e4]; omega))]
    exact congrArg (fun z => enc w b _ z false) (by omega)
