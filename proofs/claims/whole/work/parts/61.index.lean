/-! index, copy, same. -/
def xf (a2 a3 a4 : Int32) (j : Nat) : Int32 := if j = 0 then a2 else if j = 1 then a3 else a4
def idxS (ex : Nat → Nat) (rk : Nat) (x : Nat → Int32) : Nat → Nat → Nat → Option Nat
  | 0, _, acc => some acc
  | k + 1, j, acc => if x j < 0 then none else if x j < nI (ex (rk - 1 - j)) then idxS ex rk x k (j + 1) (acc * ex (rk - 1 - j) + (x j).toNatClampNeg) else none
def idxO (o : Option Nat) : Int32 := match o with
  | none => -3
  | some v => nI v
theorem eff_ok {G : gG} {s a r : Nat} {e : Nat → Nat} (h : SH G s a r e) (hr : r ≤ 3) {j : Nat} (hj : j < r) : f_X3_extentFromFirst G s (nI j) = some (nI (e (r - 1 - j))) := by
  unfold f_X3_extentFromFirst
  rw [so_0 h.1, gb_some]
  simp only [gl]
  have e3 : nI r - 1 - nI j = nI (r - 1 - j) := by rw [show (1 : Int32) = nI 1 from rfl, pk_sub (by omega), pk_sub (by omega)]
  have c3 : ¬ (3 : Int32) ≤ nI (r - 1 - j) := fun z => by
    have := (nI_leI (a := 3) (by omega) (by omega)).mp z
    omega
  rw [if_neg (nI_pos (by omega)), e3, if_neg (nI_pos (by omega)), if_neg c3, so_1 h.1, gb_some, h.il (by omega), gb_some]
theorem idx_cs (e : Nat) (he : e ≤ 60) (x : Int32) : (x < 0 ∧ f_X6_in (Int32.toInt64 x) 0 (Int32.toInt64 (nI e - 1)) = 0) ∨ (¬ x < 0 ∧ ¬ x < nI e ∧ f_X6_in (Int32.toInt64 x) 0 (Int32.toInt64 (nI e - 1)) = 0) ∨ (∃ t, t < e ∧ x = nI t ∧ ¬ x < 0 ∧ x < nI e ∧ f_X6_in (Int32.toInt64 x) 0 (Int32.toInt64 (nI e - 1)) = 1) := by
  rcases in_N x (N := e) (by omega) with ⟨t, ht, rfl, q⟩ | ⟨hb, q⟩
  · exact Or.inr (Or.inr ⟨t, ht, rfl, nI_pos (by omega), (nI_ltI (by omega) (by omega)).mpr ht, q⟩)
  · by_cases c : x < 0
    · exact Or.inl ⟨c, q⟩
    · refine Or.inr (Or.inl ⟨c, ?_, q⟩)
      obtain ⟨t, ht, rfl⟩ := nI_of c
      have : e ≤ t := by
        rcases hb with z | z
        · exact absurd z c
        · exact (nI_leI (by omega) ht).mp z
      exact fun z => by
        have := (nI_ltI ht (by omega)).mp z
        omega
theorem na_loop {G : gG} {s a r : Nat} {e : Nat → Nat} (h : SH G s a r e) (hr : r ≤ 3) (he : ∀ j, j < 3 → e j ≤ 60) (a2 a3 a4 : Int32) : ∀ (k j fu acc : Nat), j + k = r → acc < 60 ^ j → f_X3_numberAt_6 (fu + k + 1) G s a2 a3 a4 (nI acc) (nI j) = some (idxO (idxS e r (xf a2 a3 a4) k j acc)) ∧ ∀ v, idxS e r (xf a2 a3 a4) k j acc = some v → v ≤ 60 ^ 3 := by
  intro k
  induction k with
  | zero =>
    intro j fu acc hk ha
    have c : nI r ≤ nI j := (nI_leI (by omega) (by omega)).mpr (by omega)
    refine ⟨?_, fun v hv => ?_⟩
    · rw [Nat.add_zero, f_X3_numberAt_6, so_0 h.1, gb_some, if_pos c]; rfl
    · have : acc = v := Option.some.inj hv
      have : (60 : Nat) ^ j ≤ 60 ^ 3 := Nat.pow_le_pow_right (by omega) (by omega)
      omega
  | succ k ih =>
    intro j fu acc hk ha
    have c : nI r ≤ nI j ↔ r ≤ j := nI_leI (by omega) (by omega)
    have hj : j < r := by omega
    have hE := he (r - 1 - j) (by omega)
    have c0 : nI j = 0 ↔ j = 0 := nI_eq (b := 0) (by omega) (by omega)
    have c1 : nI j = 1 ↔ j = 1 := nI_eq (b := 1) (by omega) (by omega)
    have st : f_X3_numberAt_6 (fu + (k + 1) + 1) G s a2 a3 a4 (nI acc) (nI j) = f_X3_numberAt_35 (f_X3_numberAt_6 (fu + k + 1)) G s a2 a3 a4 (nI acc) (nI j) (xf a2 a3 a4 j) := by
      rw [show fu + (k + 1) + 1 = (fu + k + 1) + 1 by omega, f_X3_numberAt_6, so_0 h.1, gb_some, ifn c (by omega)]
      unfold xf
      by_cases d0 : j = 0
      · rw [ifp c0 d0, if_pos d0]
      · rw [ifn c0 d0, if_neg d0]
        by_cases d1 : j = 1
        · rw [ifp c1 d1, if_pos d1]
        · rw [ifn c1 d1, if_neg d1]
    rw [st]
    unfold f_X3_numberAt_35
    simp only [gl]
    rw [gck_true (so_o h.1), eff_ok h hr hj, gb_some]
    show (if xf a2 a3 a4 j < 0 then _ else _) = some (idxO (if xf a2 a3 a4 j < 0 then none else if xf a2 a3 a4 j < nI (e (r - 1 - j)) then idxS e r (xf a2 a3 a4) k (j + 1) (acc * e (r - 1 - j) + (xf a2 a3 a4 j).toNatClampNeg) else none)) ∧ ∀ v, (if xf a2 a3 a4 j < 0 then none else if xf a2 a3 a4 j < nI (e (r - 1 - j)) then idxS e r (xf a2 a3 a4) k (j + 1) (acc * e (r - 1 - j) + (xf a2 a3 a4 j).toNatClampNeg) else none) = some v → _
    rcases idx_cs (e (r - 1 - j)) hE (xf a2 a3 a4 j) with ⟨n0, -⟩ | ⟨n0, n1, -⟩ | ⟨t, ht, hx, n0, n1, -⟩
    · rw [if_pos n0, if_pos n0]
      exact ⟨rfl, fun v hv => by cases hv⟩
    · rw [if_neg n0, if_neg n0, if_neg n1, if_neg n1]
      exact ⟨rfl, fun v hv => by cases hv⟩
    · rw [if_neg n0, if_neg n0, if_pos n1, if_pos n1, hx, pk_mul, nI_add, nI_clamp (by omega), nI_1]
      refine ih (j + 1) fu (acc * e (r - 1 - j) + t) (by omega) ?_
      have p1 : acc * e (r - 1 - j) + t < (acc + 1) * e (r - 1 - j) := by rw [Nat.add_mul, Nat.one_mul]; omega
      have p2 : (acc + 1) * e (r - 1 - j) ≤ 60 ^ j * 60 := Nat.mul_le_mul ha hE
      rw [Nat.pow_succ]
      omega
theorem ix_loop {G : gG} {m b : Nat} {A : AS} {asd : Nat → Int64} {spr : Nat → Int32} {sd ss f15 f16 : Int32} (h : MR G m A asd spr sd ss f15 f16) (w : WF A) {i : Nat} (hi : i < A.N) (a2 a3 a4 : Int32) : ∀ (k j fu acc : Nat), j + k = A.rk i → acc < 60 ^ j →
    f_X6_index_33 (fu + k + 1) G m (nI i) a2 a3 a4 (nI acc) (nI j) = match idxS (A.ex i) (A.rk i) (xf a2 a3 a4) k j acc with
      | none => gb2 (f_X6_fails G m 2 (-3)) fun r G' => some (r, G')
      | some v => some (nI v, G) := by
  have hr := w.rk3 i hi
  have h16 := w.n16
  intro k
  induction k with
  | zero =>
    intro j fu acc hk ha
    have c : nI (A.rk i) ≤ nI j := (nI_leI (by omega) (by omega)).mpr (by omega)
    rw [Nat.add_zero, f_X6_index_33, mo_2 h.o, gb_some, h.dim w hi, gb_some, if_pos c]
    rfl
  | succ k ih =>
    intro j fu acc hk ha
    have c : nI (A.rk i) ≤ nI j ↔ A.rk i ≤ j := nI_leI (by omega) (by omega)
    have hj : j < A.rk i := by omega
    have hE := w.e60 i hi (A.rk i - 1 - j) (by omega)
    have c0 : nI j = 0 ↔ j = 0 := nI_eq (b := 0) (by omega) (by omega)
    have c1 : nI j = 1 ↔ j = 1 := nI_eq (b := 1) (by omega) (by omega)
    have st : f_X6_index_33 (fu + (k + 1) + 1) G m (nI i) a2 a3 a4 (nI acc) (nI j) = f_X6_index_65 (f_X6_index_33 (fu + k + 1)) G m (nI i) a2 a3 a4 (nI acc) (nI j) (xf a2 a3 a4 j) := by
      rw [show fu + (k + 1) + 1 = (fu + k + 1) + 1 by omega, f_X6_index_33, mo_2 h.o, gb_some, h.dim w hi, gb_some, ifn c (by omega)]
      unfold xf
      by_cases d0 : j = 0
      · rw [ifp c0 d0, if_pos d0]
      · rw [ifn c0 d0, if_neg d0]
        by_cases d1 : j = 1
        · rw [ifp c1 d1, if_pos d1]
        · rw [ifn c1 d1, if_neg d1]
    have il : g_il G (m + 3) (((3 : Int32) * nI i) + nI j) = some (nI (A.ex i (A.rk i - 1 - j))) := by
      obtain ⟨L1, L2, L3, L4, L5, L6, q1, q2, q3, q4, q5, q6, q7⟩ := h.r
      have := q7.l3 i hi (A.rk i - 1 - j) (by omega)
      rw [show (3 : Int32) = nI 3 from rfl, pk_mul, nI_add, q3.il (by omega) (by omega), ← this]
      exact congrArg (fun z => some (L3 z)) (by omega)
    rw [st]
    unfold f_X6_index_65
    simp only [gl]
    rw [mo_3 h.o, gb_some, il, gb_some]
    have E : idxS (A.ex i) (A.rk i) (xf a2 a3 a4) (k + 1) j acc = (if xf a2 a3 a4 j < 0 then none else if xf a2 a3 a4 j < nI (A.ex i (A.rk i - 1 - j)) then idxS (A.ex i) (A.rk i) (xf a2 a3 a4) k (j + 1) (acc * A.ex i (A.rk i - 1 - j) + (xf a2 a3 a4 j).toNatClampNeg) else none) := rfl
    rcases idx_cs (A.ex i (A.rk i - 1 - j)) hE (xf a2 a3 a4 j) with ⟨n0, q⟩ | ⟨n0, n1, q⟩ | ⟨t, ht, hx, n0, n1, q⟩
    · rw [E, if_pos n0, q, if_pos rfl, gck_true (mo_o h.o)]
    · rw [E, if_neg n0, if_neg n1, q, if_pos rfl, gck_true (mo_o h.o)]
    · rw [E, if_neg n0, if_pos n1, q, if_neg (by decide), hx, pk_mul, nI_add, nI_clamp (by omega), nI_1]
      refine ih (j + 1) fu (acc * A.ex i (A.rk i - 1 - j) + t) (by omega) ?_
      have p1 : acc * A.ex i (A.rk i - 1 - j) + t < (acc + 1) * A.ex i (A.rk i - 1 - j) := by rw [Nat.add_mul, Nat.one_mul]; omega
      have p2 : (acc + 1) * A.ex i (A.rk i - 1 - j) ≤ 60 ^ j * 60 := Nat.mul_le_mul ha hE
      rw [Nat.pow_succ]
      omega
theorem call_index {G : gG} {b n : Nat} {A : AS} (h : REL G b n A) (a1 a2 a3 a4 : Int32) : C2 b n A (f_X5_index G b a1 a2 a3 a4) (fun G' => f_X6_index G' (b + 9) a1 a2 a3 a4) := by
  obtain ⟨w, hn, ⟨sr, se, row, c⟩, ⟨asd, spr, sd, ss, f15, f16, m⟩⟩ := h
  have mx : MX G (b + 9) A := ⟨_, _, _, _, _, _, m⟩
  rcases kn w c a1 with ⟨i, hi, rfl, k, t⟩ | ⟨k, t⟩
  · have T := c.c i hi
    have TS := c.tsh hi
    have hr := w.rk3 i hi
    obtain ⟨fu, hfu⟩ : ∃ fu : Nat, 5000 = fu + A.rk i + 1 := ⟨4999 - A.rk i, by omega⟩
    obtain ⟨na, nb⟩ := na_loop TS hr (w.e60 i hi) a2 a3 a4 (A.rk i) 0 fu 0 (by omega) (by omega)
    rw [← hfu, nI_0] at na
    have e1 : f_X5_index G b (nI i) a2 a3 a4 = if A.gone i = 0 then (if idxO (idxS (A.ex i) (A.rk i) (xf a2 a3 a4) (A.rk i) 0 0) = -3 then (gb2 (f_X5_failed G b 2 (-3)) fun r7 G8 => some (r7, G8)) else some (idxO (idxS (A.ex i) (A.rk i) (xf a2 a3 a4) (A.rk i) 0 0), G)) else gb2 (f_X5_failed G b 1 (-3)) fun r5 G6 => some (r5, G6) := by
      unfold f_X5_index
      rw [gck_true (cf_o c.o), k, gb_some]
      show (gb (g_fI G (b + 18 + 4 * i) 3 3) _) = _
      rw [to_3 T.o, gb_some, to_1 T.o, gb_some, gck_true (so_o T.s)]
      unfold f_X3_numberAt
      rw [na, gb_some, gck_true (cf_o c.o), gck_true (cf_o c.o)]
    have e2 : ∀ G', MR G' (b + 9) A asd spr sd ss f15 f16 → f_X6_index G' (b + 9) (nI i) a2 a3 a4 = if A.gone i = 0 then (match idxS (A.ex i) (A.rk i) (xf a2 a3 a4) (A.rk i) 0 0 with
        | none => gb2 (f_X6_fails G' (b + 9) 2 (-3)) fun r G'' => some (r, G'')
        | some v => some (nI v, G')) else gb2 (f_X6_fails G' (b + 9) 1 (-3)) fun r6 G7 => some (r6, G7) := by
      intro G' mm
      have il := ix_loop (b := b) mm w hi a2 a3 a4 (A.rk i) 0 fu 0 (by omega) (by omega)
      rw [← hfu, nI_0] at il
      unfold f_X6_index
      rw [gck_true (mo_o mm.o), t G' ⟨_, _, _, _, _, _, mm⟩, gb_some, if_neg (by decide), mo_5 mm.o, gb_some, mm.gone w hi, gb_some, il, gck_true (mo_o mm.o)]
    by_cases g : A.gone i = 0
    · cases hI : idxS (A.ex i) (A.rk i) (xf a2 a3 a4) (A.rk i) 0 0 with
      | none =>
        rw [hI] at e1
        refine fail2 w c m hn 2 (-3) (by rw [e1, if_pos g]; rfl) (fun G' mm => ?_)
        show f_X6_index _ (b + 9) (nI i) a2 a3 a4 = _
        rw [e2 _ mm, if_pos g, hI]
      | some v =>
        have hv := nb v hI
        have n3 : ¬ nI v = -3 := fun q => by
          have := congrArg Int32.toInt q
          rw [nI_toInt (by omega), show (-3 : Int32).toInt = -3 by decide] at this
          omega
        rw [hI] at e1
        refine same2 (r := nI v) w c m hn ?_ ?_
        · rw [e1, if_pos g]
          show (if nI v = -3 then _ else some (nI v, G)) = _
          rw [if_neg n3]
        · show f_X6_index _ (b + 9) (nI i) a2 a3 a4 = _
          rw [e2 _ m, if_pos g, hI]
    · refine fail2 w c m hn 1 (-3) (by rw [e1, if_neg g]) (fun G' mm => ?_)
      show f_X6_index _ (b + 9) (nI i) a2 a3 a4 = _
      rw [e2 _ mm, if_neg g]
  · refine same2 (r := -1) w c m hn ?_ ?_
    · unfold f_X5_index
      rw [gck_true (cf_o c.o), k, gb_some]; rfl
    · show f_X6_index _ (b + 9) a1 a2 a3 a4 = _
      unfold f_X6_index
      rw [gck_true (mo_o m.o), t G mx, gb_some, if_pos rfl]
/-! same -/
def smF (i1 i2 : Nat → Int64) : Nat → Nat → Int32
  | 0, _ => 1
  | k + 1, j => if i1 j = i2 j then smF i1 i2 k (j + 1) else 0
theorem smF_b (i1 i2 : Nat → Int64) : ∀ k j, smF i1 i2 k j = 0 ∨ smF i1 i2 k j = 1 := by
  intro k
  induction k with
  | zero => intro j; exact Or.inr rfl
  | succ k ih =>
    intro j
    show (if i1 j = i2 j then smF i1 i2 k (j + 1) else 0) = 0 ∨ (if i1 j = i2 j then smF i1 i2 k (j + 1) else 0) = 1
    split
    · exact ih (j + 1)
    · exact Or.inl rfl
theorem sm_class {G : gG} {p q : Nat} {l1 l2 : Int32} {r1 r2 : Nat} {e1 e2 : Nat → Nat} {g1 g2 : Int32} {i1 i2 : Nat → Int64} (T : TC G p l1 r1 e1 g1 i1) (U : TC G q l2 r2 e2 g2 i2) {Z : Nat} (hZ : sz3 e1 = Z) (hZ2 : sz3 e2 = Z) (h240 : Z ≤ 240) : ∀ (k j fu : Nat), j + k = Z → f_X4_isLike_29 (fu + k + 1) G p q (nI j) = some (smF i1 i2 k j) := by
  intro k
  induction k with
  | zero =>
    intro j fu hk
    have c : nI (sz3 e1) ≤ nI j := (nI_leI (by omega) (by omega)).mpr (by omega)
    rw [Nat.add_zero, f_X4_isLike_29, to_2 T.o, gb_some, T.i.len, gb_some, if_pos c]
    rfl
  | succ k ih =>
    intro j fu hk
    have c : nI (sz3 e1) ≤ nI j ↔ sz3 e1 ≤ j := nI_leI (by omega) (by omega)
    rw [show fu + (k + 1) + 1 = (fu + k + 1) + 1 by omega, f_X4_isLike_29, to_2 T.o, gb_some, T.i.len, gb_some, ifn c (by omega), gb_some, T.i.ll (by omega) (by omega), gb_some, gck_true (to_o U.o), read_ok U (by omega) (by omega), gb_some]
    simp only [gl]
    rw [nI_1]
    show _ = some (if i1 j = i2 j then smF i1 i2 k (j + 1) else 0)
    by_cases d : i1 j = i2 j
    · rw [if_pos d, if_pos d, ih (j + 1) fu (by omega)]
    · rw [if_neg d, if_neg d]
section SM
variable {G : gG} {m : Nat} {A : AS} {asd : Nat → Int64} {spr : Nat → Int32} {sd ss f15 f16 : Int32}
theorem sm_no (h : MR G m A asd spr sd ss f15 f16) (w : WF A) {i1 i2 : Nat} (h1 : i1 < A.N) (fu : Nat) (j : Int32) : f_X6_same_125 (fu + 1) G m (nI i1) (nI i2) 0 j = some (0, G) := by
  have z182 : ∀ s : Int32, f_X6_same_182 G s = if s = 0 then some (0, G) else some (1, G) := fun s => rfl
  rw [f_X6_same_125, mo_4 h.o, gb_some, h.size w h1, gb_some, if_pos rfl, z182, if_pos rfl]
  split <;> rfl
theorem sm_ref (h : MR G m A asd spr sd ss f15 f16) (w : WF A) {i1 i2 : Nat} (h1 : i1 < A.N) (h2 : i2 < A.N) {Z : Nat} (hZ : sz3 (A.ex i1) = Z) (hZ2 : sz3 (A.ex i2) = Z) : ∀ (k j fu : Nat), j + k = Z → f_X6_same_125 (fu + k + 1) G m (nI i1) (nI i2) 1 (nI j) = some (smF (A.it i1) (A.it i2) k j, G) := by
  have hz := w.sz i1 h1
  have z182 : ∀ s : Int32, f_X6_same_182 G s = if s = 0 then some (0, G) else some (1, G) := fun s => rfl
  intro k
  induction k with
  | zero =>
    intro j fu hk
    have c : nI (sz3 (A.ex i1)) ≤ nI j := (nI_leI (by omega) (by omega)).mpr (by omega)
    rw [Nat.add_zero, f_X6_same_125, mo_4 h.o, gb_some, h.size w h1, gb_some, if_pos c, z182, if_neg (by decide)]
    rfl
  | succ k ih =>
    intro j fu hk
    have c : nI (sz3 (A.ex i1)) ≤ nI j ↔ sz3 (A.ex i1) ≤ j := nI_leI (by omega) (by omega)
    rw [show fu + (k + 1) + 1 = (fu + k + 1) + 1 by omega, f_X6_same_125, mo_4 h.o, gb_some, h.size w h1, gb_some, ifn c (by omega), if_neg (by decide), mo_6 h.o, gb_some, h.item w h1 (by omega), gb_some, gb_some, h.item w h2 (by omega), gb_some]
    unfold f_X6_same_175
    simp only [gl]
    rw [nI_1]
    show _ = some (if A.it i1 j = A.it i2 j then smF (A.it i1) (A.it i2) k (j + 1) else 0, G)
    by_cases d : A.it i1 j = A.it i2 j
    · rw [if_pos d, if_pos d, ih (j + 1) fu (by omega)]
    · rw [if_neg d, if_neg d]
      exact sm_no h w h1 (fu + k) _
theorem s83_no (h : MR G m A asd spr sd ss f15 f16) (w : WF A) {i1 i2 : Nat} (h1 : i1 < A.N) : ∀ (k j fu : Nat), j + k = 3 → f_X6_same_83 (fu + k + 1) G m (nI i1) (nI i2) 0 (nI j) = some (0, G) := by
  intro k
  induction k with
  | zero =>
    intro j fu hk
    have : j = 3 := by omega
    subst this
    obtain ⟨f', hf'⟩ : ∃ f' : Nat, 5000 = f' + 1 := ⟨4999, rfl⟩
    rw [Nat.add_zero, f_X6_same_83, if_pos (by decide), hf']
    exact sm_no h w h1 f' _
  | succ k ih =>
    intro j fu hk
    have c : (3 : Int32) ≤ nI j ↔ 3 ≤ j := nI_leI (a := 3) (by omega) (by omega)
    rw [show fu + (k + 1) + 1 = (fu + k + 1) + 1 by omega, f_X6_same_83, ifn c (by omega), if_pos rfl]
    unfold f_X6_same_114 f_X6_same_115
    simp only [gl]
    rw [nI_1]
    exact ih (j + 1) fu (by omega)
theorem s83 (h : MR G m A asd spr sd ss f15 f16) (w : WF A) {i1 i2 : Nat} (h1 : i1 < A.N) (h2 : i2 < A.N) : ∀ (k j fu : Nat), j + k = 3 → (∀ x, x < j → A.ex i1 x = A.ex i2 x) → f_X6_same_83 (fu + k + 1) G m (nI i1) (nI i2) 1 (nI j) = some (if A.ex i1 0 = A.ex i2 0 ∧ A.ex i1 1 = A.ex i2 1 ∧ A.ex i1 2 = A.ex i2 2 then smF (A.it i1) (A.it i2) (sz3 (A.ex i1)) 0 else 0, G) := by
  intro k
  induction k with
  | zero =>
    intro j fu hk hq
    have : j = 3 := by omega
    subst this
    have e : A.ex i1 0 = A.ex i2 0 ∧ A.ex i1 1 = A.ex i2 1 ∧ A.ex i1 2 = A.ex i2 2 := ⟨hq 0 (by omega), hq 1 (by omega), hq 2 (by omega)⟩
    have hz := w.sz i1 h1
    have ez : sz3 (A.ex i2) = sz3 (A.ex i1) := by unfold sz3; rw [e.1, e.2.1, e.2.2]
    obtain ⟨f', hf'⟩ : ∃ f' : Nat, 5000 = f' + sz3 (A.ex i1) + 1 := ⟨4999 - sz3 (A.ex i1), by omega⟩
    rw [Nat.add_zero, f_X6_same_83, if_pos (by decide), if_pos e, hf']
    exact sm_ref h w h1 h2 rfl ez (sz3 (A.ex i1)) 0 f' (by omega)
  | succ k ih =>
    intro j fu hk hq
    have c : (3 : Int32) ≤ nI j ↔ 3 ≤ j := nI_leI (a := 3) (by omega) (by omega)
    have e1 := w.e60 i1 h1 j (by omega)
    have e2 := w.e60 i2 h2 j (by omega)
    have ce : nI (A.ex i1 j) = nI (A.ex i2 j) ↔ A.ex i1 j = A.ex i2 j := nI_eq (by omega) (by omega)
    rw [show fu + (k + 1) + 1 = (fu + k + 1) + 1 by omega, f_X6_same_83, ifn c (by omega), if_neg (by decide), gck_true (mo_o h.o), h.ext w h1 (by omega), gb_some, gck_true (mo_o h.o), h.ext w h2 (by omega), gb_some]
    unfold f_X6_same_114 f_X6_same_115
    simp only [gl]
    rw [nI_1]
    by_cases d : A.ex i1 j = A.ex i2 j
    · rw [ifp ce d]
      refine ih (j + 1) fu (by omega) (fun x hx => ?_)
      by_cases z : x = j
      · rw [z]; exact d
      · exact hq x (by omega)
    · rw [ifn ce d, s83_no h w h1 k (j + 1) fu (by omega), if_neg]
      rintro ⟨q0, q1, q2⟩
      rcases lt3 (show j < 3 by omega) with rfl | rfl | rfl
      · exact d q0
      · exact d q1
      · exact d q2
end SM
theorem shl_ok {G : gG} {s a r s' a' r' : Nat} {e e' : Nat → Nat} (h : SH G s a r e) (h' : SH G s' a' r' e') (hr : r < 2 ^ 30) (hr' : r' < 2 ^ 30) (he : ∀ j, j < 3 → e j < 2 ^ 30) (he' : ∀ j, j < 3 → e' j < 2 ^ 30) : f_X3_isLike G s s' = some (if r = r' ∧ e 0 = e' 0 ∧ e 1 = e' 1 ∧ e 2 = e' 2 then 1 else 0) := by
  have a0 := he 0 (by omega)
  have a1 := he 1 (by omega)
  have a2 := he 2 (by omega)
  have b0 := he' 0 (by omega)
  have b1 := he' 1 (by omega)
  have b2 := he' 2 (by omega)
  have cr : nI r = nI r' ↔ r = r' := nI_eq (by omega) (by omega)
  have c0 : nI (e 0) = nI (e' 0) ↔ e 0 = e' 0 := nI_eq (by omega) (by omega)
  have c1 : nI (e 1) = nI (e' 1) ↔ e 1 = e' 1 := nI_eq (by omega) (by omega)
  have c2 : nI (e 2) = nI (e' 2) ↔ e 2 = e' 2 := nI_eq (by omega) (by omega)
  unfold f_X3_isLike
  rw [so_0 h.1, gb_some, so_0 h'.1, gb_some, so_1 h.1, gb_some, h.i0, gb_some, so_1 h'.1, gb_some, h'.i0, gb_some, gb_some, h.i1, gb_some, gb_some, h'.i1, gb_some, gb_some, h.i2, gb_some, gb_some, h'.i2, gb_some]
  by_cases dr : r = r'
  · rw [ifp cr dr]
    by_cases d0 : e 0 = e' 0
    · rw [ifp c0 d0]
      by_cases d1 : e 1 = e' 1
      · rw [ifp c1 d1]
        by_cases d2 : e 2 = e' 2
        · rw [ifp c2 d2, if_pos ⟨dr, d0, d1, d2⟩]
        · rw [ifn c2 d2, if_neg (fun q => d2 q.2.2.2)]
      · rw [ifn c1 d1, if_neg (fun q => d1 q.2.2.1)]
    · rw [ifn c0 d0, if_neg (fun q => d0 q.2.1)]
  · rw [ifn cr dr, if_neg (fun q => dr q.1)]
theorem call_same {G : gG} {b n : Nat} {A : AS} (h : REL G b n A) (a1 a2 : Int32) : C2 b n A (f_X5_same G b a1 a2) (fun G' => f_X6_same G' (b + 9) a1 a2) := by
  obtain ⟨w, hn, ⟨sr, se, row, c⟩, ⟨asd, spr, sd, ss, f15, f16, m⟩⟩ := h
  have mx : MX G (b + 9) A := ⟨_, _, _, _, _, _, m⟩
  rcases kn w c a1 with ⟨i1, hi1, rfl, k1, t1⟩ | ⟨k1, t1⟩
  · rcases kn w c a2 with ⟨i2, hi2, rfl, k2, t2⟩ | ⟨k2, t2⟩
    · have T1 := c.c i1 hi1
      have T2 := c.c i2 hi2
      have e1 : f_X5_same G b (nI i1) (nI i2) = if A.gone i1 = 0 then (if A.gone i2 = 0 then (gb (f_X4_isLike G (b + 18 + 4 * i1) (b + 18 + 4 * i2)) fun r7 => if r7 = 0 then some (0, G) else some (1, G)) else gb2 (f_X5_failed G b 1 (-3)) fun r G' => some (r, G')) else gb2 (f_X5_failed G b 1 (-3)) fun r G' => some (r, G') := by
        unfold f_X5_same f_X5_same_39
        rw [gck_true (cf_o c.o), k1, gb_some, gck_true (cf_o c.o), k2, gb_some]
        show (gb (g_fI G (b + 18 + 4 * i1) 3 3) _) = _
        rw [to_3 T1.o, gb_some, to_3 T2.o, gb_some, gck_true (to_o T1.o), gck_true (cf_o c.o)]
      have e2 : ∀ G', MR G' (b + 9) A asd spr sd ss f15 f16 → f_X6_same G' (b + 9) (nI i1) (nI i2) = if A.gone i1 = 0 then (if A.gone i2 = 0 then (if A.lane i1 = A.lane i2 then (if nI (A.rk i1) = nI (A.rk i2) then f_X6_same_79 G' (b + 9) (nI i1) (nI i2) 1 else f_X6_same_79 G' (b + 9) (nI i1) (nI i2) 0) else f_X6_same_79 G' (b + 9) (nI i1) (nI i2) 0) else gb2 (f_X6_fails G' (b + 9) 1 (-3)) fun r G'' => some (r, G'')) else gb2 (f_X6_fails G' (b + 9) 1 (-3)) fun r G'' => some (r, G'') := by
        intro G' mm
        unfold f_X6_same f_X6_same_36 f_X6_same_78
        rw [gck_true (mo_o mm.o), t1 G' ⟨_, _, _, _, _, _, mm⟩, gb_some, if_neg (by decide), gck_true (mo_o mm.o), t2 G' ⟨_, _, _, _, _, _, mm⟩, gb_some, if_neg (by decide), mo_5 mm.o, gb_some, mm.gone w hi1, gb_some, gb_some, mm.gone w hi2, gb_some, mo_1 mm.o, gb_some, mm.lane w hi1, gb_some, gb_some, mm.lane w hi2, gb_some, mo_2 mm.o, gb_some, mm.dim w hi1, gb_some, gb_some, mm.dim w hi2, gb_some, gck_true (mo_o mm.o)]
      by_cases g1 : A.gone i1 = 0
      · by_cases g2 : A.gone i2 = 0
        · obtain ⟨fu3, hfu3⟩ : ∃ fu : Nat, 5000 = fu + 3 + 1 := ⟨4996, rfl⟩
          have no : f_X6_same_79 G (b + 9) (nI i1) (nI i2) 0 = some (0, G) := by
            unfold f_X6_same_79
            rw [hfu3]
            exact s83_no m w hi1 3 0 fu3 (by omega)
          have yes : f_X6_same_79 G (b + 9) (nI i1) (nI i2) 1 = some (if A.ex i1 0 = A.ex i2 0 ∧ A.ex i1 1 = A.ex i2 1 ∧ A.ex i1 2 = A.ex i2 2 then smF (A.it i1) (A.it i2) (sz3 (A.ex i1)) 0 else 0, G) := by
            unfold f_X6_same_79
            rw [hfu3]
            exact s83 m w hi1 hi2 3 0 fu3 (by omega) (fun x hx => by omega)
          have hz := w.sz i1 hi1
          have r1 := w.rk3 i1 hi1
          have r2 := w.rk3 i2 hi2
          have cr : nI (A.rk i1) = nI (A.rk i2) ↔ A.rk i1 = A.rk i2 := nI_eq (by omega) (by omega)
          have like : f_X4_isLike G (b + 18 + 4 * i1) (b + 18 + 4 * i2) = some (if A.lane i1 = A.lane i2 then (if A.rk i1 = A.rk i2 ∧ A.ex i1 0 = A.ex i2 0 ∧ A.ex i1 1 = A.ex i2 1 ∧ A.ex i1 2 = A.ex i2 2 then smF (A.it i1) (A.it i2) (sz3 (A.ex i1)) 0 else 0) else 0) := by
            unfold f_X4_isLike
            rw [to_0 T1.o, gb_some, to_0 T2.o, gb_some, to_1 T1.o, gb_some, to_1 T2.o, gb_some, gck_true (so_o T1.s), shl_ok (c.tsh hi1) (c.tsh hi2) (by omega) (by omega) (fun j hj => by have := w.e60 i1 hi1 j hj; omega) (fun j hj => by have := w.e60 i2 hi2 j hj; omega), gb_some]
            by_cases dl : A.lane i1 = A.lane i2
            · rw [if_pos dl, if_pos dl]
              by_cases ds : A.rk i1 = A.rk i2 ∧ A.ex i1 0 = A.ex i2 0 ∧ A.ex i1 1 = A.ex i2 1 ∧ A.ex i1 2 = A.ex i2 2
              · rw [if_pos ds, if_pos ds, if_neg (by decide)]
                have ez : sz3 (A.ex i2) = sz3 (A.ex i1) := by unfold sz3; rw [ds.2.1, ds.2.2.1, ds.2.2.2]
                obtain ⟨f', hf'⟩ : ∃ f' : Nat, 5000 = f' + sz3 (A.ex i1) + 1 := ⟨4999 - sz3 (A.ex i1), by omega⟩
                rw [hf']
                exact sm_class T1 T2 rfl ez hz (sz3 (A.ex i1)) 0 f' (by omega)
              · rw [if_neg ds, if_neg ds, if_pos rfl]
            · rw [if_neg dl, if_neg dl]
          obtain ⟨r, hr1, hr2⟩ : ∃ r, (gb (f_X4_isLike G (b + 18 + 4 * i1) (b + 18 + 4 * i2)) fun r7 => if r7 = 0 then some ((0 : Int32), G) else some (1, G)) = some (r, G) ∧ (if A.lane i1 = A.lane i2 then (if nI (A.rk i1) = nI (A.rk i2) then f_X6_same_79 G (b + 9) (nI i1) (nI i2) 1 else f_X6_same_79 G (b + 9) (nI i1) (nI i2) 0) else f_X6_same_79 G (b + 9) (nI i1) (nI i2) 0) = some (r, G) := by
            have b01 : ∀ v : Int32, (v = 0 ∨ v = 1) → (if v = 0 then some ((0 : Int32), G) else some (1, G)) = some (v, G) := by
              intro v hv
              rcases hv with rfl | rfl
              · rfl
              · rfl
            rw [like, gb_some]
            refine ⟨_, b01 _ ?_, ?_⟩
            · split
              · split
                · exact smF_b _ _ _ _
                · exact Or.inl rfl
              · exact Or.inl rfl
            · by_cases dl : A.lane i1 = A.lane i2
              · rw [if_pos dl, if_pos dl]
                by_cases dr : A.rk i1 = A.rk i2
                · rw [ifp cr dr, yes]
                  by_cases de : A.ex i1 0 = A.ex i2 0 ∧ A.ex i1 1 = A.ex i2 1 ∧ A.ex i1 2 = A.ex i2 2
                  · rw [if_pos de, if_pos ⟨dr, de⟩]
                  · rw [if_neg de, if_neg (fun q => de q.2)]
                · rw [ifn cr dr, no, if_neg (fun q => dr q.1)]
              · rw [if_neg dl, if_neg dl, no]
          refine same2 (r := r) w c m hn (by rw [e1, if_pos g1, if_pos g2, hr1]) ?_
          show f_X6_same _ (b + 9) (nI i1) (nI i2) = _
          rw [e2 _ m, if_pos g1, if_pos g2, hr2]
        · refine fail2 w c m hn 1 (-3) (by rw [e1, if_pos g1, if_neg g2]) (fun G' mm => ?_)
          show f_X6_same _ (b + 9) (nI i1) (nI i2) = _
          rw [e2 _ mm, if_pos g1, if_neg g2]
      · refine fail2 w c m hn 1 (-3) (by rw [e1, if_neg g1]) (fun G' mm => ?_)
        show f_X6_same _ (b + 9) (nI i1) (nI i2) = _
        rw [e2 _ mm, if_neg g1]
    · refine same2 (r := -1) w c m hn ?_ ?_
      · unfold f_X5_same
        rw [gck_true (cf_o c.o), k1, gb_some, gck_true (cf_o c.o), k2, gb_some]; rfl
      · show f_X6_same _ (b + 9) (nI i1) a2 = _
        unfold f_X6_same
        rw [gck_true (mo_o m.o), t1 G mx, gb_some, if_neg (by decide), gck_true (mo_o m.o), t2 G mx, gb_some, if_pos rfl]
  · refine same2 (r := -1) w c m hn ?_ ?_
    · unfold f_X5_same
      rw [gck_true (cf_o c.o), k1, gb_some, gck_true (cf_o c.o)]
      rcases kn w c a2 with ⟨i2, _, _, k2, _⟩ | ⟨k2, _⟩
      · rw [k2, gb_some]; rfl
      · rw [k2, gb_some]; rfl
    · show f_X6_same _ (b + 9) a1 a2 = _
      unfold f_X6_same
      rw [gck_true (mo_o m.o), t1 G mx, gb_some, if_pos rfl]
