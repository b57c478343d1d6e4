/-! one. -/
def oneL (o : Nat) (l : Int32) : Int32 := if o = 8 then 0 else if 3 ≤ o then l else if l = 0 then 2 else l
/-- the lane in which the class works -/
def oneW (o : Nat) (l : Int32) : Int32 := if o = 8 then l else oneL o l
theorem one_tab : ∀ o, o < 9 → ∀ a, a < 6 → f_X1_ofOne (nI o) (nI a) = if o = 7 ∧ 4 ≤ a then -3 else oneW o (nI a) := by decide +kernel
theorem oneW_ln {o : Nat} {l : Int32} (h : LN l) : LN (oneW o l) ∧ LN (oneL o l) := by
  have h2 : LN 2 := Or.inr (Or.inr (Or.inl rfl))
  have h0 : LN 0 := Or.inl rfl
  have hL : LN (oneL o l) := by
    unfold oneL
    split
    · exact h0
    · split
      · exact h
      · split
        · exact h2
        · exact h
  unfold oneW
  split
  · exact ⟨h, hL⟩
  · exact ⟨hL, hL⟩
/-- an item of the reference's one -/
def refOne (op l x4 : Int32) (x : Int64) : Option Int64 :=
  if op = 8 then (if l = 4 then gb (f_X6_wide x) fun r => some (if f_X6_isNan r = 0 then 0 else 1) else if l = 5 then some (if f_X6_isNan x = 0 then 0 else 1) else some 0)
  else if l = 4 then gb (f_X6_wide x) fun r => gb (f_X6_onReal op r) fun r' => f_X6_floatBits r'
  else if l = 5 then f_X6_onReal op x
  else some (f_X6_kept (f_X6_onWhole op x x4) x4)
theorem to_self {x : Int64} {l : Int32} : f_X6_to x l l = some x := by
  unfold f_X6_to
  rw [if_pos rfl]
theorem one_item {G : gG} {ar r0 r1 r2 : Nat} (hA : AR G ar r0 r1 r2) {o : Nat} (ho : o < 9) {l : Int32} (hl : LN l) (h7 : ¬ (o = 7 ∧ (l = 4 ∨ l = 5))) {x : Int64} (hx : VAL l x) :
    ∃ y G', (gb2 (f_X0_moved G ar x l (oneW o l)) fun r10 G11 => gck (g_isO G11 ar 0) <| gb2 (f_X0_ofOne G11 ar (nI o) (oneW o l) r10) fun r12 G13 => some (r12, G13)) = some (y, G') ∧ AR G' ar r0 r1 r2 ∧ FRM G G' r0 r1 r2 ∧ refOne (nI o) l (oneL o l) x = some y ∧ VAL (oneL o l) y := by
  obtain ⟨y1, c, q1, q2, q3, q4⟩ := moved_ok hA hl (oneW_ln (o := o) hl).1 hx
  have hA1 := hA.up0 q2
  rw [q1, gb2_some, gck_true hA1.o]
  have fr1 : FRM G (g_up G r0 c) r0 r1 r2 := FRM.up0 _ _ _ _ _
  by_cases o8 : o = 8
  · subst o8
    have eW : oneW 8 l = l := rfl
    have eL : oneL 8 l = 0 := rfl
    rw [eW] at q3 q4 ⊢
    rw [to_self] at q3
    have e := Option.some.inj q3
    subst e
    obtain ⟨n1, n2, n3, n4⟩ := one_nan hA1 hl q4
    have n1 : f_X0_ofOne (g_up G r0 c) ar (nI 8) l x = _ := n1
    rw [n1, gb2_some, eL]
    refine ⟨_, _, rfl, hA1, fr1, ?_, ?_⟩
    · unfold refOne
      rw [if_pos (show nI 8 = 8 from rfl)]
      rcases hl.cs with w | rfl | rfl
      · have a4 : ¬ l = 4 := by rcases w with rfl | rfl | rfl | rfl <;> decide
        have a5 : ¬ l = 5 := by rcases w with rfl | rfl | rfl | rfl <;> decide
        rw [if_neg a4, if_neg a5, n2 w, if_pos rfl]
      · obtain ⟨a, b1, b2⟩ := n3 rfl
        rw [if_pos rfl, b1, gb_some, b2]
      · rw [if_neg (by decide), if_pos rfl, n4 rfl]
    · have v0 : VAL 0 0 := by unfold VAL; rw [kept_0]; decide
      have v1 : VAL 0 1 := by unfold VAL; rw [kept_0]; decide
      split
      · exact v0
      · exact v1
  · have eW : oneW o l = oneL o l := by unfold oneW; rw [if_neg o8]
    rw [eW] at q3 q4 ⊢
    have on8 : ¬ nI o = 8 := fun q => o8 ((nI_eq (b := 8) (by omega) (by omega)).mp q)
    rcases hl.cs with w | hr
    · have a4 : ¬ l = 4 := by rcases w with rfl | rfl | rfl | rfl <;> decide
      have a5 : ¬ l = 5 := by rcases w with rfl | rfl | rfl | rfl <;> decide
      have wL : LW (oneL o l) := by
        unfold oneL
        rw [if_neg o8]
        split
        · exact w
        · split
          · exact Or.inr (Or.inr (Or.inl rfl))
          · exact w
      have ey : y1 = x := by
        by_cases e : l = oneL o l
        · rw [← e, to_self] at q3
          exact (Option.some.inj q3).symm
        · have l0 : l = 0 := by
            refine Decidable.byContradiction (fun z => e ?_)
            unfold oneL
            rw [if_neg o8]
            by_cases y : 3 ≤ o
            · rw [if_pos y]
            · rw [if_neg y, if_neg z]
          subst l0
          have eL : oneL o 0 = 2 := by
            unfold oneL at e ⊢
            rw [if_neg o8] at e ⊢
            by_cases z : 3 ≤ o
            · rw [if_pos z] at e; exact absurd rfl e
            · rw [if_neg z, if_pos rfl]
          rw [eL] at q3
          have : f_X6_to x 0 2 = some (f_X6_kept x 2) := by
            unfold f_X6_to
            simp (decide := true) only [if_true, if_false]
          rw [this] at q3
          have := Option.some.inj q3
          rw [← this, kept_2]
          rcases val0 hx with rfl | rfl <;> decide
      subst ey
      have ops : nI o = 0 ∨ nI o = 1 ∨ nI o = 2 ∨ nI o = 3 ∨ nI o = 4 ∨ nI o = 5 ∨ nI o = 6 ∨ nI o = 7 := by
        have : o = 0 ∨ o = 1 ∨ o = 2 ∨ o = 3 ∨ o = 4 ∨ o = 5 ∨ o = 6 ∨ o = 7 := by omega
        rcases this with rfl | rfl | rfl | rfl | rfl | rfl | rfl | rfl
        · exact Or.inl rfl
        · exact Or.inr (Or.inl rfl)
        · exact Or.inr (Or.inr (Or.inl rfl))
        · exact Or.inr (Or.inr (Or.inr (Or.inl rfl)))
        · exact Or.inr (Or.inr (Or.inr (Or.inr (Or.inl rfl))))
        · exact Or.inr (Or.inr (Or.inr (Or.inr (Or.inr (Or.inl rfl)))))
        · exact Or.inr (Or.inr (Or.inr (Or.inr (Or.inr (Or.inr (Or.inl rfl))))))
        · exact Or.inr (Or.inr (Or.inr (Or.inr (Or.inr (Or.inr (Or.inr rfl))))))
      have nz : (nI o = 0 ∨ nI o = 1 ∨ nI o = 2) → ¬ oneL o l = 0 := by
        intro hq
        have ho3 : ¬ 3 ≤ o := by
          rcases hq with q | q | q
          · have := (nI_eq (b := 0) (by omega) (by omega)).mp q; omega
          · have := (nI_eq (b := 1) (by omega) (by omega)).mp q; omega
          · have := (nI_eq (b := 2) (by omega) (by omega)).mp q; omega
        unfold oneL
        rw [if_neg o8, if_neg ho3]
        split
        · decide
        · assumption
      rw [one_whole hA1 wL q4 ops nz, gb2_some]
      refine ⟨_, _, rfl, hA1, fr1, ?_, val_kept wL.ln _⟩
      unfold refOne
      rw [if_neg on8, if_neg a4, if_neg a5]
    · have eL : oneL o l = l := by
        unfold oneL
        rw [if_neg o8]
        split
        · rfl
        · rw [if_neg (by rcases hr with rfl | rfl <;> decide)]
      have o7 : ¬ o = 7 := fun q => h7 ⟨q, hr⟩
      rw [eL] at q3 q4 ⊢
      rw [to_self] at q3
      have e := Option.some.inj q3
      subst e
      have ops : nI o = 0 ∨ nI o = 1 ∨ nI o = 2 ∨ nI o = 3 ∨ nI o = 4 ∨ nI o = 5 ∨ nI o = 6 := by
        have : o = 0 ∨ o = 1 ∨ o = 2 ∨ o = 3 ∨ o = 4 ∨ o = 5 ∨ o = 6 := by omega
        rcases this with rfl | rfl | rfl | rfl | rfl | rfl | rfl
        · exact Or.inl rfl
        · exact Or.inr (Or.inl rfl)
        · exact Or.inr (Or.inr (Or.inl rfl))
        · exact Or.inr (Or.inr (Or.inr (Or.inl rfl)))
        · exact Or.inr (Or.inr (Or.inr (Or.inr (Or.inl rfl))))
        · exact Or.inr (Or.inr (Or.inr (Or.inr (Or.inr (Or.inl rfl)))))
        · exact Or.inr (Or.inr (Or.inr (Or.inr (Or.inr (Or.inr rfl)))))
      obtain ⟨z, G', s1, s2, s3, s4, s5⟩ := one_real hA1 hr q4 ops
      rw [s1, gb2_some]
      refine ⟨z, G', rfl, s2, fr1.trans s3, ?_, s5⟩
      unfold refOne
      rw [if_neg on8]
      rcases hr with rfl | rfl
      · obtain ⟨a, r, b1, b2, b3⟩ := s4.1 rfl
        rw [if_pos rfl, b1, gb_some, b2, gb_some, b3]
      · rw [if_neg (by decide), if_pos rfl, s4.2 rfl]
def oneD (o : Nat) (l : Int32) (x : Int64) : Int64 := match refOne (nI o) l (oneL o l) x with
  | some y => y
  | none => 0
theorem CR.onei {G : gG} {b : Nat} {A : AS} {sr : Nat} {se : Nat → Nat} {row : Nat → Int64} (c : CR G b A sr se row) {o : Nat} (ho : o < 9) {l : Int32} (hl : LN l) (h7 : ¬ (o = 7 ∧ (l = 4 ∨ l = 5))) {x : Int64} (hx : VAL l x) :
    ∃ G', (gb2 (f_X0_moved G (b + 2) x l (oneW o l)) fun r10 G11 => gck (g_isO G11 (b + 2) 0) <| gb2 (f_X0_ofOne G11 (b + 2) (nI o) (oneW o l) r10) fun r12 G13 => some (r12, G13)) = some (oneD o l x, G') ∧ CR G' b A sr se row ∧ FC G G' b ∧ refOne (nI o) l (oneL o l) x = some (oneD o l x) ∧ VAL (oneL o l) (oneD o l x) := by
  obtain ⟨y, G', q1, q2, q3, q4, q5⟩ := one_item c.a ho hl h7 hx
  have e : oneD o l x = y := by unfold oneD; rw [q4]
  rw [e]
  exact ⟨G', q1, c.reck q2 q3, q3.fc, q4, q5⟩
theorem gb2_gb2 {α β γ δ : Type} (o : Option (α × gG)) (f : α → gG → Option (β × gG)) (k : β → gG → Option γ) : gb2 (gb2 o f) k = gb2 o fun a G => gb2 (f a G) k := by
  cases o with
  | none => rfl
  | some p => rfl
theorem one_class {b n : Nat} {A : AS} {sr : Nat} {se : Nat → Nat} (w : WF A) {i : Nat} (hi : i < A.N) {o : Nat} (ho : o < 9) (h7 : ¬ (o = 7 ∧ (A.lane i = 4 ∨ A.lane i = 5))) : ∀ (k j fu : Nat) (G : gG) (row : Nat → Int64), j + k = sz3 (A.ex i) → CR G b A sr se row → (∀ t, t < j → row t = oneD o (A.lane i) (A.it i t)) →
    ∃ G' row', f_X5_one_83 (fu + k + 1) G n b (nI o) (b + 18 + 4 * i) (oneW o (A.lane i)) (nI j) = (gb3 (f_X5_madeOfRow G' n b (oneL o (A.lane i))) fun r G2 n3 => some (r, G2, n3)) ∧ CR G' b A sr se row' ∧ (∀ t, t < sz3 (A.ex i) → row' t = oneD o (A.lane i) (A.it i t)) ∧ FC G G' b := by
  have hz := w.sz i hi
  intro k
  induction k with
  | zero =>
    intro j fu G row hk c hq
    have T := c.c i hi
    have cc : nI (sz3 (A.ex i)) ≤ nI j := (nI_leI (by omega) (by omega)).mpr (by omega)
    refine ⟨G, row, ?_, c, fun t ht => hq t (by omega), FC.refl _ _⟩
    unfold f_X5_one_83 f_X5_one_145 f_X5_one_158
    rw [to_2 T.o, gb_some, T.i.len, gb_some, if_pos cc, gck_true (cf_o c.o), gck_true (cf_o c.o)]
    have c8 : nI o = 8 ↔ o = 8 := nI_eq (b := 8) (by omega) (by omega)
    unfold oneW oneL
    by_cases d : o = 8
    · rw [ifp c8 d, if_pos d]
    · rw [ifn c8 d, if_neg d, if_neg d]
  | succ k ih =>
    intro j fu G row hk c hq
    have T := c.c i hi
    have cc : nI (sz3 (A.ex i)) ≤ nI j ↔ sz3 (A.ex i) ≤ j := nI_leI (by omega) (by omega)
    have cd : nI 240 ≤ nI j ↔ 240 ≤ j := nI_leI (by omega) (by omega)
    obtain ⟨G1, m1, m2, m3, -, -⟩ := c.onei ho (w.ln i hi) h7 (w.vl i hi j (by omega))
    obtain ⟨G2, p1, p2, p3⟩ := m2.put (j := j) (by omega) (oneD o (A.lane i) (A.it i j))
    obtain ⟨G', row', q1, q2, q3, q4⟩ := ih (j + 1) fu G2 _ (by omega) p2 (fset_lt (g := fun t => oneD o (A.lane i) (A.it i t)) hq)
    refine ⟨G', row', ?_, q2, q3, (m3.trans p3).trans q4⟩
    have K := congrArg (fun z => gb2 z fun r12 G13 => gb (g_ls G13 (b + 8) (nI j) r12) fun G14 => f_X5_one_83 (fu + k + 1) G14 n b (nI o) (b + 18 + 4 * i) (oneW o (A.lane i)) (nI (j + 1))) m1
    rw [← q1, show fu + (k + 1) + 1 = (fu + k + 1) + 1 by omega, f_X5_one_83, to_2 T.o, gb_some, T.i.len, gb_some, ifn cc (by omega), cf_3 c.o, gb_some, c.w.len, gb_some, ifn cd (by omega), gb_some, cf_1 c.o, gb_some, gb_some, gck_true (to_o T.o), read_ok T hz (by omega), gb_some, to_0 T.o, gb_some, gck_true c.a.o]
    simp only [gl]
    rw [nI_1]
    have K2 : (gb2 (some (oneD o (A.lane i) (A.it i j), G1)) fun r12 G13 => gb (g_ls G13 (b + 8) (nI j) r12) fun G14 => f_X5_one_83 (fu + k + 1) G14 n b (nI o) (b + 18 + 4 * i) (oneW o (A.lane i)) (nI (j + 1))) = f_X5_one_83 (fu + k + 1) G2 n b (nI o) (b + 18 + 4 * i) (oneW o (A.lane i)) (nI (j + 1)) := by
      rw [gb2_some, p1, gb_some]
    rw [← K2, ← m1]
    cases f_X0_moved G (b + 2) (A.it i j) (A.lane i) (oneW o (A.lane i)) with
    | none => rfl
    | some p =>
      obtain ⟨p1', p2'⟩ := p
      rw [gb2_some, gb2_some]
      unfold gck
      cases g_isO p2' (b + 2) 0 with
      | false => rfl
      | true =>
        simp only [if_true]
        cases f_X0_ofOne p2' (b + 2) (nI o) (oneW o (A.lane i)) p1' with
        | none => rfl
        | some q => rfl
theorem one111 {G : gG} {b : Nat} {A : AS} {asd : Nat → Int64} {spr : Nat → Int32} {sd ss f15 f16 : Int32} (m : MR G (b + 9) A asd spr sd ss f15 f16) (w : WF A) {i : Nat} (hi : i < A.N) {o : Nat} (ho : o < 9) {x4 : Int32} {j : Nat} (hj : j < sz3 (A.ex i)) (fu : Nat) {y : Int64} (hy : refOne (nI o) (A.lane i) x4 (A.it i j) = some y) :
    f_X6_one_111 (fu + 1) G (b + 9) (nI o) (nI i) (A.lane i) x4 (nI j) = gb (g_ls G (b + 9 + 7) (nI j) y) fun G' => f_X6_one_111 fu G' (b + 9) (nI o) (nI i) (A.lane i) x4 (nI (j + 1)) := by
  have hz := w.sz i hi
  have cc : nI (sz3 (A.ex i)) ≤ nI j ↔ sz3 (A.ex i) ≤ j := nI_leI (by omega) (by omega)
  rw [f_X6_one_111, mo_4 m.o, gb_some, m.size w hi, gb_some, ifn cc (by omega), mo_6 m.o, gb_some, m.item w hi hj, gb_some, mo_7 m.o, gb_some, gb_some, gb_some, gb_some]
  unfold f_X6_one_165 f_X6_one_178 f_X6_one_182 f_X6_one_183 f_X6_one_255
  simp only [gl]
  rw [nI_1]
  unfold refOne at hy
  by_cases o8 : nI o = 8
  · rw [if_pos o8] at hy ⊢
    by_cases l4 : A.lane i = 4
    · rw [if_pos l4] at hy ⊢
      have l5 : ¬ A.lane i = 5 := by rw [l4]; decide
      cases hw : f_X6_wide (A.it i j) with
      | none => rw [hw] at hy; cases hy
      | some a =>
        rw [hw, gb_some] at hy
        rw [gb_some, if_neg l5, ← Option.some.inj hy]
        by_cases z : f_X6_isNan a = 0
        · rw [if_pos z, if_pos z]
        · rw [if_neg z, if_neg z]
    · rw [if_neg l4] at hy ⊢
      by_cases l5 : A.lane i = 5
      · rw [if_pos l5] at hy ⊢
        rw [← Option.some.inj hy]
        by_cases z : f_X6_isNan (A.it i j) = 0
        · rw [if_pos z, if_pos z]
        · rw [if_neg z, if_neg z]
      · rw [if_neg l5] at hy ⊢
        rw [← Option.some.inj hy]
  · rw [if_neg o8] at hy ⊢
    by_cases l4 : A.lane i = 4
    · rw [if_pos l4] at hy ⊢
      cases hw : f_X6_wide (A.it i j) with
      | none => rw [hw] at hy; cases hy
      | some a =>
        rw [hw, gb_some] at hy
        rw [gb_some]
        cases hr : f_X6_onReal (nI o) a with
        | none => rw [hr] at hy; cases hy
        | some r =>
          rw [hr, gb_some] at hy
          rw [gb_some, hy, gb_some]
    · rw [if_neg l4] at hy ⊢
      by_cases l5 : A.lane i = 5
      · rw [if_pos l5] at hy ⊢
        rw [hy, gb_some]
      · rw [if_neg l5] at hy ⊢
        rw [← Option.some.inj hy]
theorem one_ref {b : Nat} {A : AS} {spr : Nat → Int32} {sd ss f15 f16 : Int32} (w : WF A) {i : Nat} (hi : i < A.N) {o : Nat} (ho : o < 9) (hto : ∀ t, t < sz3 (A.ex i) → refOne (nI o) (A.lane i) (oneL o (A.lane i)) (A.it i t) = some (oneD o (A.lane i) (A.it i t))) : ∀ (k j fu : Nat) (G : gG) (asd : Nat → Int64), j + k = sz3 (A.ex i) → MR G (b + 9) A asd spr sd ss f15 f16 → (∀ t, t < j → asd t = oneD o (A.lane i) (A.it i t)) →
    ∃ G' asd', f_X6_one_111 (fu + k + 1) G (b + 9) (nI o) (nI i) (A.lane i) (oneL o (A.lane i)) (nI j) = (gb2 (f_X6_made G' (b + 9) (oneL o (A.lane i))) fun r G2 => some (r, G2)) ∧ MR G' (b + 9) A asd' spr sd ss f15 f16 ∧ (∀ t, t < sz3 (A.ex i) → asd' t = oneD o (A.lane i) (A.it i t)) ∧ FM G G' b := by
  have hz := w.sz i hi
  intro k
  induction k with
  | zero =>
    intro j fu G asd hk m hq
    have cc : nI (sz3 (A.ex i)) ≤ nI j := (nI_leI (by omega) (by omega)).mpr (by omega)
    refine ⟨G, asd, ?_, m, fun t ht => hq t (by omega), FM.refl _ _⟩
    rw [Nat.add_zero, f_X6_one_111, mo_4 m.o, gb_some, m.size w hi, gb_some, if_pos cc, gck_true (mo_o m.o)]
  | succ k ih =>
    intro j fu G asd hk m hq
    obtain ⟨G1, p1, p2, p3⟩ := m.aput (j := j) (by omega) (oneD o (A.lane i) (A.it i j))
    obtain ⟨G', asd', q1, q2, q3, q4⟩ := ih (j + 1) fu G1 _ (by omega) p2 (fset_lt (g := fun t => oneD o (A.lane i) (A.it i t)) hq)
    refine ⟨G', asd', ?_, q2, q3, p3.trans q4⟩
    rw [← q1, show fu + (k + 1) + 1 = (fu + k + 1) + 1 by omega, one111 m w hi ho (by omega) (fu + k + 1) (hto j (by omega)), p1, gb_some]
theorem call_one {G : gG} {b n : Nat} {A : AS} (h : REL G b n A) (a1 a2 : Int32) : C3 b A (f_X5_one G n b a1 a2) (fun G' => f_X6_one G' (b + 9) a1 a2) := by
  obtain ⟨w, hn, ⟨sr, se, row, c⟩, ⟨asd, spr, sd, ss, f15, f16, m⟩⟩ := h
  have mx : MX G (b + 9) A := ⟨_, _, _, _, _, _, m⟩
  have h16 := w.n16
  rcases op1_cs a1 with ⟨o, ho, rfl, o1, o2⟩ | ⟨o1, o2⟩
  · rcases kn w c a2 with ⟨i, hi, rfl, k, t⟩ | ⟨k, t⟩
    · have T := c.c i hi
      by_cases hN : A.N = 16
      · refine same3 (r := -2) w c m hn ?_ ?_
        · unfold f_X5_one
          rw [gck_true (cf_o c.o), k, gb_some]
          show (if f_X0_isOfOne (nI o) = 0 then _ else _) = _
          rw [o1, if_neg (by decide), gck_true (cf_o c.o), full_ok c w, gb_some, if_pos hN, if_neg (by decide)]
        · show f_X6_one _ (b + 9) (nI o) (nI i) = _
          unfold f_X6_one
          rw [o2, if_neg (by decide), gck_true (mo_o m.o), t G mx, gb_some, if_neg (by decide), mo_0 m.o, gb_some, ifp (full_I w) hN]
      · have tab : f_X1_ofOne (nI o) (A.lane i) = if o = 7 ∧ (A.lane i = 4 ∨ A.lane i = 5) then -3 else oneW o (A.lane i) := by
          obtain ⟨j, hj, e⟩ := (w.ln i hi).nat
          rw [e, one_tab o ho j hj]
          have e4 : (nI j = 4 ∨ nI j = 5) ↔ 4 ≤ j := by
            rw [show (4 : Int32) = nI 4 from rfl, show (5 : Int32) = nI 5 from rfl, nI_eq (by omega) (by omega), nI_eq (by omega) (by omega)]
            omega
          by_cases d : o = 7 ∧ 4 ≤ j
          · rw [if_pos d, if_pos ⟨d.1, e4.mpr d.2⟩]
          · rw [if_neg d, if_neg (fun q => d ⟨q.1, e4.mp q.2⟩)]
        have e1 : f_X5_one G n b (nI o) (nI i) = if A.gone i = 0 then (if o = 7 ∧ (A.lane i = 4 ∨ A.lane i = 5) then (gb2 (f_X5_failed G b 4 (-3)) fun r G' => some (r, G', n)) else (gb (f_X3_setAs G (b + 6) (b + 18 + 4 * i + 1)) fun G9 => f_X5_one_83 5000 G9 n b (nI o) (b + 18 + 4 * i) (oneW o (A.lane i)) 0)) else gb2 (f_X5_failed G b 1 (-3)) fun r G' => some (r, G', n) := by
          unfold f_X5_one
          rw [gck_true (cf_o c.o), k, gb_some]
          show (if f_X0_isOfOne (nI o) = 0 then _ else _) = _
          rw [o1, if_neg (by decide), gck_true (cf_o c.o), full_ok c w, gb_some, if_neg hN, if_pos rfl, to_3 T.o, gb_some, to_0 T.o, gb_some]
          simp only [gl]
          rw [tab, cf_2 c.o, gb_some, to_1 T.o, gb_some, gck_true (so_o c.s), gck_true (cf_o c.o), gck_true (cf_o c.o)]
          by_cases d : o = 7 ∧ (A.lane i = 4 ∨ A.lane i = 5)
          · simp only [if_pos d, if_true]
          · have n3 := ((oneW_ln (o := o) (w.ln i hi)).1).n3.1
            simp only [if_neg d, if_neg n3]
        have e2 : ∀ G', MX G' (b + 9) A → f_X6_one G' (b + 9) (nI o) (nI i) = if A.gone i = 0 then (if o = 7 ∧ (A.lane i = 4 ∨ A.lane i = 5) then (gb2 (f_X6_fails G' (b + 9) 4 (-3)) fun r G'' => some (r, G'')) else (gb (f_X6_begin G' (b + 9) (nI i)) fun G5 => f_X6_one_111 5000 G5 (b + 9) (nI o) (nI i) (A.lane i) (oneL o (A.lane i)) 0)) else gb2 (f_X6_fails G' (b + 9) 1 (-3)) fun r G'' => some (r, G'') := by
          rintro G' ⟨_, _, _, _, _, _, mm⟩
          have c7 : nI o = 7 ↔ o = 7 := nI_eq (b := 7) (by omega) (by omega)
          have c8 : nI o = 8 ↔ o = 8 := nI_eq (b := 8) (by omega) (by omega)
          have c3 : (3 : Int32) ≤ nI o ↔ 3 ≤ o := nI_leI (a := 3) (by omega) (by omega)
          have cl : A.lane i ≤ 3 ↔ ¬ (A.lane i = 4 ∨ A.lane i = 5) := by
            rcases w.ln i hi with e | e | e | e | e | e <;> (rw [e]; decide)
          have e77 : f_X6_one_77 G' (b + 9) (nI o) (nI i) (A.lane i) = gb (f_X6_begin G' (b + 9) (nI i)) fun G5 => f_X6_one_111 5000 G5 (b + 9) (nI o) (nI i) (A.lane i) (oneL o (A.lane i)) 0 := by
            unfold f_X6_one_77 f_X6_one_100 f_X6_one_101 oneL
            simp only [gck_true (mo_o mm.o)]
            by_cases d8 : o = 8
            · rw [ifp c8 d8, if_pos d8]
            · rw [ifn c8 d8, if_neg d8]
              by_cases d3 : 3 ≤ o
              · rw [ifp c3 d3, if_pos d3]
              · rw [ifn c3 d3, if_neg d3]
                by_cases d0 : A.lane i = 0
                · rw [if_pos d0, if_pos d0]
                · rw [if_neg d0, if_neg d0]
          unfold f_X6_one
          rw [o2, if_neg (by decide), gck_true (mo_o mm.o), t G' ⟨_, _, _, _, _, _, mm⟩, gb_some, if_neg (by decide), mo_0 mm.o, gb_some, ifn (full_I w) hN, mo_5 mm.o, gb_some, mm.gone w hi, gb_some, mo_1 mm.o, gb_some, mm.lane w hi, gb_some, e77, gck_true (mo_o mm.o), gck_true (mo_o mm.o)]
          by_cases d7 : o = 7
          · rw [ifp c7 d7]
            by_cases dl : A.lane i = 4 ∨ A.lane i = 5
            · rw [ifn cl (fun q => q dl), if_pos (show o = 7 ∧ (A.lane i = 4 ∨ A.lane i = 5) from ⟨d7, dl⟩)]
            · rw [ifp cl dl, if_neg (show ¬ (o = 7 ∧ (A.lane i = 4 ∨ A.lane i = 5)) from fun q => dl q.2)]
          · rw [ifn c7 d7, if_neg (show ¬ (o = 7 ∧ (A.lane i = 4 ∨ A.lane i = 5)) from fun q => d7 q.1)]
        by_cases g : A.gone i = 0
        · by_cases d7 : o = 7 ∧ (A.lane i = 4 ∨ A.lane i = 5)
          · refine fail3 w c m hn 4 (-3) (by rw [e1, if_pos g, if_pos d7]) (fun G' mm => ?_)
            show f_X6_one _ (b + 9) (nI o) (nI i) = _
            rw [e2 _ ⟨_, _, _, _, _, _, mm⟩, if_pos g, if_pos d7]
          · have hz := w.sz i hi
            obtain ⟨G1, q1, q2, q3⟩ := c.sas hi
            obtain ⟨fu, hfu⟩ : ∃ fu : Nat, 5000 = fu + sz3 (A.ex i) + 1 := ⟨4999 - sz3 (A.ex i), by omega⟩
            obtain ⟨G2, row', r1, r2, r3, r4⟩ := one_class (n := n) w hi ho d7 (sz3 (A.ex i)) 0 fu G1 row (by omega) q2 (fun t ht => by omega)
            rw [← hfu, nI_0] at r1
            have mv : ∀ t, t < sz3 (A.ex i) → refOne (nI o) (A.lane i) (oneL o (A.lane i)) (A.it i t) = some (oneD o (A.lane i) (A.it i t)) ∧ VAL (oneL o (A.lane i)) (oneD o (A.lane i) (A.it i t)) := fun t ht => by
              obtain ⟨_, _, _, _, s4, s5⟩ := c.onei ho (w.ln i hi) d7 (w.vl i hi t ht)
              exact ⟨s4, s5⟩
            have m2 := m.frame (q3.trans r4)
            refine make3 w (by omega) r2 m2 (oneW_ln (o := o) (w.ln i hi)).2 (w.rk3 i hi) (w.e60 i hi) (w.e1 i hi) hz (fun j hj => by rw [r3 j hj]; exact (mv j hj).2) ?_ (fun G' mm => ?_)
            · rw [e1, if_pos g, if_neg d7, q1, gb_some, r1, hn]
            · obtain ⟨G3, s1, s2, s3⟩ := mm.begin (b := b) rfl w hi
              obtain ⟨G4, asd', u1, u2, u3, u4⟩ := one_ref w hi ho (fun t ht => (mv t ht).1) (sz3 (A.ex i)) 0 fu G3 asd (by omega) s2 (fun t ht => by omega)
              rw [← hfu, nI_0] at u1
              refine ⟨G4, asd', _, f15, f16, ?_, u2, fun j _ => rfl, fun j hj => by rw [u3 j hj, r3 j hj], s3.trans u4⟩
              show f_X6_one _ (b + 9) (nI o) (nI i) = _
              rw [e2 _ ⟨_, _, _, _, _, _, mm⟩, if_pos g, if_neg d7, s1, gb_some, u1]
        · refine fail3 w c m hn 1 (-3) (by rw [e1, if_neg g]) (fun G' mm => ?_)
          show f_X6_one _ (b + 9) (nI o) (nI i) = _
          rw [e2 _ ⟨_, _, _, _, _, _, mm⟩, if_neg g]
    · refine same3 (r := -1) w c m hn ?_ ?_
      · unfold f_X5_one
        rw [gck_true (cf_o c.o), k, gb_some]; rfl
      · show f_X6_one _ (b + 9) (nI o) a2 = _
        unfold f_X6_one
        rw [o2, if_neg (by decide), gck_true (mo_o m.o), t G mx, gb_some, if_pos rfl]
  · refine same3 (r := -1) w c m hn ?_ ?_
    · unfold f_X5_one
      rw [gck_true (cf_o c.o)]
      rcases kn w c a2 with ⟨i, _, _, k, _⟩ | ⟨k, _⟩
      · rw [k, gb_some]
        show (if f_X0_isOfOne a1 = 0 then _ else _) = _
        rw [o1, if_pos rfl]
      · rw [k, gb_some]; rfl
    · show f_X6_one _ (b + 9) a1 a2 = _
      unfold f_X6_one
      rw [o2, if_pos rfl]
