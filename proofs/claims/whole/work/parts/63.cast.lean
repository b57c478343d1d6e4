/-! cast. -/
/-- a value moved -/
def toD (x : Int64) (l1 l2 : Int32) : Int64 := match f_X6_to x l1 l2 with
  | some y => y
  | none => 0
theorem toD_of {x y : Int64} {l1 l2 : Int32} (h : f_X6_to x l1 l2 = some y) : toD x l1 l2 = y := by
  unfold toD
  rw [h]
/-- the class moves a value -/
theorem CR.move {G : gG} {b : Nat} {A : AS} {sr : Nat} {se : Nat → Nat} {row : Nat → Int64} (c : CR G b A sr se row) {l1 l2 : Int32} (h1 : LN l1) (h2 : LN l2) {x : Int64} (hx : VAL l1 x) : ∃ G', f_X0_moved G (b + 2) x l1 l2 = some (toD x l1 l2, G') ∧ CR G' b A sr se row ∧ FC G G' b ∧ f_X6_to x l1 l2 = some (toD x l1 l2) ∧ VAL l2 (toD x l1 l2) := by
  obtain ⟨y, d, q1, q2, q3, q4⟩ := moved_ok c.a h1 h2 hx
  have e := toD_of q3
  rw [e]
  refine ⟨g_up G (b + 3) d, q1, c.reck (c.a.up0 q2) (FRM.up0 _ _ _ _ _), (FRM.up0 G (b + 3) (b + 4) (b + 5) d).fc, q3, q4⟩
/-- the class puts a value into its row -/
theorem CR.put {G : gG} {b : Nat} {A : AS} {sr : Nat} {se : Nat → Nat} {row : Nat → Int64} (c : CR G b A sr se row) {j : Nat} (hj : j < 240) (v : Int64) : ∃ G', g_ls G (b + 8) (nI j) v = some G' ∧ CR G' b A sr se (fset row j v) ∧ FC G G' b := by
  obtain ⟨ce, d1, d2⟩ := c.w.ls hj (by omega) v
  exact ⟨_, d1, c.row d2, FC.up (by omega)⟩
theorem MR.aput {G : gG} {b : Nat} {A : AS} {asd : Nat → Int64} {spr : Nat → Int32} {sd ss f15 f16 : Int32} (m : MR G (b + 9) A asd spr sd ss f15 f16) {j : Nat} (hj : j < 240) (v : Int64) : ∃ G', g_ls G (b + 9 + 7) (nI j) v = some G' ∧ MR G' (b + 9) A (fset asd j v) spr sd ss f15 f16 ∧ FM G G' b := by
  obtain ⟨ce, d1, d2⟩ := m.w.ls hj (by omega) v
  exact ⟨_, d1, m.asd d2, FM.up (by omega)⟩
theorem fset_lt {f g : Nat → Int64} {j : Nat} (h : ∀ t, t < j → f t = g t) : ∀ t, t < j + 1 → fset f j (g j) t = g t := fun t ht => by
  by_cases z : t = j
  · rw [z, fset_s]
  · rw [fset_n z]; exact h t (by omega)
theorem cast_class {b n : Nat} {A : AS} {sr : Nat} {se : Nat → Nat} (w : WF A) {i : Nat} (hi : i < A.N) {l : Int32} (hl : LN l) : ∀ (k j fu : Nat) (G : gG) (row : Nat → Int64), j + k = sz3 (A.ex i) → CR G b A sr se row → (∀ t, t < j → row t = toD (A.it i t) (A.lane i) l) →
    ∃ G' row', f_X5_cast_58 (fu + k + 1) G n b l (b + 18 + 4 * i) (nI j) = (gb3 (f_X5_madeOfRow G' n b l) fun r G2 n3 => some (r, G2, n3)) ∧ CR G' b A sr se row' ∧ (∀ t, t < sz3 (A.ex i) → row' t = toD (A.it i t) (A.lane i) l) ∧ FC G G' b := by
  have hz := w.sz i hi
  intro k
  induction k with
  | zero =>
    intro j fu G row hk c hq
    have T := c.c i hi
    have cc : nI (sz3 (A.ex i)) ≤ nI j := (nI_leI (by omega) (by omega)).mpr (by omega)
    refine ⟨G, row, ?_, c, fun t ht => hq t (by omega), FC.refl _ _⟩
    unfold f_X5_cast_58 f_X5_cast_109
    rw [to_2 T.o, gb_some, T.i.len, gb_some, if_pos cc, gck_true (cf_o c.o)]
  | succ k ih =>
    intro j fu G row hk c hq
    have T := c.c i hi
    have cc : nI (sz3 (A.ex i)) ≤ nI j ↔ sz3 (A.ex i) ≤ j := nI_leI (by omega) (by omega)
    have cd : nI 240 ≤ nI j ↔ 240 ≤ j := nI_leI (by omega) (by omega)
    obtain ⟨G1, m1, m2, m3, -, -⟩ := c.move (w.ln i hi) hl (w.vl i hi j (by omega))
    obtain ⟨G2, p1, p2, p3⟩ := m2.put (j := j) (by omega) (toD (A.it i j) (A.lane i) l)
    obtain ⟨G', row', q1, q2, q3, q4⟩ := ih (j + 1) fu G2 _ (by omega) p2 (fset_lt (g := fun t => toD (A.it i t) (A.lane i) l) hq)
    refine ⟨G', row', ?_, q2, q3, (m3.trans p3).trans q4⟩
    rw [← q1, show fu + (k + 1) + 1 = (fu + k + 1) + 1 by omega, f_X5_cast_58, to_2 T.o, gb_some, T.i.len, gb_some, ifn cc (by omega), cf_3 c.o, gb_some, c.w.len, gb_some, ifn cd (by omega), gb_some, cf_1 c.o, gb_some, gck_true (to_o T.o), read_ok T hz (by omega), gb_some, to_0 T.o, gb_some, gck_true c.a.o, m1, gb2_some, p1, gb_some]
    simp only [gl]
    rw [nI_1]
theorem cast_ref {b : Nat} {A : AS} {spr : Nat → Int32} {sd ss f15 f16 : Int32} (w : WF A) {i : Nat} (hi : i < A.N) {l : Int32} (hto : ∀ t, t < sz3 (A.ex i) → f_X6_to (A.it i t) (A.lane i) l = some (toD (A.it i t) (A.lane i) l)) : ∀ (k j fu : Nat) (G : gG) (asd : Nat → Int64), j + k = sz3 (A.ex i) → MR G (b + 9) A asd spr sd ss f15 f16 → (∀ t, t < j → asd t = toD (A.it i t) (A.lane i) l) →
    ∃ G' asd', f_X6_cast_58 (fu + k + 1) G (b + 9) (nI i) l (nI j) = (gb2 (f_X6_made G' (b + 9) l) fun r G2 => some (r, G2)) ∧ MR G' (b + 9) A asd' spr sd ss f15 f16 ∧ (∀ t, t < sz3 (A.ex i) → asd' t = toD (A.it i t) (A.lane i) l) ∧ FM G G' b := by
  have hz := w.sz i hi
  intro k
  induction k with
  | zero =>
    intro j fu G asd hk m hq
    have cc : nI (sz3 (A.ex i)) ≤ nI j := (nI_leI (by omega) (by omega)).mpr (by omega)
    refine ⟨G, asd, ?_, m, fun t ht => hq t (by omega), FM.refl _ _⟩
    unfold f_X6_cast_58
    rw [mo_4 m.o, gb_some, m.size w hi, gb_some, if_pos cc, gck_true (mo_o m.o)]
  | succ k ih =>
    intro j fu G asd hk m hq
    have cc : nI (sz3 (A.ex i)) ≤ nI j ↔ sz3 (A.ex i) ≤ j := nI_leI (by omega) (by omega)
    obtain ⟨G1, p1, p2, p3⟩ := m.aput (j := j) (by omega) (toD (A.it i j) (A.lane i) l)
    obtain ⟨G', asd', q1, q2, q3, q4⟩ := ih (j + 1) fu G1 _ (by omega) p2 (fset_lt (g := fun t => toD (A.it i t) (A.lane i) l) hq)
    refine ⟨G', asd', ?_, q2, q3, p3.trans q4⟩
    rw [← q1, show fu + (k + 1) + 1 = (fu + k + 1) + 1 by omega, f_X6_cast_58, mo_4 m.o, gb_some, m.size w hi, gb_some, ifn cc (by omega), mo_7 m.o, gb_some, mo_6 m.o, gb_some, m.item w hi (by omega), gb_some, mo_1 m.o, gb_some, m.lane w hi, gb_some, hto j (by omega), gb_some, p1, gb_some]
    simp only [gl]
    rw [nI_1]
/-- both make a tensor of their rows -/
theorem make3 {G1 : gG} {b : Nat} {A : AS} {sr : Nat} {se : Nat → Nat} {row asd : Nat → Int64} {spr : Nat → Int32} {sd ss f15 f16 : Int32} (w : WF A) (hN : A.N < 16) (c1 : CR G1 b A sr se row) (m1 : MR G1 (b + 9) A asd spr sd ss f15 f16) {l : Int32} (hl : LN l) (hr : sr ≤ 3) (he : ∀ j, j < 3 → se j ≤ 60) (h1 : ∀ j, sr ≤ j → j < 3 → se j = 1) (hz : sz3 se ≤ 240) (hv : ∀ j, j < sz3 se → VAL l (row j)) {f : Option (Int32 × gG × Nat)} {g : gG → Option (Int32 × gG)}
    (ef : f = gb3 (f_X5_madeOfRow G1 (b + 18 + 4 * A.N) b l) fun r G' n' => some (r, G', n'))
    (eg : ∀ G', MR G' (b + 9) A asd spr sd ss f15 f16 → ∃ G'' asd' spr' f15' f16', g G' = (gb2 (f_X6_made G'' (b + 9) l) fun r G3 => some (r, G3)) ∧ MR G'' (b + 9) A asd' spr' (nI sr) (nI (sz3 se)) f15' f16' ∧ (∀ j, j < 3 → spr' j = nI (se j)) ∧ (∀ j, j < sz3 se → asd' j = row j) ∧ FM G' G'' b) : C3 b A f g := by
  obtain ⟨G3, q1, q2, q3⟩ := c1.made hN hz l
  have m3 := m1.frame q3
  obtain ⟨G4, asd', spr', f15', f16', r1, r2, r3, r4, r5⟩ := eg G3 m3
  obtain ⟨G5, s1, s2, s3⟩ := r2.made (b := b) rfl w hN (se := se) (sr := sr) (fun j hj => r3 j (by omega)) rfl rfl hr hz l
  exact fin3 (r := nI A.N) (n1 := b + 18 + 4 * (A.N + 1)) (w.add hN hl hr he h1 hz hv) (by rw [ef, q1, gb3_some]) m3 q2 (by rw [r1, s1, gb2_some]) (s2.addc r4) (r5.trans s3) rfl
theorem call_cast {G : gG} {b n : Nat} {A : AS} (h : REL G b n A) (a1 a2 : Int32) : C3 b A (f_X5_cast G n b a1 a2) (fun G' => f_X6_cast G' (b + 9) a1 a2) := by
  obtain ⟨w, hn, ⟨sr, se, row, c⟩, ⟨asd, spr, sd, ss, f15, f16, m⟩⟩ := h
  have mx : MX G (b + 9) A := ⟨_, _, _, _, _, _, m⟩
  have h16 := w.n16
  rcases kn w c a1 with ⟨i, hi, rfl, k, t⟩ | ⟨k, t⟩
  · have T := c.c i hi
    rcases lane_cs a2 with ⟨hl, l1, l2⟩ | ⟨l1, l2⟩
    · by_cases hN : A.N = 16
      · refine same3 (r := -2) w c m hn ?_ ?_
        · unfold f_X5_cast
          rw [gck_true (cf_o c.o), k, gb_some]
          show (if f_X1_isLane a2 = 0 then _ else _) = _
          rw [l1, if_neg (by decide), gck_true (cf_o c.o), full_ok c w, gb_some, if_pos hN, if_neg (by decide)]
        · show f_X6_cast _ (b + 9) (nI i) a2 = _
          unfold f_X6_cast
          rw [gck_true (mo_o m.o), t G mx, gb_some, if_neg (by decide), l2, if_neg (by decide), mo_0 m.o, gb_some, ifp (full_I w) hN]
      · have e1 : f_X5_cast G n b (nI i) a2 = if A.gone i = 0 then (gb (f_X3_setAs G (b + 6) (b + 18 + 4 * i + 1)) fun G7 => f_X5_cast_58 5000 G7 n b a2 (b + 18 + 4 * i) 0) else gb2 (f_X5_failed G b 1 (-3)) fun r G' => some (r, G', n) := by
          unfold f_X5_cast
          rw [gck_true (cf_o c.o), k, gb_some]
          show (if f_X1_isLane a2 = 0 then _ else _) = _
          rw [l1, if_neg (by decide), gck_true (cf_o c.o), full_ok c w, gb_some, if_neg hN, if_pos rfl, to_3 T.o, gb_some, cf_2 c.o, gb_some, to_1 T.o, gb_some, gck_true (so_o c.s), gck_true (cf_o c.o)]
        have e2 : ∀ G', MX G' (b + 9) A → f_X6_cast G' (b + 9) (nI i) a2 = if A.gone i = 0 then (gb (f_X6_begin G' (b + 9) (nI i)) fun G5 => f_X6_cast_58 5000 G5 (b + 9) (nI i) a2 0) else gb2 (f_X6_fails G' (b + 9) 1 (-3)) fun r G'' => some (r, G'') := by
          rintro G' ⟨_, _, _, _, _, _, mm⟩
          unfold f_X6_cast
          rw [gck_true (mo_o mm.o), t G' ⟨_, _, _, _, _, _, mm⟩, gb_some, if_neg (by decide), l2, if_neg (by decide), mo_0 mm.o, gb_some, ifn (full_I w) hN, mo_5 mm.o, gb_some, mm.gone w hi, gb_some, gck_true (mo_o mm.o), gck_true (mo_o mm.o)]
        by_cases g : A.gone i = 0
        · have hz := w.sz i hi
          obtain ⟨G1, q1, q2, q3⟩ := c.sas hi
          obtain ⟨fu, hfu⟩ : ∃ fu : Nat, 5000 = fu + sz3 (A.ex i) + 1 := ⟨4999 - sz3 (A.ex i), by omega⟩
          obtain ⟨G2, row', r1, r2, r3, r4⟩ := cast_class (n := n) w hi hl (sz3 (A.ex i)) 0 fu G1 row (by omega) q2 (fun t ht => by omega)
          rw [← hfu, nI_0] at r1
          have mv : ∀ t, t < sz3 (A.ex i) → f_X6_to (A.it i t) (A.lane i) a2 = some (toD (A.it i t) (A.lane i) a2) ∧ VAL a2 (toD (A.it i t) (A.lane i) a2) := fun t ht => by
            obtain ⟨_, _, _, _, s4, s5⟩ := c.move (w.ln i hi) hl (w.vl i hi t ht)
            exact ⟨s4, s5⟩
          have m2 := m.frame (q3.trans r4)
          refine make3 w (by omega) r2 m2 hl (w.rk3 i hi) (w.e60 i hi) (w.e1 i hi) hz (fun j hj => by rw [r3 j hj]; exact (mv j hj).2) ?_ (fun G' mm => ?_)
          · rw [e1, if_pos g, q1, gb_some, r1, hn]
          · obtain ⟨G3, s1, s2, s3⟩ := mm.begin (b := b) rfl w hi
            obtain ⟨G4, asd', u1, u2, u3, u4⟩ := cast_ref w hi (l := a2) (fun t ht => (mv t ht).1) (sz3 (A.ex i)) 0 fu G3 asd (by omega) s2 (fun t ht => by omega)
            rw [← hfu, nI_0] at u1
            refine ⟨G4, asd', _, f15, f16, ?_, u2, fun j _ => rfl, fun j hj => by rw [u3 j hj, r3 j hj], s3.trans u4⟩
            show f_X6_cast _ (b + 9) (nI i) a2 = _
            rw [e2 _ ⟨_, _, _, _, _, _, mm⟩, if_pos g, s1, gb_some, u1]
        · refine fail3 w c m hn 1 (-3) (by rw [e1, if_neg g]) (fun G' mm => ?_)
          show f_X6_cast _ (b + 9) (nI i) a2 = _
          rw [e2 _ ⟨_, _, _, _, _, _, mm⟩, if_neg g]
    · refine same3 (r := -1) w c m hn ?_ ?_
      · unfold f_X5_cast
        rw [gck_true (cf_o c.o), k, gb_some]
        show (if f_X1_isLane a2 = 0 then _ else _) = _
        rw [l1, if_pos rfl]
      · show f_X6_cast _ (b + 9) (nI i) a2 = _
        unfold f_X6_cast
        rw [gck_true (mo_o m.o), t G mx, gb_some, if_neg (by decide), l2, if_pos rfl]
  · refine same3 (r := -1) w c m hn ?_ ?_
    · unfold f_X5_cast
      rw [gck_true (cf_o c.o), k, gb_some]; rfl
    · show f_X6_cast _ (b + 9) a1 a2 = _
      unfold f_X6_cast
      rw [gck_true (mo_o m.o), t G mx, gb_some, if_pos rfl]
