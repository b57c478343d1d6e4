/-! The calls, one by one. -/
def REL (G : gG) (b n : Nat) (A : AS) : Prop := WF A ∧ n = b + 18 + 4 * A.N ∧ (∃ sr se row, CR G b A sr se row) ∧ (∃ asd spr sd ss f15 f16, MR G (b + 9) A asd spr sd ss f15 f16)
def MX (G : gG) (m : Nat) (A : AS) : Prop := ∃ asd spr sd ss f15 f16, MR G m A asd spr sd ss f15 f16
/-- a call of both that answers alike -/
def C2 {α : Type} (b n : Nat) (A : AS) (f : Option (α × gG)) (g : gG → Option (α × gG)) : Prop := ∃ r G1 G2 A', f = some (r, G1) ∧ MX G1 (b + 9) A ∧ g G1 = some (r, G2) ∧ REL G2 b n A'
def C3 (b : Nat) (A : AS) (f : Option (Int32 × gG × Nat)) (g : gG → Option (Int32 × gG)) : Prop := ∃ r G1 n1 G2 A', f = some (r, G1, n1) ∧ MX G1 (b + 9) A ∧ g G1 = some (r, G2) ∧ REL G2 b n1 A'
theorem C2.congr {α : Type} {b n : Nat} {A : AS} {f f' : Option (α × gG)} {g g' : gG → Option (α × gG)} (h : C2 b n A f g) (e1 : f' = f) (e2 : ∀ G', MX G' (b + 9) A → g' G' = g G') : C2 b n A f' g' := by
  obtain ⟨r, G1, G2, A', q1, q2, q3, q4⟩ := h
  exact ⟨r, G1, G2, A', e1.trans q1, q2, (e2 G1 q2).trans q3, q4⟩
theorem C3.congr {b : Nat} {A : AS} {f f' : Option (Int32 × gG × Nat)} {g g' : gG → Option (Int32 × gG)} (h : C3 b A f g) (e1 : f' = f) (e2 : ∀ G', MX G' (b + 9) A → g' G' = g G') : C3 b A f' g' := by
  obtain ⟨r, G1, n1, G2, A', q1, q2, q3, q4⟩ := h
  exact ⟨r, G1, n1, G2, A', e1.trans q1, q2, (e2 G1 q2).trans q3, q4⟩
theorem WF.own {A : AS} (w : WF A) {st : Int32} (hs : st = 0 ∨ st = 1) (mis fai pla : Int32) : WF (A.own st mis fai pla) := ⟨w.n16, hs, w.ln, w.rk3, w.e60, w.e1, w.gn, w.sz, w.vl⟩
section FIN
variable {G G1 G2 : gG} {b n : Nat} {A A' : AS} {sr : Nat} {se : Nat → Nat} {row : Nat → Int64} {asd : Nat → Int64} {spr : Nat → Int32} {sd ss f15 f16 : Int32}
theorem fin2 {α : Type} {f : Option (α × gG)} {g : gG → Option (α × gG)} {r : α} (w' : WF A') (e1 : f = some (r, G1)) (m1 : MR G1 (b + 9) A asd spr sd ss f15 f16) (c : CR G1 b A' sr se row) (e2 : g G1 = some (r, G2)) {asd' : Nat → Int64} {spr' : Nat → Int32} {sd' ss' f15' f16' : Int32} (m2 : MR G2 (b + 9) A' asd' spr' sd' ss' f15' f16') (fm : FM G1 G2 b) (hn : n = b + 18 + 4 * A'.N) : C2 b n A f g :=
  ⟨r, G1, G2, A', e1, ⟨_, _, _, _, _, _, m1⟩, e2, w', hn, ⟨sr, se, row, c.frame fm⟩, ⟨_, _, _, _, _, _, m2⟩⟩
theorem fin3 {f : Option (Int32 × gG × Nat)} {g : gG → Option (Int32 × gG)} {r : Int32} {n1 : Nat} (w' : WF A') (e1 : f = some (r, G1, n1)) (m1 : MR G1 (b + 9) A asd spr sd ss f15 f16) (c : CR G1 b A' sr se row) (e2 : g G1 = some (r, G2)) {asd' : Nat → Int64} {spr' : Nat → Int32} {sd' ss' f15' f16' : Int32} (m2 : MR G2 (b + 9) A' asd' spr' sd' ss' f15' f16') (fm : FM G1 G2 b) (hn : n1 = b + 18 + 4 * A'.N) : C3 b A f g :=
  ⟨r, G1, n1, G2, A', e1, ⟨_, _, _, _, _, _, m1⟩, e2, w', hn, ⟨sr, se, row, c.frame fm⟩, ⟨_, _, _, _, _, _, m2⟩⟩
/-- both as they were -/
theorem same2 {α : Type} {f : Option (α × gG)} {g : gG → Option (α × gG)} {r : α} (w : WF A) (c : CR G b A sr se row) (m : MR G (b + 9) A asd spr sd ss f15 f16) (hn : n = b + 18 + 4 * A.N) (e1 : f = some (r, G)) (e2 : g G = some (r, G)) : C2 b n A f g := fin2 w e1 m c e2 m (FM.refl _ _) hn
theorem same3 {f : Option (Int32 × gG × Nat)} {g : gG → Option (Int32 × gG)} {r : Int32} (w : WF A) (c : CR G b A sr se row) (m : MR G (b + 9) A asd spr sd ss f15 f16) (hn : n = b + 18 + 4 * A.N) (e1 : f = some (r, G, n)) (e2 : g G = some (r, G)) : C3 b A f g := fin3 w e1 m c e2 m (FM.refl _ _) hn
/-- both fail -/
theorem fail2 {f : Option (Int32 × gG)} {g : gG → Option (Int32 × gG)} (w : WF A) (c : CR G b A sr se row) (m : MR G (b + 9) A asd spr sd ss f15 f16) (hn : n = b + 18 + 4 * A.N) (k p : Int32) (e1 : f = gb2 (f_X5_failed G b k p) fun r G' => some (r, G')) (e2 : ∀ G', MR G' (b + 9) A asd spr sd ss f15 f16 → g G' = gb2 (f_X6_fails G' (b + 9) k p) fun r G'' => some (r, G'')) : C2 b n A f g := by
  obtain ⟨G1, q1, q2, q3⟩ := c.fail k p
  have m1 := m.frame q3
  obtain ⟨G2, r1, r2, r3⟩ := m1.fail (b := b) rfl k p
  refine fin2 (w.own w.st _ _ _) (by rw [e1, q1, gb2_some]) m1 q2 ?_ r2 r3 hn
  rw [e2 G1 m1, r1, gb2_some]
theorem fail3 {f : Option (Int32 × gG × Nat)} {g : gG → Option (Int32 × gG)} (w : WF A) (c : CR G b A sr se row) (m : MR G (b + 9) A asd spr sd ss f15 f16) (hn : n = b + 18 + 4 * A.N) (k p : Int32) (e1 : f = gb2 (f_X5_failed G b k p) fun r G' => some (r, G', n)) (e2 : ∀ G', MR G' (b + 9) A asd spr sd ss f15 f16 → g G' = gb2 (f_X6_fails G' (b + 9) k p) fun r G'' => some (r, G'')) : C3 b A f g := by
  obtain ⟨G1, q1, q2, q3⟩ := c.fail k p
  have m1 := m.frame q3
  obtain ⟨G2, r1, r2, r3⟩ := m1.fail (b := b) rfl k p
  refine fin3 (w.own w.st _ _ _) (by rw [e1, q1, gb2_some]) m1 q2 ?_ r2 r3 hn
  rw [e2 G1 m1, r1, gb2_some]
end FIN
theorem CR.addc {G : gG} {b : Nat} {A : AS} {l : Int32} {r : Nat} {e : Nat → Nat} {it it' : Nat → Int64} {sr : Nat} {se : Nat → Nat} {row : Nat → Int64} (h : CR G b (A.add l r e it) sr se row) (q : ∀ j, j < sz3 e → it j = it' j) : CR G b (A.add l r e it') sr se row := by
  refine ⟨h.o, h.t, h.a, h.s, h.e, h.w, fun i hi => ?_⟩
  have T := h.c i hi
  rw [add_lane, add_rk, add_ex, add_gone, add_it] at T ⊢
  by_cases z : i = A.N
  · rw [z, fset_s, fset_s, fset_s, fset_s, fset_s] at T ⊢
    exact ⟨T.o, T.s, T.e, T.i.congr q⟩
  · rw [fset_n z, fset_n z, fset_n z, fset_n z, fset_n z] at T ⊢
    exact T
theorem MR.addc {G : gG} {m : Nat} {A : AS} {l : Int32} {r : Nat} {e : Nat → Nat} {it it' : Nat → Int64} {asd : Nat → Int64} {spr : Nat → Int32} {sd ss f15 f16 : Int32} (h : MR G m (A.add l r e it) asd spr sd ss f15 f16) (q : ∀ j, j < sz3 e → it j = it' j) : MR G m (A.add l r e it') asd spr sd ss f15 f16 := by
  obtain ⟨L1, L2, L3, L4, L5, L6, H, T⟩ := h.mh
  refine MH.mr (A := A.add l r e it') H ⟨T.l1, T.l2, T.l3, T.l4, T.l5, ?_, T.g0⟩
  have T6 := T.l6
  rw [add_N, add_ex, add_it] at T6 ⊢
  intro i hi
  have t := T6 i hi
  by_cases z : i = A.N
  · rw [z, fset_s, fset_s] at t ⊢
    intro j hj
    rw [t j hj, q j hj]
  · rw [fset_n z, fset_n z] at t ⊢
    exact t
/-! Rows of zeros. -/
theorem zeros_loop {b : Nat} {A : AS} {sr : Nat} {se : Nat → Nat} {l : Int32} {n : Nat} : ∀ (k j fu : Nat) (G : gG) (row : Nat → Int64), j + k = 240 → CR G b A sr se row → (∀ x, x < j → row x = 0) →
    ∃ G', f_X5_madeOfZeros_2 (fu + k + 1) G n b l (nI j) = (gb3 (f_X5_madeOfRow G' n b l) fun r G4 n5 => some (r, G4, n5)) ∧ CR G' b A sr se (fun _ => 0) ∧ FC G G' b := by
  intro k
  induction k with
  | zero =>
    intro j fu G row hk h hz
    have : j = 240 := by omega
    subst this
    have c : nI 240 ≤ nI 240 := (nI_leI (by omega) (by omega)).mpr (Nat.le_refl _)
    refine ⟨G, ?_, h.weq hz, FC.refl _ _⟩
    rw [Nat.add_zero, f_X5_madeOfZeros_2, cf_3 h.o, gb_some, h.w.len, gb_some, if_pos c, gck_true (cf_o h.o)]
  | succ k ih =>
    intro j fu G row hk h hz
    have c : nI 240 ≤ nI j ↔ 240 ≤ j := nI_leI (by omega) (by omega)
    obtain ⟨c8, a1, a2⟩ := h.w.ls (i := j) (by omega) (by omega) 0
    obtain ⟨G', q1, q2, q3⟩ := ih (j + 1) fu _ _ (by omega) (h.row a2) (fun x hx => by
      by_cases z : x = j
      · rw [z, fset_s]
      · rw [fset_n z]; exact hz x (by omega))
    refine ⟨G', ?_, q2, (FC.up (by omega)).trans q3⟩
    rw [← q1, show fu + (k + 1) + 1 = (fu + k + 1) + 1 by omega, f_X5_madeOfZeros_2, cf_3 h.o, gb_some, h.w.len, gb_some, ifn c (by omega), gb_some, a1, gb_some]
    simp only [gl]
    rw [nI_1]
theorem CR.zeros {G : gG} {b : Nat} {A : AS} {sr : Nat} {se : Nat → Nat} {row : Nat → Int64} (h : CR G b A sr se row) (hN : A.N < 16) (hz : sz3 se ≤ 240) (l : Int32) :
    ∃ G', f_X5_madeOfZeros G (b + 18 + 4 * A.N) b l = some (nI A.N, G', b + 18 + 4 * (A.N + 1)) ∧ CR G' b (A.add l sr se (fun _ => 0)) sr se (fun _ => 0) ∧ FC G G' b := by
  obtain ⟨fu, hfu⟩ : ∃ fu : Nat, 5000 = fu + 240 + 1 := ⟨4759, rfl⟩
  obtain ⟨G1, q1, q2, q3⟩ := zeros_loop (l := l) (n := b + 18 + 4 * A.N) 240 0 fu G row (by omega) h (fun x hx => by omega)
  obtain ⟨G2, r1, r2, r3⟩ := q2.made hN hz l
  refine ⟨G2, ?_, r2, q3.trans r3⟩
  unfold f_X5_madeOfZeros
  rw [hfu, show (0 : Int32) = nI 0 from rfl, q1, r1, gb3_some]
theorem val_z {l : Int32} (h : LN l) : VAL l 0 := by
  rcases h with rfl | rfl | rfl | rfl | rfl | rfl
  · unfold VAL; rw [kept_0]; decide
  · unfold VAL; rw [kept_1]; decide
  · unfold VAL; rw [kept_2]; decide
  · unfold VAL; rw [kept_3]
  · exact val_sgF (n := 0) (Or.inl rfl) (F := 0) (by omega)
  · exact val_sgD (n := 0) (Or.inl rfl) (D := 0) (by omega)
theorem call_tensor {G : gG} {b n : Nat} {A : AS} (h : REL G b n A) (a : Int32) : C3 b A (f_X5_tensor G n b a) (fun G' => f_X6_tensor G' (b + 9) a) := by
  obtain ⟨w, rfl, ⟨sr, se, row, c⟩, ⟨asd, spr, sd, ss, f15, f16, m⟩⟩ := h
  unfold f_X5_tensor f_X6_tensor
  rcases lane_cs a with ⟨hl, l1, l2⟩ | ⟨l1, l2⟩
  · rw [l1, if_neg (by decide), gck_true (cf_o c.o), full_ok c w, gb_some]
    by_cases hN : A.N = 16
    · refine same3 (r := -2) w c m rfl (by rw [if_pos hN, if_neg (by decide)]) ?_
      rw [l2, if_neg (by decide), mo_0 m.o, gb_some, ifp (full_I w) hN]
    · have h16 := w.n16
      rw [if_neg hN, if_pos rfl, cf_2 c.o, gb_some, gck_true (so_o c.s)]
      obtain ⟨G1, q1, q2, q3⟩ := c.sfl 0 1 1 1
      have q1 : f_X3_setFromLast G (b + 6) 0 1 1 1 = some G1 := q1
      have e1 : f_X3_setFromFirst G (b + 6) (-3) (-3) (-3) = some G1 := by
        unfold f_X3_setFromFirst
        rw [if_pos rfl, gck_true (so_o c.s), q1, gb_some]
      obtain ⟨G2, r1, r2, r3⟩ := q2.zeros (by omega) (by decide) a
      have m2 := m.frame (q3.trans r3)
      have m3 := m2.scr 0 1 f15 f16
      obtain ⟨ca, a1, a2⟩ := m3.w.ls (i := 0) (by omega) (by omega) 0
      have m4 := m3.asd a2
      obtain ⟨G5, s1, s2, s3⟩ := m4.made (b := b) rfl w (by omega) (se := mk3 1 1 1) (sr := 0) (fun j hj => by omega) rfl rfl (by omega) (by decide) a
      have a1 : g_ls (g_up G2 (b + 9) (mob (b + 9) (nI A.N) A.set A.mis A.fai A.pla 0 1 f15 f16)) (b + 9 + 7) 0 0 = _ := a1
      refine fin3 (r := nI A.N) (n1 := b + 18 + 4 * (A.N + 1)) (A' := A.add a 0 (mk3 1 1 1) (fun _ => 0)) (w.add (by omega) hl (by omega) (fun j hj => ?_) (fun j _ hj => ?_) (by decide) (fun j _ => val_z hl)) ?_ m2 r2 ?_ (s2.addc (fun j hj => ?_)) (((FM.up (by omega)).trans (FM.up (by omega))).trans s3) rfl
      · rcases lt3 hj with rfl | rfl | rfl <;> decide
      · rcases lt3 hj with rfl | rfl | rfl <;> rfl
      · rw [e1, gb_some, gck_true (cf_o q2.o), r1, gb3_some]
      · show (if f_X6_in (Int32.toInt64 a) 0 5 = 0 then _ else _) = _
        rw [l2, if_neg (by decide), mo_0 m2.o, gb_some, ifn (full_I w) hN, ms_13 m2.o, gb_some, ms_14 (g_up_same _ _ _), gb_some, g_up_up, mo_7 m3.o, gb_some, a1, gb_some, gck_true (mo_o m4.o), s1, gb2_some]
      · have : sz3 (mk3 1 1 1) = 1 := by decide
        have : j = 0 := by omega
        rw [this, fset_s]
  · rw [l1, if_pos rfl]
    exact same3 (r := -1) w c m rfl rfl (by rw [l2, if_pos rfl])
