/-! The two sides as they are made, and the law. -/
def A0 : AS := mkA 0 (fun _ => 0) (fun _ => 0) (fun _ _ => 0) (fun _ => 0) (fun _ _ => 0) 0 0 0 (-3)
theorem wf0 : WF A0 := ⟨Nat.zero_le _, Or.inl rfl, fun i h => absurd h (Nat.not_lt_zero i), fun i h => absurd h (Nat.not_lt_zero i), fun i h => absurd h (Nat.not_lt_zero i), fun i h => absurd h (Nat.not_lt_zero i), fun i h => absurd h (Nat.not_lt_zero i), fun i h => absurd h (Nat.not_lt_zero i), fun i h => absurd h (Nat.not_lt_zero i)⟩
theorem st_ok {G : gG} {a ci k : Nat} {fs : List Value} {v : Value} (h : G a = some (.inl (ci, fs))) (hk : k < fs.length) : g_st G a ci k v = some (g_up G a (.inl (ci, fs.set k v))) := by
  simp [g_st, h, hk]
/-- a new cell, and a field that names it -/
theorem al {H : gG} {m a ci k : Nat} {fs : List Value} {c : gC} (h : H m = some (.inl (ci, fs))) (hk : k < fs.length) (hne : ¬ m = a) : ∃ H', g_sA (g_up H a c) m ci k a = some H' ∧ H' m = some (.inl (ci, fs.set k (.ref a))) ∧ H' a = some c ∧ ∀ x, ¬ x = m → ¬ x = a → H' x = H x := by
  refine ⟨_, st_ok (fs := fs) (by rw [g_up_ne hne]; exact h) hk, g_up_same _ _ _, ?_, fun x q1 q2 => ?_⟩
  · rw [g_up_ne (fun q => hne q.symm), g_up_same]
  · rw [g_up_ne q1, g_up_ne q2]
/-- a field set -/
theorem fs_ok {H : gG} {m ci k : Nat} {fs : List Value} {v : Value} (h : H m = some (.inl (ci, fs))) (hk : k < fs.length) : ∃ H', g_st H m ci k v = some H' ∧ H' m = some (.inl (ci, fs.set k v)) ∧ ∀ x, ¬ x = m → H' x = H x :=
  ⟨_, st_ok h hk, g_up_same _ _ _, fun x q => g_up_ne q⟩
theorem x2init {G : gG} {a : Nat} (h : G a = some (.inl (1, [.int 0, .int 0, .long 0, .int 0]))) : f_X2_init G a = some G := by
  have e1 : g_sI G a 1 0 0 = some G := (st_ok h (Nat.le_of_ble_eq_true rfl)).trans (congrArg some (g_up_id h))
  have e2 : g_sZ G a 1 1 0 = some G := by
    unfold g_sZ
    rw [if_pos (Or.inl rfl)]
    exact (st_ok h (Nat.le_of_ble_eq_true rfl)).trans (congrArg some (g_up_id h))
  have e3 : g_sL G a 1 2 0 = some G := (st_ok h (Nat.le_of_ble_eq_true rfl)).trans (congrArg some (g_up_id h))
  have e4 : g_sI G a 1 3 0 = some G := (st_ok h (Nat.le_of_ble_eq_true rfl)).trans (congrArg some (g_up_id h))
  unfold f_X2_init
  rw [e1, gb_some, e2, gb_some, e3, gb_some, e4, gb_some]
theorem x0init {G : gG} {a t : Nat} (h : G t = some (.inl (0, [.null, .null, .null]))) (ht : t < a) : ∃ G', f_X0_init G a t = some (G', a + 3) ∧ AR G' t a (a + 1) (a + 2) ∧ ∀ x, x < a → ¬ x = t → G' x = G x := by
  obtain ⟨H1, p1, p2, p3, p4⟩ := al (c := .inl (1, [.int 0, .int 0, .long 0, .int 0])) (a := a) (k := 0) h (Nat.le_of_ble_eq_true rfl) (by omega)
  obtain ⟨H2, q1, q2, q3, q4⟩ := al (c := .inl (1, [.int 0, .int 0, .long 0, .int 0])) (a := a + 1) (k := 1) p2 (Nat.le_of_ble_eq_true rfl) (by omega)
  obtain ⟨H3, r1, r2, r3, r4⟩ := al (c := .inl (1, [.int 0, .int 0, .long 0, .int 0])) (a := a + 2) (k := 2) q2 (Nat.le_of_ble_eq_true rfl) (by omega)
  have isr : isR (.inl (1, [.int 0, .int 0, .long 0, .int 0])) := ⟨_, _, _, _, rfl⟩
  refine ⟨H3, ?_, ⟨r2, ⟨_, ?_, isr⟩, ⟨_, ?_, isr⟩, ⟨_, r3, isr⟩, by omega, by omega, by omega, by omega, by omega, by omega⟩, fun x h1 h2 => ?_⟩
  · have key : f_X0_init G a t = gb (f_X2_init (g_up G a (.inl (1, [.int 0, .int 0, .long 0, .int 0]))) a) fun G2 => gb (g_sA G2 t 0 0 a) fun G3 => gb (f_X2_init (g_up G3 (a + 1) (.inl (1, [.int 0, .int 0, .long 0, .int 0]))) (a + 1)) fun G5 => gb (g_sA G5 t 0 1 (a + 1)) fun G6 => gb (f_X2_init (g_up G6 (a + 2) (.inl (1, [.int 0, .int 0, .long 0, .int 0]))) (a + 2)) fun G8 => gb (g_sA G8 t 0 2 (a + 2)) fun G9 => some (G9, a + 3) := rfl
    rw [key, x2init (g_up_same _ _ _), gb_some, p1, gb_some, x2init (g_up_same _ _ _), gb_some, q1, gb_some, x2init (g_up_same _ _ _), gb_some, r1, gb_some]
  · rw [r4 a (by omega) (by omega), q4 a (by omega) (by omega), p3]
  · rw [r4 (a + 1) (by omega) (by omega), q3]
  · rw [r4 x h2 (by omega), q4 x h2 (by omega), p4 x h2 (by omega)]
theorem x5init {G : gG} {b : Nat} (h : G b = some (.inl (4, [.null, .null, .null, .null, .int 0, .int 0, .int 0, .int 0, .int 0]))) : ∃ G', f_X5_init G (b + 1) b = some (G', b + 9) ∧ CR G' b A0 0 (fun _ => 1) (fun _ => 0) := by
  obtain ⟨H1, p1, p2, p3, p4⟩ := al (c := .inr (.inr (.inr (.inr (16, fun _ => none))))) (a := b + 1) (k := 0) h (Nat.le_of_ble_eq_true rfl) (by omega)
  obtain ⟨H2, q1, q2, q3⟩ := x0init (G := g_up H1 (b + 2) (.inl (0, [.null, .null, .null]))) (a := b + 3) (t := b + 2) (g_up_same _ _ _) (by omega)
  have q4 := ((q3 b (by omega) (by omega)).trans (g_up_ne (by omega))).trans p2
  obtain ⟨H3, r1, r2, r3⟩ := fs_ok (k := 1) (v := .ref (b + 2)) q4 (Nat.le_of_ble_eq_true rfl)
  obtain ⟨H4, s1, s2, s3⟩ := x3init (G := g_up H3 (b + 6) (.inl (2, [.int 0, .null]))) (s := b + 6) (a := b + 7) (g_up_same _ _ _) (by omega)
  have s4 := ((s3 b (by omega) (by omega)).trans (g_up_ne (by omega))).trans r2
  obtain ⟨H5, t1, t2, t3⟩ := fs_ok (k := 2) (v := .ref (b + 6)) s4 (Nat.le_of_ble_eq_true rfl)
  obtain ⟨H6, u1, u2, u3, u4⟩ := al (c := .inr (.inr (.inl (240, fun _ => 0)))) (a := b + 8) (k := 3) t2 (Nat.le_of_ble_eq_true rfl) (by omega)
  obtain ⟨H7, v1, v2, v3⟩ := fs_ok (k := 4) (v := .int 0) u2 (Nat.le_of_ble_eq_true rfl)
  obtain ⟨H8, w1, w2, w3⟩ := fs_ok (k := 5) (v := .int 0) v2 (Nat.le_of_ble_eq_true rfl)
  obtain ⟨H9, x1, x2, x3⟩ := fs_ok (k := 6) (v := .int 0) w2 (Nat.le_of_ble_eq_true rfl)
  obtain ⟨Ha, y1, y2, y3⟩ := fs_ok (k := 7) (v := .int 0) x2 (Nat.le_of_ble_eq_true rfl)
  obtain ⟨Hb, z1, z2, z3⟩ := fs_ok (k := 8) (v := .int (-3)) y2 (Nat.le_of_ble_eq_true rfl)
  have late : ∀ x, ¬ x = b → ¬ x = b + 8 → Hb x = H4 x := fun x i1 i2 => by
    rw [z3 x i1, y3 x i1, x3 x i1, w3 x i1, v3 x i1, u4 x i1 i2, t3 x i1]
  have mid : ∀ x, ¬ x = b → x < b + 6 → Hb x = H2 x := fun x i1 i2 => by
    rw [late x i1 (by omega), s3 x (by omega) (by omega), g_up_ne (by omega), r3 x i1]
  have e8 : Hb (b + 8) = some (.inr (.inr (.inl (240, fun _ => 0)))) := by
    rw [z3 _ (by omega), y3 _ (by omega), x3 _ (by omega), w3 _ (by omega), v3 _ (by omega), u3]
  have e1 : Hb (b + 1) = some (.inr (.inr (.inr (.inr (16, fun _ => none))))) := by
    rw [mid _ (by omega) (by omega), q3 _ (by omega) (by omega), g_up_ne (by omega), p3]
  obtain ⟨a1, a2, a3, a4, a5⟩ := q2
  refine ⟨Hb, ?_, ⟨z2, ?_, ⟨?_, ?_, ?_, ?_, a5⟩, ?_, ?_, ?_, fun i hi => absurd hi (Nat.not_lt_zero i)⟩⟩
  · have key : f_X5_init G (b + 1) b = gb (g_sA (g_up G (b + 1) (.inr (.inr (.inr (.inr (16, fun _ => none)))))) b 4 0 (b + 1)) fun G2 => gb2 (f_X0_init (g_up G2 (b + 2) (.inl (0, [.null, .null, .null]))) (b + 3) (b + 2)) fun G4 n5 => gb (g_st G4 b 4 1 (.ref (b + 2))) fun G6 => gb2 (f_X3_init (g_up G6 n5 (.inl (2, [.int 0, .null]))) (n5 + 1) n5) fun G8 n9 => gb (g_st G8 b 4 2 (.ref n5)) fun G10 => gb (g_sA (g_up G10 n9 (.inr (.inr (.inl (240, fun _ => 0))))) b 4 3 n9) fun G12 => gb (g_st G12 b 4 4 (.int 0)) fun G13 => gb (g_st G13 b 4 5 (.int 0)) fun G14 => gb (g_st G14 b 4 6 (.int 0)) fun G15 => gb (g_st G15 b 4 7 (.int 0)) fun G16 => gb (g_st G16 b 4 8 (.int (-3))) fun G17 => some (G17, n9 + 1) := rfl
    rw [key, p1, gb_some, q1, gb2_some, r1, gb_some]
    show gb2 (f_X3_init (g_up H3 (b + 6) (.inl (2, [.int 0, .null]))) (b + 7) (b + 6)) _ = _
    rw [s1, gb2_some]
    show gb (g_st H4 b 4 2 (.ref (b + 6))) _ = _
    rw [t1, gb_some]
    show gb (g_sA (g_up H5 (b + 8) (.inr (.inr (.inl (240, fun _ => 0))))) b 4 3 (b + 8)) _ = _
    rw [u1, gb_some, v1, gb_some, w1, gb_some, x1, gb_some, y1, gb_some, z1, gb_some]
  · exact ⟨_, e1, _, rfl, fun j hj => (if_neg (Nat.not_lt_zero j)).symm⟩
  · rw [mid _ (by omega) (by omega)]; exact a1
  · rw [mid _ (by omega) (by omega)]; exact a2
  · rw [mid _ (by omega) (by omega)]; exact a3
  · rw [mid _ (by omega) (by omega)]; exact a4
  · rw [late _ (by omega) (by omega)]; exact s2.1
  · exact s2.2.frame (late _ (by omega) (by omega))
  · exact ⟨_, e8, _, rfl, fun _ _ => rfl⟩
theorem x6init {G : gG} {m : Nat} (h : G m = some (.inl (5, [.int 0, .null, .null, .null, .null, .null, .null, .null, .int 0, .int 0, .int 0, .int 0, .null, .int 0, .int 0, .int 0, .int 0]))) : ∃ G', f_X6_init G (m + 1) m = some (G', m + 9) ∧ MR G' m A0 (fun _ => 0) (fun _ => 0) 0 0 0 0 ∧ ∀ x, x < m → G' x = G x := by
  obtain ⟨H0, a0, b0, c0, d0⟩ := al (c := .inr (.inl (16, fun _ => 0))) (a := m + 1) (k := 1) h (Nat.le_of_ble_eq_true rfl) (by omega)
  obtain ⟨H1, a1, b1, c1, d1⟩ := al (c := .inr (.inl (16, fun _ => 0))) (a := m + 2) (k := 2) b0 (Nat.le_of_ble_eq_true rfl) (by omega)
  obtain ⟨H2, a2, b2, c2, d2⟩ := al (c := .inr (.inl (48, fun _ => 0))) (a := m + 3) (k := 3) b1 (Nat.le_of_ble_eq_true rfl) (by omega)
  obtain ⟨H3, a3, b3, c3, d3⟩ := al (c := .inr (.inl (16, fun _ => 0))) (a := m + 4) (k := 4) b2 (Nat.le_of_ble_eq_true rfl) (by omega)
  obtain ⟨H4, a4, b4, c4, d4⟩ := al (c := .inr (.inr (.inr (.inl (16, fun _ => 0))))) (a := m + 5) (k := 5) b3 (Nat.le_of_ble_eq_true rfl) (by omega)
  obtain ⟨H5, a5, b5, c5, d5⟩ := al (c := .inr (.inr (.inl (3840, fun _ => 0)))) (a := m + 6) (k := 6) b4 (Nat.le_of_ble_eq_true rfl) (by omega)
  obtain ⟨H6, a6, b6, c6, d6⟩ := al (c := .inr (.inr (.inl (240, fun _ => 0)))) (a := m + 7) (k := 7) b5 (Nat.le_of_ble_eq_true rfl) (by omega)
  obtain ⟨H7, a7, b7, d7⟩ := fs_ok (k := 11) (v := .int (-3)) b6 (Nat.le_of_ble_eq_true rfl)
  obtain ⟨H8, a8, b8, c8, d8⟩ := al (c := .inr (.inl (3, fun _ => 0))) (a := m + 8) (k := 12) b7 (Nat.le_of_ble_eq_true rfl) (by omega)
  have g1 : H8 (m + 1) = some (.inr (.inl (16, fun _ => 0))) := by rw [d8 _ (by omega) (by omega), d7 _ (by omega), d6 _ (by omega) (by omega), d5 _ (by omega) (by omega), d4 _ (by omega) (by omega), d3 _ (by omega) (by omega), d2 _ (by omega) (by omega), d1 _ (by omega) (by omega), c0]
  have g2 : H8 (m + 2) = some (.inr (.inl (16, fun _ => 0))) := by rw [d8 _ (by omega) (by omega), d7 _ (by omega), d6 _ (by omega) (by omega), d5 _ (by omega) (by omega), d4 _ (by omega) (by omega), d3 _ (by omega) (by omega), d2 _ (by omega) (by omega), c1]
  have g3 : H8 (m + 3) = some (.inr (.inl (48, fun _ => 0))) := by rw [d8 _ (by omega) (by omega), d7 _ (by omega), d6 _ (by omega) (by omega), d5 _ (by omega) (by omega), d4 _ (by omega) (by omega), d3 _ (by omega) (by omega), c2]
  have g4 : H8 (m + 4) = some (.inr (.inl (16, fun _ => 0))) := by rw [d8 _ (by omega) (by omega), d7 _ (by omega), d6 _ (by omega) (by omega), d5 _ (by omega) (by omega), d4 _ (by omega) (by omega), c3]
  have g5 : H8 (m + 5) = some (.inr (.inr (.inr (.inl (16, fun _ => 0))))) := by rw [d8 _ (by omega) (by omega), d7 _ (by omega), d6 _ (by omega) (by omega), d5 _ (by omega) (by omega), c4]
  have g6 : H8 (m + 6) = some (.inr (.inr (.inl (3840, fun _ => 0)))) := by rw [d8 _ (by omega) (by omega), d7 _ (by omega), d6 _ (by omega) (by omega), c5]
  have g7 : H8 (m + 7) = some (.inr (.inr (.inl (240, fun _ => 0)))) := by rw [d8 _ (by omega) (by omega), d7 _ (by omega), c6]
  have g8 : H8 (m + 8) = some (.inr (.inl (3, fun _ => 0))) := c8
  refine ⟨H8, ?_, ⟨b8, ⟨fun _ => 0, fun _ => 0, fun _ => 0, fun _ => 0, fun _ => 0, fun _ => 0, ⟨_, g1, _, rfl, fun _ _ => rfl⟩, ⟨_, g2, _, rfl, fun _ _ => rfl⟩, ⟨_, g3, _, rfl, fun _ _ => rfl⟩, ⟨_, g4, _, rfl, fun _ _ => rfl⟩, ⟨_, g5, _, rfl, fun _ _ => rfl⟩, ⟨_, g6, _, rfl, fun _ _ => rfl⟩, fun i hi => absurd hi (Nat.not_lt_zero i), fun i hi => absurd hi (Nat.not_lt_zero i), fun i hi => absurd hi (Nat.not_lt_zero i), fun i hi => absurd hi (Nat.not_lt_zero i), fun i hi => absurd hi (Nat.not_lt_zero i), fun i hi => absurd hi (Nat.not_lt_zero i), fun _ _ _ => rfl⟩, ⟨_, g7, _, rfl, fun _ _ => rfl⟩, ⟨_, g8, _, rfl, fun _ _ => rfl⟩⟩, fun x hx => ?_⟩
  · have key : f_X6_init G (m + 1) m = gb (g_sA (g_up G (m + 1) (.inr (.inl (16, fun _ => 0)))) m 5 1 (m + 1)) fun H0 => gb (g_sA (g_up H0 (m + 2) (.inr (.inl (16, fun _ => 0)))) m 5 2 (m + 2)) fun H1 => gb (g_sA (g_up H1 (m + 3) (.inr (.inl (48, fun _ => 0)))) m 5 3 (m + 3)) fun H2 => gb (g_sA (g_up H2 (m + 4) (.inr (.inl (16, fun _ => 0)))) m 5 4 (m + 4)) fun H3 => gb (g_sA (g_up H3 (m + 5) (.inr (.inr (.inr (.inl (16, fun _ => 0)))))) m 5 5 (m + 5)) fun H4 => gb (g_sA (g_up H4 (m + 6) (.inr (.inr (.inl (3840, fun _ => 0))))) m 5 6 (m + 6)) fun H5 => gb (g_sA (g_up H5 (m + 7) (.inr (.inr (.inl (240, fun _ => 0))))) m 5 7 (m + 7)) fun H6 => gb (g_st H6 m 5 11 (.int (-3))) fun H7 => gb (g_sA (g_up H7 (m + 8) (.inr (.inl (3, fun _ => 0)))) m 5 12 (m + 8)) fun H8 => some (H8, m + 9) := rfl
    rw [key, a0, gb_some, a1, gb_some, a2, gb_some, a3, gb_some, a4, gb_some, a5, gb_some, a6, gb_some, a7, gb_some, a8, gb_some]
  · rw [d8 x (by omega) (by omega), d7 x (by omega), d6 x (by omega) (by omega), d5 x (by omega) (by omega), d4 x (by omega) (by omega), d3 x (by omega) (by omega), d2 x (by omega) (by omega), d1 x (by omega) (by omega), d0 x (by omega) (by omega)]
theorem pure_holds : Pure := by
  intro xs L n hL
  obtain ⟨G1, p1, p2⟩ := x5init (G := g_up (fun _ => none) n (.inl (4, [.null, .null, .null, .null, .int 0, .int 0, .int 0, .int 0, .int 0]))) (b := n) (g_up_same _ _ _)
  obtain ⟨G2, q1, q2, q3⟩ := x6init (G := g_up G1 (n + 9) (.inl (5, [.int 0, .null, .null, .null, .null, .null, .null, .null, .int 0, .int 0, .int 0, .int 0, .null, .int 0, .int 0, .int 0, .int 0]))) (m := n + 9) (g_up_same _ _ _)
  have fr : ∀ x, x < n + 9 → G2 x = G1 x := fun x hx => by rw [q3 x hx, g_up_ne (by omega)]
  obtain ⟨a1, a2, ⟨b1, b2, b3, b4, b5⟩, a4, a5, a6, a7⟩ := p2
  have R : REL G2 n (n + 18) A0 := by
    refine ⟨wf0, rfl, ⟨0, fun _ => 1, fun _ => 0, ?_, ?_, ⟨?_, ?_, ?_, ?_, b5⟩, ?_, ?_, ?_, fun i hi => absurd hi (Nat.not_lt_zero i)⟩, ⟨_, _, _, _, _, _, q2⟩⟩
    · rw [fr _ (by omega)]; exact a1
    · obtain ⟨c, h1, h2⟩ := a2
      exact ⟨c, by rw [fr _ (by omega)]; exact h1, h2⟩
    · rw [fr _ (by omega)]; exact b1
    · rw [fr _ (by omega)]; exact b2
    · rw [fr _ (by omega)]; exact b3
    · rw [fr _ (by omega)]; exact b4
    · rw [fr _ (by omega)]; exact a4
    · exact a5.frame (fr _ (by omega))
    · exact a6.frame (fr _ (by omega))
  have key : f_L_law xs L n = gb2 (f_X5_init (g_up (fun _ => none) n (.inl (4, [.null, .null, .null, .null, .int 0, .int 0, .int 0, .int 0, .int 0]))) (n + 1) n) fun G2 n3 => gb2 (f_X6_init (g_up G2 n3 (.inl (5, [.int 0, .null, .null, .null, .null, .null, .null, .null, .int 0, .int 0, .int 0, .int 0, .null, .int 0, .int 0, .int 0, .int 0]))) (n3 + 1) n3) fun G5 n6 => f_L_law_18 xs L 600 G5 n6 n n3 0 := rfl
  rw [key, p1, gb2_some, q1, gb2_some]
  exact law_loop hL 599 0 G2 (n + 18) A0 R (by omega) (by omega)
