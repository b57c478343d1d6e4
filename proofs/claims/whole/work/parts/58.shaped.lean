/-! shaped. -/
theorem r216 {m b : Nat} {A : AS} {spr : Nat → Int32} {sd ss f15 f16 : Int32} (hm : m = b + 9) {Z : Nat} (hZ : Z ≤ 240) {l : Int32} : ∀ (k j fu : Nat) (G : gG) (asd : Nat → Int64), j + k = Z → MR G m A asd spr sd ss f15 f16 → (∀ x, x < j → asd x = 0) →
    ∃ G' asd', f_X6_shaped_216 (fu + k + 1) G m l (nI Z) (nI j) = (gb2 (f_X6_made G' m l) fun r G2 => some (r, G2)) ∧ MR G' m A asd' spr sd ss f15 f16 ∧ (∀ x, x < Z → asd' x = 0) ∧ FM G G' b := by
  intro k
  induction k with
  | zero =>
    intro j fu G asd hk h hz
    have : j = Z := by omega
    subst this
    have c : nI j ≤ nI j := (nI_leI (by omega) (by omega)).mpr (Nat.le_refl _)
    refine ⟨G, asd, ?_, h, hz, FM.refl _ _⟩
    rw [Nat.add_zero, f_X6_shaped_216, if_pos c, gck_true (mo_o h.o)]
  | succ k ih =>
    intro j fu G asd hk h hz
    have c : nI Z ≤ nI j ↔ Z ≤ j := nI_leI (by omega) (by omega)
    obtain ⟨c7, a1, a2⟩ := h.w.ls (i := j) (by omega) (by omega) 0
    obtain ⟨G', asd', q1, q2, q3, q4⟩ := ih (j + 1) fu _ _ (by omega) (h.asd a2) (fun x hx => by
      by_cases z : x = j
      · rw [z, fset_s]
      · rw [fset_n z]; exact hz x (by omega))
    refine ⟨G', asd', ?_, q2, q3, (FM.up (by omega)).trans q4⟩
    rw [← q1, show fu + (k + 1) + 1 = (fu + k + 1) + 1 by omega, f_X6_shaped_216, ifn c (by omega), mo_7 h.o, gb_some, a1, gb_some]
    simp only [gl]
    rw [nI_1]
/-- the reference, once the extents are spread -/
theorem r207 {G : gG} {m b : Nat} {A : AS} {asd : Nat → Int64} {spr : Nat → Int32} {sd ss f15 f16 : Int32} (h : MR G m A asd spr sd ss f15 f16) (hm : m = b + 9) (w : WF A) (hN : A.N < 16) {se : Nat → Nat} {sr : Nat} (hse : ∀ j, j < sr → spr j = nI (se j)) (hsd : sd = nI sr) (hr : sr ≤ 3) (hz : sz3 se ≤ 240) (l : Int32) :
    ∃ G' asd', f_X6_shaped_207 G m l (nI (sz3 se)) = some (nI A.N, G') ∧ MR G' m (A.add l sr se (fun _ => 0)) asd' spr sd (nI (sz3 se)) f15 f16 ∧ FM G G' b := by
  obtain ⟨fu, hfu⟩ : ∃ fu : Nat, 5000 = fu + sz3 se + 1 := ⟨4999 - sz3 se, by omega⟩
  have h1 := h.scr sd (nI (sz3 se)) f15 f16
  obtain ⟨G2, asd', q1, q2, q3, q4⟩ := r216 hm hz (l := l) (sz3 se) 0 fu _ _ (by omega) h1 (fun x hx => by omega)
  obtain ⟨G3, s1, s2, s3⟩ := q2.made hm w hN hse hsd rfl hr hz l
  refine ⟨G3, asd', ?_, s2.addc (fun j hj => q3 j hj), ((FM.up (by omega)).trans q4).trans s3⟩
  unfold f_X6_shaped_207
  rw [ms_14 h.o, gb_some, hfu, show (0 : Int32) = nI 0 from rfl, q1, s1, gb2_some]
/-- both, once the extents are known -/
theorem shaped_fin {G : gG} {b n : Nat} {A : AS} {sr : Nat} {se : Nat → Nat} {row : Nat → Int64} {asd : Nat → Int64} {spr : Nat → Int32} {sd ss f15 f16 : Int32} (w : WF A) (c : CR G b A sr se row) (m : MR G (b + 9) A asd spr sd ss f15 f16) (hN : A.N < 16) (hn : n = b + 18 + 4 * A.N) {l : Int32} (hl : LN l) {a2 a3 a4 : Int32} {r x0 x1 x2 : Nat} (hr : r = 1 ∨ r = 2 ∨ r = 3) (h0 : x0 ≤ 60) (h1 : x1 ≤ 60) (h2 : x2 ≤ 60) (g1 : ∀ j, r ≤ j → j < 3 → mk3 x0 x1 x2 j = 1)
    (ec : f_X3_setFromFirst G (b + 6) a2 a3 a4 = f_X3_setFromLast G (b + 6) (nI r) (nI x0) (nI x1) (nI x2))
    (er : ∀ G', MR G' (b + 9) A asd spr sd ss f15 f16 → (sz3 (mk3 x0 x1 x2) ≤ 240 → ∃ G'' spr', f_X6_shaped_92 G' (b + 9) l a2 a3 a4 = f_X6_shaped_207 G'' (b + 9) l (nI (sz3 (mk3 x0 x1 x2))) ∧ MR G'' (b + 9) A asd spr' (nI r) ss f15 f16 ∧ (∀ j, j < r → spr' j = nI (mk3 x0 x1 x2 j)) ∧ FM G' G'' b) ∧ (¬ sz3 (mk3 x0 x1 x2) ≤ 240 → f_X6_shaped_92 G' (b + 9) l a2 a3 a4 = gb2 (f_X6_fails G' (b + 9) 6 (-3)) fun r7 G8 => some (r7, G8))) :
    C3 b A (f_X5_shaped_85 G n b l a2 a3 a4) (fun G' => f_X6_shaped_92 G' (b + 9) l a2 a3 a4) := by
  obtain ⟨G1, q1, q2, q3⟩ := c.sfl r x0 x1 x2
  have hb : sz3 (mk3 x0 x1 x2) ≤ 60 * 60 * 60 := Nat.mul_le_mul (Nat.mul_le_mul h0 h1) h2
  have c240 : nI (sz3 (mk3 x0 x1 x2)) ≤ nI 240 ↔ sz3 (mk3 x0 x1 x2) ≤ 240 := nI_leI (by omega) (by omega)
  have m1 := m.frame q3
  have start : f_X5_shaped_85 G n b l a2 a3 a4 = if nI (sz3 (mk3 x0 x1 x2)) ≤ nI 240 then (gb3 (f_X5_madeOfZeros G1 n b l) fun r5 G6 n7 => some (r5, G6, n7)) else gb2 (f_X5_failed G1 b 6 (-3)) fun r8 G9 => some (r8, G9, n) := by
    unfold f_X5_shaped_85
    rw [cf_2 c.o, gb_some, gck_true (so_o c.s), ec, q1, gb_some, cf_2 q2.o, gb_some, gck_true (so_o q2.s), q2.sh.size, gb_some, gck_true (cf_o q2.o), gck_true (cf_o q2.o)]
    rfl
  rw [start]
  by_cases hz : sz3 (mk3 x0 x1 x2) ≤ 240
  · rw [ifp c240 hz]
    obtain ⟨G2, r1, r2, r3⟩ := q2.zeros hN hz l
    have m2 := m1.frame r3
    obtain ⟨G3, spr', t1, t2, t3, t4⟩ := (er G2 m2).1 hz
    obtain ⟨G4, asd', u1, u2, u3⟩ := r207 t2 (b := b) rfl w hN (se := mk3 x0 x1 x2) (sr := r) t3 rfl (by omega) hz l
    refine fin3 (r := nI A.N) (n1 := b + 18 + 4 * (A.N + 1)) (w.add hN hl (by omega) (fun j hj => ?_) g1 hz (fun j _ => val_z hl)) (by rw [hn, r1, gb3_some]) m2 r2 (t1.trans u1) u2 (t4.trans u3) rfl
    rcases lt3 hj with rfl | rfl | rfl
    · exact h0
    · exact h1
    · exact h2
  · rw [ifn c240 hz]
    exact fail3 w q2 m1 hn 6 (-3) rfl (fun G' mm => (er G' mm).2 hz)
theorem ge0_cs {a : Int32} (h : (0 : Int32) ≤ a) (h60 : ¬ (60 : Int32) < a) : ∃ x, x ≤ 60 ∧ a = nI x := by
  have hn : ¬ a < 0 := fun q => by
    rw [Int32.lt_iff_toInt_lt] at q
    rw [Int32.le_iff_toInt_le] at h
    omega
  obtain ⟨x, hx, rfl⟩ := nI_of hn
  exact ⟨x, Nat.not_lt.mp (fun q => h60 ((nI_ltI (a := 60) (by omega) hx).mpr q)), rfl⟩
theorem nI_n3 {x : Nat} (hx : x ≤ 60) : ¬ nI x = -3 := fun q => by
  have := congrArg Int32.toInt q
  rw [nI_toInt (by omega), show (-3 : Int32).toInt = -3 by decide] at this
  omega
theorem shaped_92 {G : gG} {b n : Nat} {A : AS} {sr : Nat} {se : Nat → Nat} {row : Nat → Int64} {asd : Nat → Int64} {spr : Nat → Int32} {sd ss f15 f16 : Int32} (w : WF A) (c : CR G b A sr se row) (m : MR G (b + 9) A asd spr sd ss f15 f16) (hN : A.N < 16) (hn : n = b + 18 + 4 * A.N) {l : Int32} (hl : LN l) {x : Nat} (hx : x ≤ 60) {a3 a4 : Int32} (h3 : a3 = -3 ∨ ∃ y, y ≤ 60 ∧ a3 = nI y) (h4 : a4 = -3 ∨ ∃ z, z ≤ 60 ∧ a4 = nI z) (h34 : a3 = -3 → a4 = -3) :
    C3 b A (f_X5_shaped_85 G n b l (nI x) a3 a4) (fun G' => f_X6_shaped_92 G' (b + 9) l (nI x) a3 a4) := by
  have x3 := nI_n3 hx
  rcases h3 with rfl | ⟨y, hy, rfl⟩
  · have e4 := h34 rfl
    subst e4
    refine shaped_fin w c m hN hn hl (r := 1) (x0 := x) (x1 := 1) (x2 := 1) (Or.inl rfl) hx (by omega) (by omega) (fun j h1 hj => ?_) ?_ (fun G' mm => ?_)
    · rcases lt3 hj with rfl | rfl | rfl
      · omega
      · rfl
      · rfl
    · unfold f_X3_setFromFirst
      rw [if_neg x3, if_pos rfl, gck_true (so_o c.s)]
      have : ∀ o : Option gG, (gb o fun G3 => some G3) = o := fun o => by cases o <;> rfl
      rw [this]
      rfl
    · have hs : nI x * 1 * 1 = nI (sz3 (mk3 x 1 1)) := by
        rw [show (1 : Int32) = nI 1 from rfl, pk_mul, pk_mul]; rfl
      have c240 : nI (sz3 (mk3 x 1 1)) ≤ 240 ↔ sz3 (mk3 x 1 1) ≤ 240 := nI_leI (b := 240) (by show x * 1 * 1 < _; omega) (by omega)
      have st : f_X6_shaped_92 G' (b + 9) l (nI x) (-3) (-3) = f_X6_shaped_141 G' (b + 9) l (nI x) (-3) (-3) 1 1 (nI x * 1) := by
        unfold f_X6_shaped_92 f_X6_shaped_114 f_X6_shaped_128
        rw [if_pos rfl, if_pos (by decide), if_pos (by decide)]
      rw [st]
      unfold f_X6_shaped_141
      simp only [gl]
      rw [hs]
      refine ⟨fun hz => ?_, fun hz => ?_⟩
      · have m1 := mm.scr 1 ss f15 f16
        obtain ⟨c8, a1, a2⟩ := m1.s.is (i := 0) (by omega) (by omega) (nI x)
        refine ⟨_, _, ?_, m1.spr a2, fun j hj => ?_, (FM.up (by omega)).trans (FM.up (by omega))⟩
        · have a1 : g_is (g_up G' (b + 9) (mob (b + 9) (nI A.N) A.set A.mis A.fai A.pla 1 ss f15 f16)) (b + 9 + 8) (1 - 1) (nI x) = _ := a1
          rw [ifp c240 hz, ms_13 mm.o, gb_some, mo_12 m1.o, gb_some, a1, gb_some, if_pos (by decide)]
          unfold f_X6_shaped_193
          rw [if_pos (by decide)]
        · have : j = 0 := by omega
          rw [this, fset_s]; rfl
      · rw [ifn c240 hz, gck_true (mo_o mm.o)]
  · have y3 := nI_n3 hy
    rcases h4 with rfl | ⟨z, hz', rfl⟩
    · refine shaped_fin w c m hN hn hl (r := 2) (x0 := y) (x1 := x) (x2 := 1) (Or.inr (Or.inl rfl)) hy hx (by omega) (fun j h1 hj => ?_) ?_ (fun G' mm => ?_)
      · rcases lt3 hj with rfl | rfl | rfl
        · omega
        · omega
        · rfl
      · unfold f_X3_setFromFirst
        rw [if_neg x3, if_neg y3, if_pos rfl, gck_true (so_o c.s)]
        have : ∀ o : Option gG, (gb o fun G3 => some G3) = o := fun o => by cases o <;> rfl
        rw [this]
        rfl
      · have hb : x * y ≤ 60 * 60 := Nat.mul_le_mul hx hy
        have hsz : sz3 (mk3 y x 1) = x * y := by show y * x * 1 = x * y; rw [Nat.mul_one, Nat.mul_comm]
        have hs : nI x * nI y * 1 = nI (sz3 (mk3 y x 1)) := by
          rw [show (1 : Int32) = nI 1 from rfl, pk_mul, pk_mul, hsz, Nat.mul_one]
        have c240 : nI (sz3 (mk3 y x 1)) ≤ 240 ↔ sz3 (mk3 y x 1) ≤ 240 := nI_leI (b := 240) (by omega) (by omega)
        have st : f_X6_shaped_92 G' (b + 9) l (nI x) (nI y) (-3) = f_X6_shaped_141 G' (b + 9) l (nI x) (nI y) (-3) 2 1 (nI x * nI y) := by
          unfold f_X6_shaped_92 f_X6_shaped_114 f_X6_shaped_128
          rw [if_neg y3, if_pos rfl, if_neg (by decide), if_pos (by decide)]
        rw [st]
        unfold f_X6_shaped_141
        simp only [gl]
        rw [hs]
        refine ⟨fun hz => ?_, fun hz => ?_⟩
        · have m1 := mm.scr 2 ss f15 f16
          obtain ⟨c8, a1, a2⟩ := m1.s.is (i := 1) (by omega) (by omega) (nI x)
          have m2 := m1.spr a2
          obtain ⟨c9, b1, b2⟩ := m2.s.is (i := 0) (by omega) (by omega) (nI y)
          refine ⟨_, _, ?_, m2.spr b2, fun j hj => ?_, ((FM.up (by omega)).trans (FM.up (by omega))).trans (FM.up (by omega))⟩
          · have a1 : g_is (g_up G' (b + 9) (mob (b + 9) (nI A.N) A.set A.mis A.fai A.pla 2 ss f15 f16)) (b + 9 + 8) (2 - 1) (nI x) = _ := a1
            have b1 : g_is (g_up (g_up G' (b + 9) (mob (b + 9) (nI A.N) A.set A.mis A.fai A.pla 2 ss f15 f16)) (b + 9 + 8) c8) (b + 9 + 8) (2 - 2) (nI y) = _ := b1
            rw [ifp c240 hz, ms_13 mm.o, gb_some, mo_12 m1.o, gb_some, a1, gb_some, if_neg (by decide), mo_12 m2.o, gb_some, b1, gb_some]
            unfold f_X6_shaped_193
            rw [if_pos (by decide)]
          · have : j = 0 ∨ j = 1 := by omega
            rcases this with rfl | rfl
            · rw [fset_s]; rfl
            · rw [fset_n (by omega), fset_s]; rfl
        · rw [ifn c240 hz, gck_true (mo_o mm.o)]
    · have z3 := nI_n3 hz'
      refine shaped_fin w c m hN hn hl (r := 3) (x0 := z) (x1 := y) (x2 := x) (Or.inr (Or.inr rfl)) hz' hy hx (fun j h1 hj => by omega) ?_ (fun G' mm => ?_)
      · unfold f_X3_setFromFirst
        rw [if_neg x3, if_neg y3, if_neg z3, gck_true (so_o c.s)]
        have : ∀ o : Option gG, (gb o fun G3 => some G3) = o := fun o => by cases o <;> rfl
        rw [this]
        rfl
      · have hb : x * y * z ≤ 60 * 60 * 60 := Nat.mul_le_mul (Nat.mul_le_mul hx hy) hz'
        have hsz : sz3 (mk3 z y x) = x * y * z := by show z * y * x = x * y * z; rw [Nat.mul_comm z y, Nat.mul_comm (y * z) x, Nat.mul_assoc]
        have hs : nI x * nI y * nI z = nI (sz3 (mk3 z y x)) := by rw [pk_mul, pk_mul, hsz]
        have c240 : nI (sz3 (mk3 z y x)) ≤ 240 ↔ sz3 (mk3 z y x) ≤ 240 := nI_leI (b := 240) (by omega) (by omega)
        have st : f_X6_shaped_92 G' (b + 9) l (nI x) (nI y) (nI z) = f_X6_shaped_141 G' (b + 9) l (nI x) (nI y) (nI z) 3 (nI z) (nI x * nI y) := by
          unfold f_X6_shaped_92 f_X6_shaped_114 f_X6_shaped_128
          rw [if_neg y3, if_neg z3, if_neg (by decide), if_neg (by decide)]
        rw [st]
        unfold f_X6_shaped_141
        simp only [gl]
        rw [hs]
        refine ⟨fun hz => ?_, fun hz => ?_⟩
        · have m1 := mm.scr 3 ss f15 f16
          obtain ⟨c8, a1, a2⟩ := m1.s.is (i := 2) (by omega) (by omega) (nI x)
          have m2 := m1.spr a2
          obtain ⟨c9, b1, b2⟩ := m2.s.is (i := 1) (by omega) (by omega) (nI y)
          have m3 := m2.spr b2
          obtain ⟨c10, d1, d2⟩ := m3.s.is (i := 0) (by omega) (by omega) (nI z)
          refine ⟨_, _, ?_, m3.spr d2, fun j hj => ?_, (((FM.up (by omega)).trans (FM.up (by omega))).trans (FM.up (by omega))).trans (FM.up (by omega))⟩
          · have a1 : g_is (g_up G' (b + 9) (mob (b + 9) (nI A.N) A.set A.mis A.fai A.pla 3 ss f15 f16)) (b + 9 + 8) (3 - 1) (nI x) = _ := a1
            have b1 : g_is (g_up (g_up G' (b + 9) (mob (b + 9) (nI A.N) A.set A.mis A.fai A.pla 3 ss f15 f16)) (b + 9 + 8) c8) (b + 9 + 8) (3 - 2) (nI y) = _ := b1
            have d1 : g_is (g_up (g_up (g_up G' (b + 9) (mob (b + 9) (nI A.N) A.set A.mis A.fai A.pla 3 ss f15 f16)) (b + 9 + 8) c8) (b + 9 + 8) c9) (b + 9 + 8) 0 (nI z) = _ := d1
            rw [ifp c240 hz, ms_13 mm.o, gb_some, mo_12 m1.o, gb_some, a1, gb_some, if_neg (by decide), mo_12 m2.o, gb_some, b1, gb_some]
            unfold f_X6_shaped_193
            rw [if_neg (by decide), mo_12 m3.o, gb_some, d1, gb_some]
          · rcases lt3 hj with rfl | rfl | rfl
            · rw [fset_s]; rfl
            · rw [fset_n (by omega), fset_s]; rfl
            · rw [fset_n (by omega), fset_n (by omega), fset_s]; rfl
        · rw [ifn c240 hz, gck_true (mo_o mm.o)]
theorem call_shaped {G : gG} {b n : Nat} {A : AS} (h : REL G b n A) (a1 a2 a3 a4 : Int32) : C3 b A (f_X5_shaped G n b a1 a2 a3 a4) (fun G' => f_X6_shaped G' (b + 9) a1 a2 a3 a4) := by
  obtain ⟨w, hn, ⟨sr, se, row, c⟩, ⟨asd, spr, sd, ss, f15, f16, m⟩⟩ := h
  unfold f_X5_shaped f_X6_shaped
  have bad : ∀ {f : Option (Int32 × gG × Nat)} {g : gG → Option (Int32 × gG)}, f = some (-1, G, n) → g G = some (-1, G) → C3 b A f g := fun e1 e2 => same3 w c m hn e1 e2
  rcases lane_cs a1 with ⟨hl, l1, l2⟩ | ⟨l1, l2⟩
  · rw [l1, l2]
    simp only [if_neg (show ¬ (1 : Int32) = 0 by decide)]
    by_cases c2 : (60 : Int32) < a2
    · simp only [if_pos c2]; exact bad rfl rfl
    simp only [if_neg c2]
    by_cases c3 : (60 : Int32) < a3
    · simp only [if_pos c3]; exact bad rfl rfl
    simp only [if_neg c3]
    by_cases c4 : (60 : Int32) < a4
    · simp only [if_pos c4]; exact bad rfl rfl
    simp only [if_neg c4]
    have main : (a3 = -3 → a4 = -3) → C3 b A (f_X5_shaped_41 G n b a1 a2 a3 a4) (fun G' => f_X6_shaped_46 G' (b + 9) a1 a2 a3 a4) := by
      intro h34
      have h16 := w.n16
      by_cases hN : A.N = 16
      · refine same3 (r := -2) w c m hn ?_ ?_
        · unfold f_X5_shaped_41
          rw [gck_true (cf_o c.o), full_ok c w, gb_some, if_pos hN, if_neg (by decide)]
        · unfold f_X6_shaped_46
          rw [mo_0 m.o, gb_some, ifp (full_I w) hN]
      · have hNI : ¬ nI A.N = 16 := fun q => hN ((full_I w).mp q)
        have e41 : f_X5_shaped_41 G n b a1 a2 a3 a4 = if a2 < 0 then f_X5_shaped_77 G n b else if (0 : Int32) ≤ a3 then f_X5_shaped_65 G n b a1 a2 a3 a4 else if a3 = -3 then f_X5_shaped_65 G n b a1 a2 a3 a4 else f_X5_shaped_77 G n b := by
          unfold f_X5_shaped_41
          rw [gck_true (cf_o c.o), full_ok c w, gb_some, if_neg hN, if_pos rfl]
        have e46 : ∀ G', MR G' (b + 9) A asd spr sd ss f15 f16 → f_X6_shaped_46 G' (b + 9) a1 a2 a3 a4 = if a2 < 0 then f_X6_shaped_84 G' (b + 9) else if (0 : Int32) ≤ a3 then f_X6_shaped_72 G' (b + 9) a1 a2 a3 a4 else if a3 = -3 then f_X6_shaped_72 G' (b + 9) a1 a2 a3 a4 else f_X6_shaped_84 G' (b + 9) := by
          intro G' mm
          unfold f_X6_shaped_46
          rw [mo_0 mm.o, gb_some, if_neg hNI]
        have f77 : f_X5_shaped_77 G n b = gb2 (f_X5_failed G b 3 (-3)) fun r G' => some (r, G', n) := by
          unfold f_X5_shaped_77
          rw [gck_true (cf_o c.o)]
        have f84 : ∀ G', MR G' (b + 9) A asd spr sd ss f15 f16 → f_X6_shaped_84 G' (b + 9) = gb2 (f_X6_fails G' (b + 9) 3 (-3)) fun r G'' => some (r, G'') := by
          intro G' mm
          unfold f_X6_shaped_84
          rw [gck_true (mo_o mm.o)]
        have F : (f_X5_shaped_41 G n b a1 a2 a3 a4 = f_X5_shaped_77 G n b) → (∀ G', MR G' (b + 9) A asd spr sd ss f15 f16 → f_X6_shaped_46 G' (b + 9) a1 a2 a3 a4 = f_X6_shaped_84 G' (b + 9)) → C3 b A (f_X5_shaped_41 G n b a1 a2 a3 a4) (fun G' => f_X6_shaped_46 G' (b + 9) a1 a2 a3 a4) := fun q1 q2 =>
          fail3 w c m hn 3 (-3) (q1.trans f77) (fun G' mm => (q2 G' mm).trans (f84 G' mm))
        have e46x : ∀ G', MX G' (b + 9) A → f_X6_shaped_46 G' (b + 9) a1 a2 a3 a4 = if a2 < 0 then f_X6_shaped_84 G' (b + 9) else if (0 : Int32) ≤ a3 then f_X6_shaped_72 G' (b + 9) a1 a2 a3 a4 else if a3 = -3 then f_X6_shaped_72 G' (b + 9) a1 a2 a3 a4 else f_X6_shaped_84 G' (b + 9) := by
          rintro G' ⟨_, _, _, _, _, _, mm⟩
          unfold f_X6_shaped_46
          rw [mo_0 mm.o, gb_some, if_neg hNI]
        by_cases d2 : a2 < 0
        · exact F (by rw [e41, if_pos d2]) (fun G' mm => by rw [e46 G' mm, if_pos d2])
        · have p2 : (0 : Int32) ≤ a2 := by
            rw [Int32.le_iff_toInt_le]
            rw [Int32.lt_iff_toInt_lt] at d2
            omega
          obtain ⟨x, hx, e2⟩ := ge0_cs p2 c2
          by_cases ok3 : (0 : Int32) ≤ a3 ∨ a3 = -3
          · have h3 : a3 = -3 ∨ ∃ y, y ≤ 60 ∧ a3 = nI y := by
              rcases ok3 with q | q
              · exact Or.inr (ge0_cs q c3)
              · exact Or.inl q
            have q41 : f_X5_shaped_41 G n b a1 a2 a3 a4 = f_X5_shaped_65 G n b a1 a2 a3 a4 := by
              rw [e41, if_neg d2]
              by_cases q : (0 : Int32) ≤ a3
              · rw [if_pos q]
              · rw [if_neg q, if_pos (ok3.resolve_left q)]
            have q46 : ∀ G', MX G' (b + 9) A → f_X6_shaped_46 G' (b + 9) a1 a2 a3 a4 = f_X6_shaped_72 G' (b + 9) a1 a2 a3 a4 := by
              intro G' mm
              rw [e46x G' mm, if_neg d2]
              by_cases q : (0 : Int32) ≤ a3
              · rw [if_pos q]
              · rw [if_neg q, if_pos (ok3.resolve_left q)]
            by_cases ok4 : (0 : Int32) ≤ a4 ∨ a4 = -3
            · have h4 : a4 = -3 ∨ ∃ z, z ≤ 60 ∧ a4 = nI z := by
                rcases ok4 with q | q
                · exact Or.inr (ge0_cs q c4)
                · exact Or.inl q
              have S := shaped_92 w c m (by omega) hn hl hx h3 h4 h34
              rw [← e2] at S
              refine S.congr ?_ (fun G' mm => ?_)
              · rw [q41]
                unfold f_X5_shaped_65
                by_cases q : (0 : Int32) ≤ a4
                · rw [if_pos q]
                · rw [if_neg q, if_pos (ok4.resolve_left q)]
              · show f_X6_shaped_46 G' (b + 9) a1 a2 a3 a4 = f_X6_shaped_92 G' (b + 9) a1 a2 a3 a4
                rw [q46 G' mm]
                unfold f_X6_shaped_72
                by_cases q : (0 : Int32) ≤ a4
                · rw [if_pos q]
                · rw [if_neg q, if_pos (ok4.resolve_left q)]
            · refine F ?_ (fun G' mm => ?_)
              · rw [q41]
                unfold f_X5_shaped_65
                rw [if_neg (fun q => ok4 (Or.inl q)), if_neg (fun q => ok4 (Or.inr q))]
              · rw [q46 G' ⟨_, _, _, _, _, _, mm⟩]
                unfold f_X6_shaped_72
                rw [if_neg (fun q => ok4 (Or.inl q)), if_neg (fun q => ok4 (Or.inr q))]
          · have n1 : ¬ (0 : Int32) ≤ a3 := fun q => ok3 (Or.inl q)
            have n2 : ¬ a3 = -3 := fun q => ok3 (Or.inr q)
            exact F (by rw [e41, if_neg d2, if_neg n1, if_neg n2]) (fun G' mm => by rw [e46 G' mm, if_neg d2, if_neg n1, if_neg n2])
    by_cases d3 : a3 = -3
    · simp only [if_pos d3]
      by_cases d4 : a4 = -3
      · simp only [if_pos d4]
        exact main (fun _ => d4)
      · simp only [if_neg d4]
        exact bad rfl rfl
    · simp only [if_neg d3]
      exact main (fun q => absurd q d3)
  · rw [l1, if_pos rfl]
    refine bad rfl ?_
    show (if f_X6_in (Int32.toInt64 a1) 0 5 = 0 then some (-1, G) else _) = _
    rw [l2, if_pos rfl]
