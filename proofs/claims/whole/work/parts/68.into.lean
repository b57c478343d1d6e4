/-! into. -/
theorem failL2 {G1 : gG} {b n : Nat} {A : AS} {sr : Nat} {se : Nat → Nat} {row : Nat → Int64} {asd : Nat → Int64} {spr : Nat → Int32} {sd ss f15 f16 : Int32} {f : Option (Int32 × gG)} {g : gG → Option (Int32 × gG)} (w : WF A) (c : CR G1 b A sr se row) (m : MR G1 (b + 9) A asd spr sd ss f15 f16) (hn : n = b + 18 + 4 * A.N) (k p : Int32) (e1 : f = gb2 (f_X5_failed G1 b k p) fun r G' => some (r, G')) (e2 : ∀ G', MR G' (b + 9) A asd spr sd ss f15 f16 → ∃ G'' asd' spr' sd' ss' f15' f16', g G' = some (-10 - k, G'') ∧ MR G'' (b + 9) (A.own A.set A.mis (A.fai + 1) p) asd' spr' sd' ss' f15' f16' ∧ FM G' G'' b) : C2 b n A f g := by
  obtain ⟨G2, q1, q2, q3⟩ := c.fail k p
  have m1 := m.frame q3
  obtain ⟨G3, asd', spr', sd', ss', f15', f16', r1, r2, r3⟩ := e2 G2 m1
  exact fin2 (w.own w.st _ _ _) (by rw [e1, q1, gb2_some]) m1 q2 r1 r2 r3 hn
theorem CR.items2 {G : gG} {b : Nat} {A : AS} {sr : Nat} {se : Nat → Nat} {row : Nat → Int64} {i : Nat} {f : Nat → Int64} (c : CR G b (A.seti i f) sr se row) (hi : i < A.N) {ce : gC} {it : Nat → Int64} (hc : LC ce (sz3 (A.ex i)) it) : CR (g_up G (b + 18 + 4 * i + 3) ce) b (A.seti i it) sr se row := by
  refine ⟨by rw [g_up_ne (by omega)]; exact c.o, c.t.frame (g_up_ne (by omega)), c.a.frame (g_up_ne (by omega)) (g_up_ne (by omega)) (g_up_ne (by omega)) (g_up_ne (by omega)), by rw [g_up_ne (by omega)]; exact c.s, c.e.frame (g_up_ne (by omega)), c.w.frame (g_up_ne (by omega)), fun k hk => ?_⟩
  have T := c.c k hk
  rw [seti_it] at T ⊢
  by_cases z : k = i
  · subst z
    rw [fset_s] at T ⊢
    exact ⟨by rw [g_up_ne (by omega)]; exact T.o, by rw [g_up_ne (by omega)]; exact T.s, T.e.frame (g_up_ne (by omega)), ⟨ce, g_up_same _ _ _, hc⟩⟩
  · rw [fset_n z] at T ⊢
    exact T.frame (fun a h1 h2 => g_up_ne (by omega))
theorem CR.self {G : gG} {b : Nat} {A : AS} {sr : Nat} {se : Nat → Nat} {row : Nat → Int64} (c : CR G b A sr se row) (i : Nat) : CR G b (A.seti i (A.it i)) sr se row := by
  refine ⟨c.o, c.t, c.a, c.s, c.e, c.w, fun k hk => ?_⟩
  have T := c.c k hk
  rw [seti_it]
  by_cases z : k = i
  · subst z
    rw [fset_s]; exact T
  · rw [fset_n z]; exact T
theorem CR.itc {G : gG} {b : Nat} {A : AS} {sr : Nat} {se : Nat → Nat} {row : Nat → Int64} {i : Nat} {f g : Nat → Int64} (c : CR G b (A.seti i f) sr se row) (e : ∀ j, j < sz3 (A.ex i) → f j = g j) : CR G b (A.seti i g) sr se row := by
  refine ⟨c.o, c.t, c.a, c.s, c.e, c.w, fun k hk => ?_⟩
  have T := c.c k hk
  rw [seti_it] at T ⊢
  by_cases z : k = i
  · subst z
    rw [fset_s] at T ⊢
    exact ⟨T.o, T.s, T.e, T.i.congr e⟩
  · rw [fset_n z] at T ⊢
    exact T
/-- the first j items are new -/
def mvF (W it : Nat → Int64) (j : Nat) : Nat → Int64 := fun t => if t < j then W t else it t
theorem mri {b : Nat} {A : AS} {sr : Nat} {se : Nat → Nat} {row : Nat → Int64} (w : WF A) {z : Nat} (hz : z < A.N) {rl : Int32} (hrl : LN rl) (hv : ∀ t, t < sz3 (A.ex z) → VAL rl (row t)) : ∀ (k j fu : Nat) (G : gG), j + k = sz3 (A.ex z) → CR G b (A.seti z (mvF (fun t => toD (row t) rl (A.lane z)) (A.it z) j)) sr se row →
    ∃ G', f_X5_moveRowInto_2 (fu + k + 1) G b (b + 18 + 4 * z) rl (nI j) = some G' ∧ CR G' b (A.seti z (mvF (fun t => toD (row t) rl (A.lane z)) (A.it z) (sz3 (A.ex z)))) sr se row ∧ FC G G' b := by
  have h240 := w.sz z hz
  intro k
  induction k with
  | zero =>
    intro j fu G hk c
    have e : j = sz3 (A.ex z) := by omega
    subst e
    have T := c.c z hz
    have cc : nI (sz3 (A.ex z)) ≤ nI (sz3 (A.ex z)) := (nI_leI (by omega) (by omega)).mpr (Nat.le_refl _)
    refine ⟨G, ?_, c, FC.refl _ _⟩
    unfold f_X5_moveRowInto_2
    have tl : g_len G (b + 18 + 4 * z + 3) = some (nI (sz3 (A.ex z))) := T.i.len
    rw [to_2 T.o, gb_some, tl, gb_some, if_pos cc]
  | succ k ih =>
    intro j fu G hk c
    have T := c.c z hz
    have cc : nI (sz3 (A.ex z)) ≤ nI j ↔ sz3 (A.ex z) ≤ j := nI_leI (by omega) (by omega)
    have cd : nI 240 ≤ nI j ↔ 240 ≤ j := nI_leI (by omega) (by omega)
    obtain ⟨G1, m1, m2, m3, -, -⟩ := c.move hrl (w.ln z hz) (hv j (by omega))
    have T1 := m2.c z hz
    obtain ⟨ce, d1, d2⟩ := T1.i.ls (show j < sz3 (A.ex z) by omega) (show sz3 (A.ex z) < 2 ^ 31 by omega) (toD (row j) rl (A.lane z))
    have c2 := m2.items2 hz d2
    have tl : g_len G (b + 18 + 4 * z + 3) = some (nI (sz3 (A.ex z))) := T.i.len
    have lz : g_fI G (b + 18 + 4 * z) 3 0 = some (A.lane z) := to_0 T.o
    obtain ⟨G', q1, q2, q3⟩ := ih (j + 1) fu _ (by omega) (c2.itc (fun t ht => by
      show fset ((A.seti z (mvF (fun t => toD (row t) rl (A.lane z)) (A.it z) j)).it z) j (toD (row j) rl (A.lane z)) t = _
      rw [seti_it, fset_s]
      unfold mvF
      by_cases y : t = j
      · rw [y, fset_s, if_pos (by omega)]
      · rw [fset_n y]
        by_cases x : t < j
        · rw [if_pos x, if_pos (by omega)]
        · rw [if_neg x, if_neg (by omega)]))
    refine ⟨G', ?_, q2, (m3.trans (FC.up (by omega))).trans q3⟩
    have hs : f_X4_hasItem G1 (b + 18 + 4 * z) (nI j) = some 1 := by
      rcases has_ok T1 h240 (nI j) with ⟨_, _, _, q⟩ | ⟨q, -⟩
      · exact q
      · exfalso
        rcases q with q | q
        · exact nI_pos (by omega) q
        · have := (nI_leI (a := sz3 (A.ex z)) (b := j) (by omega) (by omega)).mp q
          omega
    have wr : f_X4_write G1 (b + 18 + 4 * z) (nI j) (toD (row j) rl (A.lane z)) = some (g_up G1 (b + 18 + 4 * z + 3) ce) := by
      unfold f_X4_write
      rw [gck_true (to_o T1.o), hs, gb_some, if_neg (by decide), to_2 T1.o, gb_some, d1, gb_some]
    have m1 : f_X0_moved G (b + 2) (row j) rl (A.lane z) = some (toD (row j) rl (A.lane z), G1) := m1
    rw [← q1, show fu + (k + 1) + 1 = (fu + k + 1) + 1 by omega, f_X5_moveRowInto_2, to_2 T.o, gb_some, tl, gb_some, ifn cc (by omega), cf_3 c.o, gb_some, c.w.len, gb_some, ifn cd (by omega), cf_1 c.o, gb_some, gb_some, c.w.ll (by omega) (by omega), gb_some, lz, gb_some, gck_true c.a.o, m1, gb2_some, gck_true (to_o T1.o), wr, gb_some]
    simp only [gl]
    rw [nI_1]
theorem i301 {b : Nat} {A : AS} {asd : Nat → Int64} {spr : Nat → Int32} {sd ss f15 f16 : Int32} (w : WF A) {z : Nat} (hz : z < A.N) {rl : Int32} (hss : ss = nI (sz3 (A.ex z))) (ht : ∀ t, t < sz3 (A.ex z) → f_X6_to (asd t) rl (A.lane z) = some (toD (asd t) rl (A.lane z))) : ∀ (k j fu : Nat) (G : gG), j + k = sz3 (A.ex z) → MR G (b + 9) (A.seti z (mvF (fun t => toD (asd t) rl (A.lane z)) (A.it z) j)) asd spr sd ss f15 f16 →
    ∃ G', f_X6_into_301 (fu + k + 1) G (b + 9) (nI z) rl (A.lane z) (nI j) = some (1, G') ∧ MR G' (b + 9) (A.seti z (mvF (fun t => toD (asd t) rl (A.lane z)) (A.it z) (sz3 (A.ex z)))) asd spr sd ss f15 f16 ∧ FM G G' b := by
  have h240 := w.sz z hz
  intro k
  induction k with
  | zero =>
    intro j fu G hk m
    have e : j = sz3 (A.ex z) := by omega
    subst e
    have cc : ss ≤ nI (sz3 (A.ex z)) := by rw [hss]; exact (nI_leI (by omega) (by omega)).mpr (Nat.le_refl _)
    refine ⟨G, ?_, m, FM.refl _ _⟩
    rw [Nat.add_zero, f_X6_into_301, mo_14 m.o, gb_some, if_pos cc]
  | succ k ih =>
    intro j fu G hk m
    have cc : ¬ ss ≤ nI j := by
      rw [hss]
      intro q
      have := (nI_leI (a := sz3 (A.ex z)) (b := j) (by omega) (by omega)).mp q
      omega
    obtain ⟨G1, d1, d2, d3⟩ := m.put2 w hz (j := j) (by omega) (toD (asd j) rl (A.lane z))
    obtain ⟨G', q1, q2, q3⟩ := ih (j + 1) fu G1 (by omega) (d2.itc (fun t ht => by
      unfold mvF
      by_cases y : t = j
      · rw [y, fset_s, if_pos (by omega)]
      · rw [fset_n y]
        by_cases x : t < j
        · rw [if_pos x, if_pos (by omega)]
        · rw [if_neg x, if_neg (by omega)]))
    refine ⟨G', ?_, q2, d3.trans q3⟩
    have ix : ((240 : Int32) * nI z) + nI j = nI (240 * z + j) := by rw [show (240 : Int32) = nI 240 from rfl, pk_mul, nI_add]
    rw [← q1, show fu + (k + 1) + 1 = (fu + k + 1) + 1 by omega, f_X6_into_301, mo_14 m.o, gb_some, if_neg cc, mo_6 m.o, gb_some, mo_7 m.o, gb_some, m.w.ll (by omega) (by omega), gb_some, ht j (by omega), gb_some, ix, d1, gb_some]
    simp only [gl]
    rw [nI_1]
section I143
variable {G : gG} {b : Nat} {A : AS} {asd : Nat → Int64} {spr : Nat → Int32} {sd ss f15 f16 : Int32} {o : Nat} {i1 i2 z : Nat}
/-- what the reference does once the shapes are alike -/
def i143E (G : gG) (b o i1 i2 z : Nat) : Option (Int32 × gG) := if nI o < 18 then f_X6_into_218 G (b + 9) (nI o) (nI i1) (nI i2) (nI z) else if (21 : Int32) < nI o then f_X6_into_218 G (b + 9) (nI o) (nI i1) (nI i2) (nI z) else f_X6_into_237 G (b + 9) (nI o) (nI i1) (nI i2) (nI z) 0
theorem i143_no (m : MR G (b + 9) A asd spr sd ss f15 f16) {X : Nat} (hX : X ≤ 3) (hsd : sd = nI X) : ∀ (k j fu : Nat), j + k = X → f_X6_into_143 (fu + k + 1) G (b + 9) (nI o) (nI i1) (nI i2) (nI z) 0 (nI j) = gb2 (f_X6_fails G (b + 9) 6 (-3)) fun r G' => some (r, G') := by
  intro k
  induction k with
  | zero =>
    intro j fu hk
    have cc : sd ≤ nI j := by rw [hsd]; exact (nI_leI (by omega) (by omega)).mpr (by omega)
    rw [Nat.add_zero, f_X6_into_143, mo_13 m.o, gb_some, if_pos cc, if_pos rfl, gck_true (mo_o m.o)]
  | succ k ih =>
    intro j fu hk
    have cc : ¬ sd ≤ nI j := by
      rw [hsd]
      intro q
      have := (nI_leI (a := X) (b := j) (by omega) (by omega)).mp q
      omega
    rw [show fu + (k + 1) + 1 = (fu + k + 1) + 1 by omega, f_X6_into_143, mo_13 m.o, gb_some, if_neg cc, if_pos rfl]
    unfold f_X6_into_179 f_X6_into_180
    simp only [gl]
    rw [nI_1]
    exact ih (j + 1) fu (by omega)
theorem i143 (m : MR G (b + 9) A asd spr sd ss f15 f16) (w : WF A) (hz : z < A.N) {se : Nat → Nat} (hse : ∀ j, j < 3 → spr j = nI (se j)) (hs : ∀ j, j < 3 → se j ≤ 60) {X : Nat} (hX : X ≤ 3) (hsd : sd = nI X) : ∀ (k j fu : Nat), j + k = X →
    ((∃ t, j ≤ t ∧ t < X ∧ ¬ se t = A.ex z t) ∧ f_X6_into_143 (fu + k + 1) G (b + 9) (nI o) (nI i1) (nI i2) (nI z) 1 (nI j) = gb2 (f_X6_fails G (b + 9) 6 (-3)) fun r G' => some (r, G')) ∨ ((∀ t, j ≤ t → t < X → se t = A.ex z t) ∧ f_X6_into_143 (fu + k + 1) G (b + 9) (nI o) (nI i1) (nI i2) (nI z) 1 (nI j) = i143E G b o i1 i2 z) := by
  intro k
  induction k with
  | zero =>
    intro j fu hk
    have cc : sd ≤ nI j := by rw [hsd]; exact (nI_leI (by omega) (by omega)).mpr (by omega)
    right
    refine ⟨fun t h1 h2 => by omega, ?_⟩
    unfold i143E
    rw [Nat.add_zero, f_X6_into_143, mo_13 m.o, gb_some, if_pos cc, if_neg (show ¬ (1 : Int32) = 0 by decide)]
  | succ k ih =>
    intro j fu hk
    have cc : ¬ sd ≤ nI j := by
      rw [hsd]
      intro q
      have := (nI_leI (a := X) (b := j) (by omega) (by omega)).mp q
      omega
    have e60 := w.e60 z hz j (by omega)
    have s60 := hs j (by omega)
    have ce : nI (se j) = nI (A.ex z j) ↔ se j = A.ex z j := nI_eq (by omega) (by omega)
    have st : f_X6_into_143 (fu + (k + 1) + 1) G (b + 9) (nI o) (nI i1) (nI i2) (nI z) 1 (nI j) = if nI (se j) = nI (A.ex z j) then f_X6_into_143 (fu + k + 1) G (b + 9) (nI o) (nI i1) (nI i2) (nI z) 1 (nI (j + 1)) else f_X6_into_143 (fu + k + 1) G (b + 9) (nI o) (nI i1) (nI i2) (nI z) 0 (nI (j + 1)) := by
      rw [show fu + (k + 1) + 1 = (fu + k + 1) + 1 by omega, f_X6_into_143, mo_13 m.o, gb_some, if_neg cc, if_neg (show ¬ (1 : Int32) = 0 by decide), mo_12 m.o, gb_some, m.s.il (by omega) (by omega), gb_some, gck_true (mo_o m.o), m.ext w hz (by omega), gb_some, hse j (by omega)]
      unfold f_X6_into_179 f_X6_into_180
      simp only [gl]
      rw [nI_1]
    rw [st]
    by_cases d : se j = A.ex z j
    · rw [ifp ce d]
      rcases ih (j + 1) fu (by omega) with ⟨⟨t, a1, a2, a3⟩, a4⟩ | ⟨a1, a2⟩
      · exact Or.inl ⟨⟨t, by omega, a2, a3⟩, a4⟩
      · refine Or.inr ⟨fun t h1 h2 => ?_, a2⟩
        by_cases y : t = j
        · rw [y]; exact d
        · exact a1 t (by omega) h2
    · rw [ifn ce d]
      exact Or.inl ⟨⟨j, Nat.le_refl _, by omega, d⟩, i143_no m hX hsd k (j + 1) fu (by omega)⟩
end I143
theorem call_into {G : gG} {b n : Nat} {A : AS} (h : REL G b n A) (a1 a2 a3 a4 : Int32) : C2 b n A (f_X5_into G b a1 a2 a3 a4) (fun G' => f_X6_into G' (b + 9) a1 a2 a3 a4) := by
  obtain ⟨w, hn, ⟨sr, se, row, c⟩, ⟨asd, spr, sd, ss, f15, f16, m⟩⟩ := h
  have mx : MX G (b + 9) A := ⟨_, _, _, _, _, _, m⟩
  have h16 := w.n16
  have KX : ∀ a, ∃ k : Option Nat, f_X5_known G b a = some k := fun a => by
    rcases kn w c a with ⟨_, _, _, k, _⟩ | ⟨k, _⟩
    · exact ⟨_, k⟩
    · exact ⟨_, k⟩
  -- a call that is not one
  have bad : (∃ k1 k2 k3, f_X5_known G b a2 = some k1 ∧ f_X5_known G b a3 = some k2 ∧ f_X5_known G b a4 = some k3 ∧ (k1 = none ∨ k2 = none ∨ k3 = none ∨ f_X0_isAct a1 = 0)) → f_X5_into G b a1 a2 a3 a4 = some (-1, G) := by
    rintro ⟨k1, k2, k3, e1, e2, e3, hh⟩
    unfold f_X5_into
    rw [gck_true (cf_o c.o), e1, gb_some, gck_true (cf_o c.o), e2, gb_some, gck_true (cf_o c.o), e3, gb_some]
    cases k1 with
    | none => rfl
    | some p =>
      cases k2 with
      | none => rfl
      | some q =>
        cases k3 with
        | none => rfl
        | some r =>
          show (if f_X0_isAct a1 = 0 then _ else _) = _
          rcases hh with hh | hh | hh | hh
          · cases hh
          · cases hh
          · cases hh
          · rw [if_pos hh]
  rcases op_cs a1 with ⟨o, ho, rfl, o1, o2⟩ | ⟨o1, o2⟩
  · rcases kn w c a2 with ⟨i1, h1, rfl, k1, t1⟩ | ⟨k1, t1⟩
    · rcases kn w c a3 with ⟨i2, h2, rfl, k2, t2⟩ | ⟨k2, t2⟩
      · rcases kn w c a4 with ⟨z, hz, rfl, k3, t3⟩ | ⟨k3, t3⟩
        · have T1 := c.c i1 h1
          have T2 := c.c i2 h2
          have T3 := c.c z hz
          obtain ⟨L, hLd⟩ : ∃ L, f_X6_laneOf (nI o) (f_X6_joined (A.lane i1) (A.lane i2)) = L := ⟨_, rfl⟩
          have tab := act_ok ho (w.ln i1 h1) (w.ln i2 h2)
          rw [hLd] at tab
          have e1 : f_X5_into G b (nI o) (nI i1) (nI i2) (nI z) = if A.gone i1 = 0 then (if A.gone i2 = 0 then (if A.gone z = 0 then (if f_X1_ofAct (nI o) (A.lane i1) (A.lane i2) = -3 then (gb2 (f_X5_failed G b 4 (-3)) fun r G' => some (r, G')) else gb2 (f_X5_spreadOf G b (b + 18 + 4 * i1) (b + 18 + 4 * i2)) fun r13 G14 => if r13 = -3 then (gb (g_fA G14 b 4 2) fun g15 => gb (g_fA G14 (b + 18 + 4 * z) 3 1) fun g16 => gck (g_isO G14 g15 2) <| gb (f_X3_isLike G14 g15 g16) fun r17 => if r17 = 0 then (gck (g_isO G14 b 4) <| gb2 (f_X5_failed G14 b 6 (-3)) fun r27 G28 => some (r27, G28)) else gb (g_fI G14 (b + 18 + 4 * z) 3 0) fun v19 => if f_X1_mayHold v19 (f_X1_ofResult (nI o) (f_X1_ofAct (nI o) (A.lane i1) (A.lane i2))) = 0 then (gck (g_isO G14 b 4) <| gb2 (f_X5_failed G14 b 4 (-3)) fun r25 G26 => some (r25, G26)) else gck (g_isO G14 b 4) <| gb2 (f_X5_rowByAct G14 b (nI o) (f_X1_ofAct (nI o) (A.lane i1) (A.lane i2)) (b + 18 + 4 * i1) (b + 18 + 4 * i2)) fun r20 G21 => if r20 = -3 then (gck (g_isO G21 b 4) <| gb (f_X5_moveRowInto G21 b (b + 18 + 4 * z) (f_X1_ofResult (nI o) (f_X1_ofAct (nI o) (A.lane i1) (A.lane i2)))) fun G22 => some (1, G22)) else (gck (g_isO G21 b 4) <| gb2 (f_X5_failed G21 b 5 r20) fun r23 G24 => some (r23, G24))) else (gck (g_isO G14 b 4) <| gb2 (f_X5_failed G14 b 6 r13) fun r29 G30 => some (r29, G30))) else gb2 (f_X5_failed G b 1 (-3)) fun r G' => some (r, G')) else gb2 (f_X5_failed G b 1 (-3)) fun r G' => some (r, G')) else gb2 (f_X5_failed G b 1 (-3)) fun r G' => some (r, G') := by
            unfold f_X5_into f_X5_into_70
            rw [gck_true (cf_o c.o), k1, gb_some, gck_true (cf_o c.o), k2, gb_some, gck_true (cf_o c.o), k3, gb_some]
            show (if f_X0_isAct (nI o) = 0 then _ else _) = _
            rw [o1, if_neg (by decide), to_3 T1.o, gb_some, to_3 T2.o, gb_some, to_3 T3.o, gb_some, to_0 T1.o, gb_some, to_0 T2.o, gb_some]
            simp only [gl, gck_true (cf_o c.o)]
          have e2 : ∀ G', MX G' (b + 9) A → f_X6_into G' (b + 9) (nI o) (nI i1) (nI i2) (nI z) = if A.gone i1 = 0 then (if A.gone i2 = 0 then (if A.gone z = 0 then (if L < 0 then (gb2 (f_X6_fails G' (b + 9) 4 (-3)) fun r G'' => some (r, G'')) else gb (f_X6_begin G' (b + 9) (nI i1)) fun G11 => gck (g_isO G11 (b + 9) 5) <| gb2 (f_X6_spreadWith G11 (b + 9) (nI i2)) fun r12 G13 => if r12 < 0 then (gb (g_fI G13 (b + 9) 5 13) fun v14 => gb (g_fA G13 (b + 9) 5 2) fun g15 => gb (g_il G13 g15 (nI z)) fun v16 => if v14 = v16 then f_X6_into_138 G13 (b + 9) (nI o) (nI i1) (nI i2) (nI z) 1 else f_X6_into_138 G13 (b + 9) (nI o) (nI i1) (nI i2) (nI z) 0) else (gck (g_isO G13 (b + 9) 5) <| gb2 (f_X6_fails G13 (b + 9) 6 r12) fun r17 G18 => some (r17, G18))) else gb2 (f_X6_fails G' (b + 9) 1 (-3)) fun r G'' => some (r, G'')) else gb2 (f_X6_fails G' (b + 9) 1 (-3)) fun r G'' => some (r, G'')) else gb2 (f_X6_fails G' (b + 9) 1 (-3)) fun r G'' => some (r, G'') := by
            rintro G' ⟨_, _, _, _, _, _, mm⟩
            have il : f_X6_isLane G' (b + 9) (nI o) (nI i1) (nI i2) = some (if L < 0 then 0 else 1) := by
              unfold f_X6_isLane
              rw [mo_1 mm.o, gb_some, mm.lane w h1, gb_some, gb_some, mm.lane w h2, gb_some, hLd]
              split <;> rfl
            unfold f_X6_into f_X6_into_67
            rw [o2, if_neg (by decide), gck_true (mo_o mm.o), t1 G' ⟨_, _, _, _, _, _, mm⟩, gb_some, if_neg (by decide), gck_true (mo_o mm.o), t2 G' ⟨_, _, _, _, _, _, mm⟩, gb_some, if_neg (by decide), gck_true (mo_o mm.o), t3 G' ⟨_, _, _, _, _, _, mm⟩, gb_some, if_neg (by decide), mo_5 mm.o, gb_some, mm.gone w h1, gb_some, gb_some, mm.gone w h2, gb_some, gb_some, mm.gone w hz, gb_some, il]
            simp only [gck_true (mo_o mm.o), gb_some]
            by_cases d : L < 0
            · simp only [if_pos d, if_true]
            · simp only [if_neg d, if_neg (show ¬ (1 : Int32) = 0 by decide)]
          have F1 : (f_X5_into G b (nI o) (nI i1) (nI i2) (nI z) = gb2 (f_X5_failed G b 1 (-3)) fun r G' => some (r, G')) → (∀ G', MX G' (b + 9) A → f_X6_into G' (b + 9) (nI o) (nI i1) (nI i2) (nI z) = gb2 (f_X6_fails G' (b + 9) 1 (-3)) fun r G'' => some (r, G'')) → C2 b n A (f_X5_into G b (nI o) (nI i1) (nI i2) (nI z)) (fun G' => f_X6_into G' (b + 9) (nI o) (nI i1) (nI i2) (nI z)) := fun q1 q2 => fail2 w c m hn 1 (-3) q1 (fun G' mm => q2 G' ⟨_, _, _, _, _, _, mm⟩)
          by_cases g1 : A.gone i1 = 0
          · by_cases g2 : A.gone i2 = 0
            · by_cases g3 : A.gone z = 0
              · simp only [if_pos g1, if_pos g2, if_pos g3] at e1 e2
                rcases tab with ⟨l1, l2⟩ | ⟨l1, hL, hv⟩
                · refine fail2 w c m hn 4 (-3) (by rw [e1, if_pos l1]) (fun G' mm => ?_)
                  show f_X6_into _ (b + 9) (nI o) (nI i1) (nI i2) (nI z) = _
                  rw [e2 _ ⟨_, _, _, _, _, _, mm⟩, if_pos l2]
                · have Ln := hL.n3
                  rw [l1, if_neg Ln.1, resL_ok ho] at e1
                  simp only [if_neg Ln.2] at e2
                  have s60 := spE_60 (w.e60 i1 h1) (w.e60 i2 h2)
                  have sM := sz_60 s60
                  have rk1 := w.rk3 i1 h1
                  have rk2 := w.rk3 i2 h2
                  have rk3 := w.rk3 z hz
                  obtain ⟨G1, sr', se', c1, f1, cs⟩ := c.spO w h1 h2
                  have m1 := m.frame f1
                  have ones := spE_1 (w.e1 i1 h1) (w.e1 i2 h2)
                  -- the reference's spread
                  have rsp : ∀ G', MR G' (b + 9) A asd spr sd ss f15 f16 → (spF (A.ex i1) (A.ex i2) < 3 → ∃ G'' spr' sd' ss', f_X6_into G' (b + 9) (nI o) (nI i1) (nI i2) (nI z) = some (-16, G'') ∧ MR G'' (b + 9) (A.own A.set A.mis (A.fai + 1) (nI (spF (A.ex i1) (A.ex i2)))) asd spr' sd' ss' f15 f16 ∧ FM G' G'' b) ∧ (spF (A.ex i1) (A.ex i2) = 3 → ∃ G'', MR G'' (b + 9) A asd (fun j => nI (spE (A.ex i1) (A.ex i2) j)) (nI (max (A.rk i1) (A.rk i2))) (nI (sz3 (spE (A.ex i1) (A.ex i2)))) f15 f16 ∧ FM G' G'' b ∧ f_X6_into G' (b + 9) (nI o) (nI i1) (nI i2) (nI z) = if nI (max (A.rk i1) (A.rk i2)) = nI (A.rk z) then f_X6_into_138 G'' (b + 9) (nI o) (nI i1) (nI i2) (nI z) 1 else f_X6_into_138 G'' (b + 9) (nI o) (nI i1) (nI i2) (nI z) 0) := by
                    intro G' mm
                    obtain ⟨Ga, b1, b2, b3⟩ := mm.begin (b := b) rfl w h1
                    have S := b2.spw (b := b) rfl w h2 (se := A.ex i1) (sr := A.rk i1) (fun j _ => rfl) rfl (w.e60 i1 h1) rk1 (w.e1 i1 h1)
                    have st := e2 G' ⟨_, _, _, _, _, _, mm⟩
                    rw [b1, gb_some, gck_true (mo_o b2.o)] at st
                    rcases S with ⟨q1, q2⟩ | ⟨q1, Gb, q2, q3, q4⟩
                    · refine ⟨fun _ => ?_, fun q => by omega⟩
                      obtain ⟨Gc, d1, d2, d3⟩ := b2.fl 6 (nI (spF (A.ex i1) (A.ex i2)))
                      refine ⟨Gc, _, _, _, ?_, d2, b3.trans d3⟩
                      rw [st, q2, gb2_some, if_neg (nI_pos (by omega)), gck_true (mo_o b2.o), d1]
                      rfl
                    · refine ⟨fun q => by omega, fun _ => ⟨Gb, q3, b3.trans q4, ?_⟩⟩
                      rw [st, q2, gb2_some, if_pos (by decide), mo_13 q3.o, gb_some, mo_2 q3.o, gb_some, q3.dim w hz, gb_some]
                  rcases cs with ⟨F, cE⟩ | ⟨F, cE, rfl, rfl⟩
                  · rw [cE, gb2_some, if_neg (nI_n3' (by omega)), gck_true (cf_o c1.o)] at e1
                    refine failL2 w c1 m1 hn 6 (nI (spF (A.ex i1) (A.ex i2))) e1 (fun G' mm => ?_)
                    obtain ⟨G'', spr', sd', ss', d1, d2, d3⟩ := (rsp G' mm).1 F
                    exact ⟨G'', asd, spr', sd', ss', f15, f16, d1, d2, d3⟩
                  · have T3' := c1.c z hz
                    have like := shl_ok c1.sh (c1.tsh hz) (by omega) (by omega) (fun j hj => by have := s60 j hj; omega) (fun j hj => by have := w.e60 z hz j hj; omega)
                    rw [cE, gb2_some, if_pos rfl, cf_2 c1.o, gb_some, to_1 T3'.o, gb_some, gck_true (so_o c1.s), like, gb_some, to_0 T3'.o, gb_some] at e1
                    obtain ⟨fu3, hfu3⟩ : ∃ fu : Nat, 5000 = fu + max (A.rk i1) (A.rk i2) + 1 := ⟨4999 - max (A.rk i1) (A.rk i2), by omega⟩
                    have crk : nI (max (A.rk i1) (A.rk i2)) = nI (A.rk z) ↔ max (A.rk i1) (A.rk i2) = A.rk z := nI_eq (by omega) (by omega)
                    -- alike or not
                    by_cases al : max (A.rk i1) (A.rk i2) = A.rk z ∧ spE (A.ex i1) (A.ex i2) 0 = A.ex z 0 ∧ spE (A.ex i1) (A.ex i2) 1 = A.ex z 1 ∧ spE (A.ex i1) (A.ex i2) 2 = A.ex z 2
                    · have alj : ∀ j, j < 3 → spE (A.ex i1) (A.ex i2) j = A.ex z j := fun j hj => by
                        rcases lt3 hj with rfl | rfl | rfl
                        · exact al.2.1
                        · exact al.2.2.1
                        · exact al.2.2.2
                      have szE : sz3 (spE (A.ex i1) (A.ex i2)) = sz3 (A.ex z) := by unfold sz3; rw [al.2.1, al.2.2.1, al.2.2.2]
                      have hz240 : sz3 (spE (A.ex i1) (A.ex i2)) ≤ 240 := by rw [szE]; exact w.sz z hz
                      rw [if_pos al, if_neg (by decide)] at e1
                      -- the reference comes to the lanes
                      have ref2 : ∀ G', MR G' (b + 9) A asd spr sd ss f15 f16 → ∃ G'', MR G'' (b + 9) A asd (fun j => nI (spE (A.ex i1) (A.ex i2) j)) (nI (max (A.rk i1) (A.rk i2))) (nI (sz3 (spE (A.ex i1) (A.ex i2)))) f15 f16 ∧ FM G' G'' b ∧ f_X6_into G' (b + 9) (nI o) (nI i1) (nI i2) (nI z) = f_X6_into_237 G'' (b + 9) (nI o) (nI i1) (nI i2) (nI z) (resL o L) := by
                        intro G' mm
                        obtain ⟨G'', d1, d2, d3⟩ := (rsp G' mm).2 F
                        refine ⟨G'', d1, d2, ?_⟩
                        rw [d3, ifp crk al.1]
                        unfold f_X6_into_138
                        have I := i143 (o := o) (i1 := i1) (i2 := i2) d1 w hz (se := spE (A.ex i1) (A.ex i2)) (fun j _ => rfl) s60 (X := max (A.rk i1) (A.rk i2)) (by omega) rfl (max (A.rk i1) (A.rk i2)) 0 fu3 (by omega)
                        rw [← hfu3, nI_0] at I
                        rcases I with ⟨⟨t, -, x2, x3⟩, -⟩ | ⟨-, x2⟩
                        · exact absurd (alj t (by omega)) x3
                        · rw [x2]
                          unfold i143E f_X6_into_218
                          have c18 : nI o < 18 ↔ o < 18 := nI_ltI (b := 18) (by omega) (by omega)
                          have c21 : (21 : Int32) < nI o ↔ 21 < o := nI_ltI (a := 21) (by omega) (by omega)
                          rw [mo_1 d1.o, gb_some, d1.lane w h1, gb_some, gb_some, d1.lane w h2, gb_some, hLd]
                          unfold resL
                          by_cases d : 18 ≤ o ∧ o ≤ 21
                          · rw [if_pos d, ifn c18 (by omega), ifn c21 (by omega)]
                          · rw [if_neg d]
                            by_cases d18 : o < 18
                            · rw [ifp c18 d18]
                            · rw [ifn c18 d18, ifp c21 (by omega)]
                      have rLn := resL_ln (o := o) hL
                      have hold := hold_ok (w.ln z hz) rLn
                      by_cases hd : A.lane z < resL o L ∨ (A.lane z = 4 ∧ (resL o L = 2 ∨ resL o L = 3))
                      · rw [ifp hold hd, gck_true (cf_o c1.o)] at e1
                        refine failL2 w c1 m1 hn 4 (-3) e1 (fun G' mm => ?_)
                        obtain ⟨G'', d1, d2, d3⟩ := ref2 G' mm
                        obtain ⟨Gc, x1, x2, x3⟩ := d1.fl 4 (-3)
                        refine ⟨Gc, _, _, _, _, _, _, ?_, x2, d2.trans x3⟩
                        show f_X6_into _ (b + 9) (nI o) (nI i1) (nI i2) (nI z) = _
                        rw [d3]
                        unfold f_X6_into_237 f_X6_into_273
                        rw [mo_1 d1.o, gb_some, d1.lane w hz, gb_some, gck_true (mo_o d1.o), x1]
                        rcases hd with q | ⟨q1, q2⟩
                        · rw [if_pos q]
                        · have nl : ¬ A.lane z < resL o L := by
                            rw [q1]
                            rcases q2 with q | q <;> (rw [q]; decide)
                          rw [if_neg nl, if_pos q1]
                          rcases q2 with q | q
                          · rw [if_pos q]
                          · rw [if_neg (by rw [q]; decide), if_pos q]
                      · rw [ifn hold hd, gck_true (cf_o c1.o)] at e1
                        have ref3 : ∀ G', MR G' (b + 9) A asd spr sd ss f15 f16 → ∃ Gs, f_X6_into G' (b + 9) (nI o) (nI i1) (nI i2) (nI z) = (gb2 (f_X6_acts_55 5000 Gs (b + 9) (nI o) (nI i1) (nI i2) L 0) fun r1 G2 => if (0 : Int32) ≤ r1 then f_X6_into_301 5000 G2 (b + 9) (nI z) (resL o L) (A.lane z) 0 else some (r1, G2)) ∧ MR Gs (b + 9) A asd (fun j => nI (spE (A.ex i1) (A.ex i2) j)) (nI (max (A.rk i1) (A.rk i2))) (nI (sz3 (spE (A.ex i1) (A.ex i2)))) (resL o L) 0 ∧ FM G' Gs b := by
                          intro G' mm
                          obtain ⟨G'', d1, d2, d3⟩ := ref2 G' mm
                          have S := acts_start d1 w h1 h2 ho
                          rw [hLd] at S
                          refine ⟨_, ?_, d1.scr _ _ (resL o L) 0, d2.trans (FM.up (by omega))⟩
                          rw [d3]
                          unfold f_X6_into_237 f_X6_into_281
                          rw [mo_1 d1.o, gb_some, d1.lane w hz, gb_some, gck_true (mo_o d1.o), S, if_neg (fun q => hd (Or.inl q))]
                          by_cases z4 : A.lane z = 4
                          · rw [if_pos z4, if_neg (fun q => hd (Or.inr ⟨z4, Or.inl q⟩)), if_neg (fun q => hd (Or.inr ⟨z4, Or.inr q⟩))]
                          · rw [if_neg z4]
                        rcases spF_cs (A.ex i1) (A.ex i2) with ⟨-, ok⟩ | ⟨q, -⟩
                        · have U := spE_und ok
                          have u1 : UND A i1 (spE (A.ex i1) (A.ex i2)) := ⟨h1, fun j hj => (U j hj).1⟩
                          have u2 : UND A i2 (spE (A.ex i1) (A.ex i2)) := ⟨h2, fun j hj => (U j hj).2⟩
                          obtain ⟨fu, hfu⟩ : ∃ fu : Nat, 5000 = fu + sz3 (spE (A.ex i1) (A.ex i2)) + 1 := ⟨4999 - sz3 (spE (A.ex i1) (A.ex i2)), by omega⟩
                          have R := rba (sr := max (A.rk i1) (A.rk i2)) w s60 hz240 u1 u2 ho hL hv (sz3 (spE (A.ex i1) (A.ex i2))) 0 fu G1 row (by omega) c1 (fun t ht => by omega) (fun _ t ht => by omega)
                          rw [← hfu, nI_0] at R
                          have eR : f_X5_rowByAct G1 b (nI o) L (b + 18 + 4 * i1) (b + 18 + 4 * i2) = f_X5_rowByAct_15 5000 G1 b (nI o) L (b + 18 + 4 * i1) (b + 18 + 4 * i2) (nI (sz3 (spE (A.ex i1) (A.ex i2)))) (cz A i2 (spE (A.ex i1) (A.ex i2)) o L 0) 0 := by
                            unfold f_X5_rowByAct
                            rw [cf_2 c1.o, gb_some, gck_true (so_o c1.s), c1.sh.size, gb_some]
                            rfl
                          rw [eR] at e1
                          have mv : ∀ t, t < sz3 (spE (A.ex i1) (A.ex i2)) → (f_X6_to (A.it i1 (offU (A.ex i1) (spE (A.ex i1) (A.ex i2)) t)) (A.lane i1) L = some (opd A i1 (spE (A.ex i1) (A.ex i2)) L t) ∧ VAL L (opd A i1 (spE (A.ex i1) (A.ex i2)) L t)) ∧ (f_X6_to (A.it i2 (offU (A.ex i2) (spE (A.ex i1) (A.ex i2)) t)) (A.lane i2) L = some (opd A i2 (spE (A.ex i1) (A.ex i2)) L t) ∧ VAL L (opd A i2 (spE (A.ex i1) (A.ex i2)) L t)) := fun t ht => ⟨opd_val c1 w u1 (sz_pos (by omega)) hL t, opd_val c1 w u2 (sz_pos (by omega)) hL t⟩
                          have r2 : ∀ t, t < sz3 (spE (A.ex i1) (A.ex i2)) → ¬ byZ o L (opd A i2 (spE (A.ex i1) (A.ex i2)) L t) → refTwo (nI o) L (opd A i1 (spE (A.ex i1) (A.ex i2)) L t) (opd A i2 (spE (A.ex i1) (A.ex i2)) L t) = some (twoD o L (opd A i1 (spE (A.ex i1) (A.ex i2)) L t) (opd A i2 (spE (A.ex i1) (A.ex i2)) L t)) ∧ VAL (resL o L) (twoD o L (opd A i1 (spE (A.ex i1) (A.ex i2)) L t) (opd A i2 (spE (A.ex i1) (A.ex i2)) L t)) := fun t ht hb => by
                            obtain ⟨_, _, _, _, q4, q5⟩ := c1.twoi ho hL hv (mv t ht).1.2 (mv t ht).2.2 hb
                            exact ⟨q4, q5⟩
                          have actV : ∀ t, t < sz3 (spE (A.ex i1) (A.ex i2)) → VAL (resL o L) (actI A i1 i2 (spE (A.ex i1) (A.ex i2)) o L t) := fun t ht => by
                            rcases byZ_dec o L (opd A i2 (spE (A.ex i1) (A.ex i2)) L t) with q | q
                            · rw [actI_z q]; exact val_z rLn
                            · rw [actI_n q]; exact (r2 t ht q).2
                          have AL := fun (Gs : gG) (ms : MR Gs (b + 9) A asd (fun j => nI (spE (A.ex i1) (A.ex i2) j)) (nI (max (A.rk i1) (A.rk i2))) (nI (sz3 (spE (A.ex i1) (A.ex i2)))) (resL o L) 0) => acts_loop w (se := spE (A.ex i1) (A.ex i2)) (fun j _ => rfl) rfl s60 hz240 u1 u2 ho hL (fun t ht => (mv t ht).1.1) (fun t ht => (mv t ht).2.1) (fun t ht q => (r2 t ht q).1) (sz3 (spE (A.ex i1) (A.ex i2))) 0 fu Gs asd (by omega) ms (fun t ht => by omega) (fun _ t ht => by omega)
                          rcases R with ⟨t, ta, tb, tc, td, G2, row2, te, tf, tg⟩ | ⟨ta, G2, row2, tb, tc, td, te⟩
                          · rw [te, gb2_some, if_neg (nI_n3' (by omega)), gck_true (cf_o tf.o)] at e1
                            refine failL2 w tf (m1.frame tg) hn 5 (nI t) e1 (fun G' mm => ?_)
                            obtain ⟨Gs, x1, x2, x3⟩ := ref3 G' mm
                            have A1 := AL Gs x2
                            rw [← hfu, nI_0] at A1
                            rcases A1 with ⟨t', ya, yb, yc, yd, Gq, asd', f16', ye, yf, yg⟩ | ⟨ya, -⟩
                            · have : t' = t := by
                                rcases Nat.lt_trichotomy t' t with q | q | q
                                · exact absurd yc (td t' q)
                                · exact q
                                · exact absurd tc (yd t q)
                              subst this
                              refine ⟨Gq, asd', _, _, _, _, f16', ?_, yf, x3.trans yg⟩
                              show f_X6_into _ (b + 9) (nI o) (nI i1) (nI i2) (nI z) = _
                              rw [x1, ye, gb2_some, if_neg (by decide)]
                              rfl
                            · exact absurd tc (ya tb t ta)
                          · rw [tb, gb2_some, if_pos rfl, gck_true (cf_o tc.o)] at e1
                            have w' := w.own (A := A) w.st (A.mis + cz A i2 (spE (A.ex i1) (A.ex i2)) o L (sz3 (spE (A.ex i1) (A.ex i2)))) A.fai A.pla
                            have vrow : ∀ t, t < sz3 (A.ex z) → VAL (resL o L) (row2 t) := fun t ht => by
                              rw [← szE] at ht
                              rw [td t ht]; exact actV t ht
                            obtain ⟨fu4, hfu4⟩ : ∃ fu : Nat, 5000 = fu + sz3 (A.ex z) + 1 := ⟨4999 - sz3 (A.ex z), by omega⟩
                            obtain ⟨G3, y1, y2, y3⟩ := mri w' (z := z) hz rLn vrow (sz3 (A.ex z)) 0 fu4 G2 (Nat.zero_add _) ((tc.self z).itc (fun t ht => by unfold mvF; rw [if_neg (by omega)]))
                            rw [← hfu4, nI_0] at y1
                            have m2 := m1.frame (te.trans y3)
                            obtain ⟨Gs, x1, x2, x3⟩ := ref3 G3 m2
                            have A1 := AL Gs x2
                            rw [← hfu, nI_0] at A1
                            rcases A1 with ⟨t', ya, yb, yc, -⟩ | ⟨-, Gq, asd', f16', ye, yf, yg, yh⟩
                            · exact absurd yc (ta yb t' ya)
                            · have eqr : ∀ t, t < sz3 (A.ex z) → asd' t = row2 t := fun t ht => by
                                rw [← szE] at ht
                                rw [yg t ht, td t ht]
                              have mvz : ∀ t, t < sz3 (A.ex z) → f_X6_to (row2 t) (resL o L) (A.lane z) = some (toD (row2 t) (resL o L) (A.lane z)) ∧ VAL (A.lane z) (toD (row2 t) (resL o L) (A.lane z)) := fun t ht => by
                                obtain ⟨_, _, _, _, q4, q5⟩ := c1.move rLn (w.ln z hz) (vrow t ht)
                                exact ⟨q4, q5⟩
                              obtain ⟨Gr, z1, z2, z3⟩ := i301 (b := b) (asd := asd') (ss := nI (sz3 (spE (A.ex i1) (A.ex i2)))) w' (z := z) hz (rl := resL o L) (congrArg nI szE) (fun t ht => by rw [eqr t ht]; exact (mvz t ht).1) (sz3 (A.ex z)) 0 fu4 Gq (Nat.zero_add _) ((yf.self z).itc (g := mvF (fun t => toD (asd' t) (resL o L) (A.lane z)) (A.it z) 0) (fun t ht => by unfold mvF; rw [if_neg (by omega)]; rfl))
                              rw [← hfu4, nI_0] at z1
                              refine fin2 (r := 1) (w'.seti (i := z) (it := mvF (fun t => toD (row2 t) (resL o L) (A.lane z)) (A.it z) (sz3 (A.ex z))) (fun t ht => ?_)) ?_ m2 y2 ?_ (z2.itc (fun t ht => ?_)) ((x3.trans yh).trans z3) hn
                              · show VAL (A.lane z) (mvF (fun t => toD (row2 t) (resL o L) (A.lane z)) (A.it z) (sz3 (A.ex z)) t)
                                have ht : t < sz3 (A.ex z) := ht
                                unfold mvF
                                rw [if_pos ht]
                                exact (mvz t ht).2
                              · rw [e1]
                                unfold f_X5_moveRowInto
                                have y1 : f_X5_moveRowInto_2 5000 G2 b (b + 18 + 4 * z) (resL o L) 0 = some G3 := y1
                                rw [y1, gb_some]
                              · show f_X6_into _ (b + 9) (nI o) (nI i1) (nI i2) (nI z) = _
                                have z1 : f_X6_into_301 5000 Gq (b + 9) (nI z) (resL o L) (A.lane z) 0 = some (1, Gr) := z1
                                rw [x1, ye, gb2_some, if_pos (by decide), z1]
                              · have ht : t < sz3 (A.ex z) := ht
                                show mvF (fun t => toD (asd' t) (resL o L) (A.lane z)) (A.it z) (sz3 (A.ex z)) t = mvF (fun t => toD (row2 t) (resL o L) (A.lane z)) (A.it z) (sz3 (A.ex z)) t
                                unfold mvF
                                rw [if_pos ht, if_pos ht]
                                show toD (asd' t) (resL o L) (A.lane z) = toD (row2 t) (resL o L) (A.lane z)
                                rw [eqr t ht]
                        · omega
                    · rw [if_neg al, if_pos rfl, gck_true (cf_o c1.o)] at e1
                      refine failL2 w c1 m1 hn 6 (-3) e1 (fun G' mm => ?_)
                      obtain ⟨G'', d1, d2, d3⟩ := (rsp G' mm).2 F
                      obtain ⟨Gc, x1, x2, x3⟩ := d1.fl 6 (-3)
                      refine ⟨Gc, _, _, _, _, _, _, ?_, x2, d2.trans x3⟩
                      show f_X6_into _ (b + 9) (nI o) (nI i1) (nI i2) (nI z) = _
                      rw [d3, ← x1]
                      unfold f_X6_into_138
                      by_cases dr : max (A.rk i1) (A.rk i2) = A.rk z
                      · rw [ifp crk dr]
                        have I := i143 (o := o) (i1 := i1) (i2 := i2) d1 w hz (se := spE (A.ex i1) (A.ex i2)) (fun j _ => rfl) s60 (X := max (A.rk i1) (A.rk i2)) (by omega) rfl (max (A.rk i1) (A.rk i2)) 0 fu3 (by omega)
                        rw [← hfu3, nI_0] at I
                        rcases I with ⟨-, y2⟩ | ⟨y1, -⟩
                        · rw [y2]
                        · exfalso
                          have full : ∀ j, j < 3 → spE (A.ex i1) (A.ex i2) j = A.ex z j := fun j hj => by
                            by_cases q : j < max (A.rk i1) (A.rk i2)
                            · exact y1 j (by omega) q
                            · rw [ones j (by omega) hj, w.e1 z hz j (by omega) hj]
                          exact al ⟨dr, full 0 (by omega), full 1 (by omega), full 2 (by omega)⟩
                      · rw [ifn crk dr]
                        have I := i143_no (o := o) (i1 := i1) (i2 := i2) (z := z) d1 (X := max (A.rk i1) (A.rk i2)) (by omega) rfl (max (A.rk i1) (A.rk i2)) 0 fu3 (by omega)
                        rw [← hfu3, nI_0] at I
                        rw [I]
              · exact F1 (by rw [e1, if_pos g1, if_pos g2, if_neg g3]) (fun G' mm => by rw [e2 _ mm, if_pos g1, if_pos g2, if_neg g3])
            · exact F1 (by rw [e1, if_pos g1, if_neg g2]) (fun G' mm => by rw [e2 _ mm, if_pos g1, if_neg g2])
          · exact F1 (by rw [e1, if_neg g1]) (fun G' mm => by rw [e2 _ mm, if_neg g1])
        · refine same2 (r := -1) w c m hn (bad ⟨_, _, _, k1, k2, k3, Or.inr (Or.inr (Or.inl rfl))⟩) ?_
          show f_X6_into _ (b + 9) (nI o) (nI i1) (nI i2) a4 = _
          unfold f_X6_into
          rw [o2, if_neg (by decide), gck_true (mo_o m.o), t1 G mx, gb_some, if_neg (by decide), gck_true (mo_o m.o), t2 G mx, gb_some, if_neg (by decide), gck_true (mo_o m.o), t3 G mx, gb_some, if_pos rfl]
      · obtain ⟨k3, q3⟩ := KX a4
        refine same2 (r := -1) w c m hn (bad ⟨_, _, k3, k1, k2, q3, Or.inr (Or.inl rfl)⟩) ?_
        show f_X6_into _ (b + 9) (nI o) (nI i1) a3 a4 = _
        unfold f_X6_into
        rw [o2, if_neg (by decide), gck_true (mo_o m.o), t1 G mx, gb_some, if_neg (by decide), gck_true (mo_o m.o), t2 G mx, gb_some, if_pos rfl]
    · obtain ⟨k2, q2⟩ := KX a3
      obtain ⟨k3, q3⟩ := KX a4
      refine same2 (r := -1) w c m hn (bad ⟨_, k2, k3, k1, q2, q3, Or.inl rfl⟩) ?_
      show f_X6_into _ (b + 9) (nI o) a2 a3 a4 = _
      unfold f_X6_into
      rw [o2, if_neg (by decide), gck_true (mo_o m.o), t1 G mx, gb_some, if_pos rfl]
  · obtain ⟨k1, q1⟩ := KX a2
    obtain ⟨k2, q2⟩ := KX a3
    obtain ⟨k3, q3⟩ := KX a4
    refine same2 (r := -1) w c m hn (bad ⟨k1, k2, k3, q1, q2, q3, Or.inr (Or.inr (Or.inr o1))⟩) ?_
    show f_X6_into _ (b + 9) a1 a2 a3 a4 = _
    unfold f_X6_into
    rw [o2, if_pos rfl]
