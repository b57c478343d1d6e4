/-! where. -/
def whI (A : AS) (i0 i1 i2 : Nat) (se : Nat → Nat) (L : Int32) (t : Nat) : Int64 := if A.it i0 (offU (A.ex i0) se t) = 0 then opd A i2 se L t else opd A i1 se L t
theorem rbm50 {G : gG} {b : Nat} {A : AS} {sr : Nat} {se : Nat → Nat} {row : Nat → Int64} (c : CR G b A sr se row) (w : WF A) (hs : ∀ j, j < 3 → se j ≤ 60) (hS : sz3 se ≤ 240) {i0 i1 i2 i : Nat} (u : UND A i se) {L : Int32} (hL : LN L) {j : Nat} (hj : j < sz3 se) (k12 : gG → Nat → Int32 → Nat → Nat → Nat → Int32 → Int32 → Option gG) :
    ∃ G', f_X5_rowByMask_50 k12 G b L (b + 18 + 4 * i0) (b + 18 + 4 * i1) (b + 18 + 4 * i2) (nI (sz3 se)) (nI j) (b + 18 + 4 * i) = k12 G' b L (b + 18 + 4 * i0) (b + 18 + 4 * i1) (b + 18 + 4 * i2) (nI (sz3 se)) (nI (j + 1)) ∧ CR G' b A sr se (fset row j (opd A i se L j)) ∧ FC G G' b := by
  have hs0 := sz_pos (se := se) (by omega)
  have T := c.c i u.1
  obtain ⟨G1, m1, m2, m3, -, -⟩ := c.move (w.ln i u.1) hL (w.vl i u.1 (offU (A.ex i) se j) (offU_lt hs0 u.2))
  obtain ⟨G2, p1, p2, p3⟩ := m2.put (j := j) (by omega) (opd A i se L j)
  refine ⟨G2, ?_, p2, m3.trans p3⟩
  unfold f_X5_rowByMask_50
  rw [cf_3 c.o, gb_some, cf_1 c.o, gb_some, cf_2 c.o, gb_some, gck_true (to_o T.o), c.rsp u.1 w hs hs0 u.2 (by omega), gb_some, to_0 T.o, gb_some, gck_true c.a.o, m1, gb2_some]
  have p1 : g_ls G1 (b + 8) (nI j) (toD (A.it i (offU (A.ex i) se j)) (A.lane i) L) = some G2 := p1
  rw [p1, gb_some]
  simp only [gl]
  rw [nI_1]
theorem rbm {b : Nat} {A : AS} {sr : Nat} {se : Nat → Nat} (w : WF A) (hs : ∀ j, j < 3 → se j ≤ 60) (hS : sz3 se ≤ 240) {i0 i1 i2 : Nat} (u0 : UND A i0 se) (u1 : UND A i1 se) (u2 : UND A i2 se) {L : Int32} (hL : LN L) : ∀ (k j fu : Nat) (G : gG) (row : Nat → Int64), j + k = sz3 se → CR G b A sr se row → (∀ t, t < j → row t = whI A i0 i1 i2 se L t) →
    ∃ G' row', f_X5_rowByMask_12 (fu + k + 1) G b L (b + 18 + 4 * i0) (b + 18 + 4 * i1) (b + 18 + 4 * i2) (nI (sz3 se)) (nI j) = some G' ∧ CR G' b A sr se row' ∧ (∀ t, t < sz3 se → row' t = whI A i0 i1 i2 se L t) ∧ FC G G' b := by
  intro k
  induction k with
  | zero =>
    intro j fu G row hk c hq
    have cc : nI (sz3 se) ≤ nI j := (nI_leI (by omega) (by omega)).mpr (by omega)
    refine ⟨G, row, ?_, c, fun t ht => hq t (by omega), FC.refl _ _⟩
    unfold f_X5_rowByMask_12
    rw [if_pos cc]
  | succ k ih =>
    intro j fu G row hk c hq
    have hs0 := sz_pos (se := se) (by omega)
    have T := c.c i0 u0.1
    have cc : nI (sz3 se) ≤ nI j ↔ sz3 se ≤ j := nI_leI (by omega) (by omega)
    have cd : nI 240 ≤ nI j ↔ 240 ≤ j := nI_leI (by omega) (by omega)
    have st : f_X5_rowByMask_12 (fu + (k + 1) + 1) G b L (b + 18 + 4 * i0) (b + 18 + 4 * i1) (b + 18 + 4 * i2) (nI (sz3 se)) (nI j) = if A.it i0 (offU (A.ex i0) se j) = 0 then f_X5_rowByMask_50 (f_X5_rowByMask_12 (fu + k + 1)) G b L (b + 18 + 4 * i0) (b + 18 + 4 * i1) (b + 18 + 4 * i2) (nI (sz3 se)) (nI j) (b + 18 + 4 * i2) else f_X5_rowByMask_50 (f_X5_rowByMask_12 (fu + k + 1)) G b L (b + 18 + 4 * i0) (b + 18 + 4 * i1) (b + 18 + 4 * i2) (nI (sz3 se)) (nI j) (b + 18 + 4 * i1) := by
      rw [show fu + (k + 1) + 1 = (fu + k + 1) + 1 by omega, f_X5_rowByMask_12, ifn cc (by omega), cf_3 c.o, gb_some, c.w.len, gb_some, ifn cd (by omega), cf_2 c.o, gb_some, gck_true (to_o T.o), c.rsp u0.1 w hs hs0 u0.2 (by omega), gb_some]
    by_cases d : A.it i0 (offU (A.ex i0) se j) = 0
    · rw [if_pos d] at st
      obtain ⟨G1, q1, q2, q3⟩ := rbm50 (i0 := i0) (i1 := i1) (i2 := i2) c w hs hS u2 hL (j := j) (by omega) (f_X5_rowByMask_12 (fu + k + 1))
      have ev : opd A i2 se L j = whI A i0 i1 i2 se L j := by unfold whI; rw [if_pos d]
      rw [ev] at q2
      obtain ⟨G', row', r1, r2, r3, r4⟩ := ih (j + 1) fu G1 _ (by omega) q2 (fset_lt (g := whI A i0 i1 i2 se L) hq)
      exact ⟨G', row', by rw [st, q1, r1], r2, r3, q3.trans r4⟩
    · rw [if_neg d] at st
      obtain ⟨G1, q1, q2, q3⟩ := rbm50 (i0 := i0) (i1 := i1) (i2 := i2) c w hs hS u1 hL (j := j) (by omega) (f_X5_rowByMask_12 (fu + k + 1))
      have ev : opd A i1 se L j = whI A i0 i1 i2 se L j := by unfold whI; rw [if_neg d]
      rw [ev] at q2
      obtain ⟨G', row', r1, r2, r3, r4⟩ := ih (j + 1) fu G1 _ (by omega) q2 (fset_lt (g := whI A i0 i1 i2 se L) hq)
      exact ⟨G', row', by rw [st, q1, r1], r2, r3, q3.trans r4⟩
theorem wh172 {b : Nat} {A : AS} {spr : Nat → Int32} {sd ss f15 f16 : Int32} (w : WF A) {se : Nat → Nat} (hse : ∀ j, j < 3 → spr j = nI (se j)) (hss : ss = nI (sz3 se)) (hs : ∀ j, j < 3 → se j ≤ 60) (hS : sz3 se ≤ 240) {i0 i1 i2 : Nat} (u0 : UND A i0 se) (u1 : UND A i1 se) (u2 : UND A i2 se) {L : Int32} (t1 : ∀ t, t < sz3 se → f_X6_to (A.it i1 (offU (A.ex i1) se t)) (A.lane i1) L = some (opd A i1 se L t)) (t2 : ∀ t, t < sz3 se → f_X6_to (A.it i2 (offU (A.ex i2) se t)) (A.lane i2) L = some (opd A i2 se L t)) : ∀ (k j fu : Nat) (G : gG) (asd : Nat → Int64), j + k = sz3 se → MR G (b + 9) A asd spr sd ss f15 f16 → (∀ t, t < j → asd t = whI A i0 i1 i2 se L t) →
    ∃ G' asd', f_X6_where_172 (fu + k + 1) G (b + 9) (nI i0) (nI i1) (nI i2) L (nI j) = (gb2 (f_X6_made G' (b + 9) L) fun r G3 => some (r, G3)) ∧ MR G' (b + 9) A asd' spr sd ss f15 f16 ∧ (∀ t, t < sz3 se → asd' t = whI A i0 i1 i2 se L t) ∧ FM G G' b := by
  intro k
  induction k with
  | zero =>
    intro j fu G asd hk m hq
    have cc : ss ≤ nI j := by rw [hss]; exact (nI_leI (by omega) (by omega)).mpr (by omega)
    refine ⟨G, asd, ?_, m, fun t ht => hq t (by omega), FM.refl _ _⟩
    unfold f_X6_where_172
    rw [mo_14 m.o, gb_some, if_pos cc, gck_true (mo_o m.o)]
  | succ k ih =>
    intro j fu G asd hk m hq
    have hs0 := sz_pos (se := se) (by omega)
    have cc : ss ≤ nI j ↔ sz3 se ≤ j := by rw [hss]; exact nI_leI (by omega) (by omega)
    obtain ⟨G1, p1, p2, p3⟩ := m.aput (j := j) (by omega) (whI A i0 i1 i2 se L j)
    obtain ⟨G', asd', q1, q2, q3, q4⟩ := ih (j + 1) fu G1 _ (by omega) p2 (fset_lt (g := whI A i0 i1 i2 se L) hq)
    refine ⟨G', asd', ?_, q2, q3, p3.trans q4⟩
    rw [← q1, show fu + (k + 1) + 1 = (fu + k + 1) + 1 by omega, f_X6_where_172, mo_14 m.o, gb_some, ifn cc (by omega), mo_7 m.o, gb_some, gck_true (mo_o m.o), m.at w u0.1 hse hs hs0 u0.2 (by omega), gb_some]
    by_cases d : A.it i0 (offU (A.ex i0) se j) = 0
    · have ev : whI A i0 i1 i2 se L j = opd A i2 se L j := by unfold whI; rw [if_pos d]
      rw [ev] at p1
      unfold f_X6_where_238
      rw [if_pos d, gck_true (mo_o m.o), m.at w u2.1 hse hs hs0 u2.2 (by omega), gb_some, mo_1 m.o, gb_some, m.lane w u2.1, gb_some, t2 j (by omega), gb_some, p1, gb_some]
      simp only [gl]
      rw [nI_1]
    · have ev : whI A i0 i1 i2 se L j = opd A i1 se L j := by unfold whI; rw [if_neg d]
      rw [ev] at p1
      unfold f_X6_where_238
      rw [if_neg d, gck_true (mo_o m.o), m.at w u1.1 hse hs hs0 u1.2 (by omega), gb_some, mo_1 m.o, gb_some, m.lane w u1.1, gb_some, t1 j (by omega), gb_some, p1, gb_some]
      simp only [gl]
      rw [nI_1]
theorem call_where {G : gG} {b n : Nat} {A : AS} (h : REL G b n A) (a1 a2 a3 : Int32) : C3 b A (f_X5_where G n b a1 a2 a3) (fun G' => f_X6_where G' (b + 9) a1 a2 a3) := by
  obtain ⟨w, hn, ⟨sr, se, row, c⟩, ⟨asd, spr, sd, ss, f15, f16, m⟩⟩ := h
  have mx : MX G (b + 9) A := ⟨_, _, _, _, _, _, m⟩
  have h16 := w.n16
  have KX : ∀ a, ∃ k : Option Nat, f_X5_known G b a = some k := fun a => by
    rcases kn w c a with ⟨_, _, _, k, _⟩ | ⟨k, _⟩
    · exact ⟨_, k⟩
    · exact ⟨_, k⟩
  have bad : (∃ k1 k2 k3, f_X5_known G b a1 = some k1 ∧ f_X5_known G b a2 = some k2 ∧ f_X5_known G b a3 = some k3 ∧ (k1 = none ∨ k2 = none ∨ k3 = none)) → f_X5_where G n b a1 a2 a3 = some (-1, G, n) := by
    rintro ⟨k1, k2, k3, e1, e2, e3, hh⟩
    unfold f_X5_where
    rw [gck_true (cf_o c.o), e1, gb_some, gck_true (cf_o c.o), e2, gb_some, gck_true (cf_o c.o), e3, gb_some]
    cases k1 with
    | none => rfl
    | some p =>
      cases k2 with
      | none => rfl
      | some q =>
        cases k3 with
        | none => rfl
        | some r =>
          rcases hh with hh | hh | hh
          · cases hh
          · cases hh
          · cases hh
  rcases kn w c a1 with ⟨i0, h0, rfl, k0, t0⟩ | ⟨k0, t0⟩
  · rcases kn w c a2 with ⟨i1, h1, rfl, k1, t1⟩ | ⟨k1, t1⟩
    · rcases kn w c a3 with ⟨i2, h2, rfl, k2, t2⟩ | ⟨k2, t2⟩
      · have T0 := c.c i0 h0
        have T1 := c.c i1 h1
        have T2 := c.c i2 h2
        by_cases hN : A.N = 16
        · refine same3 (r := -2) w c m hn ?_ ?_
          · unfold f_X5_where
            rw [gck_true (cf_o c.o), k0, gb_some, gck_true (cf_o c.o), k1, gb_some, gck_true (cf_o c.o), k2, gb_some]
            show (gck (g_isO G b 4) _) = _
            rw [gck_true (cf_o c.o), full_ok c w, gb_some, if_pos hN, if_neg (by decide)]
          · show f_X6_where _ (b + 9) (nI i0) (nI i1) (nI i2) = _
            unfold f_X6_where
            rw [gck_true (mo_o m.o), t0 G mx, gb_some, if_neg (by decide), gck_true (mo_o m.o), t1 G mx, gb_some, if_neg (by decide), gck_true (mo_o m.o), t2 G mx, gb_some, if_neg (by decide), mo_0 m.o, gb_some, ifp (full_I w) hN]
        · have e1 : f_X5_where G n b (nI i0) (nI i1) (nI i2) = if A.gone i0 = 0 then (if A.gone i1 = 0 then (if A.gone i2 = 0 then (if A.lane i0 = 0 then gb2 (f_X5_spreadOf G b (b + 18 + 4 * i1) (b + 18 + 4 * i2)) fun r12 G13 => if r12 = -3 then (gb (g_fA G13 b 4 2) fun g14 => gb (g_fA G13 (b + 18 + 4 * i0) 3 1) fun g15 => gck (g_isO G13 g14 2) <| gb2 (f_X3_spreadWith G13 g14 g15) fun r16 G17 => f_X5_where_127 G17 n b (b + 18 + 4 * i0) (b + 18 + 4 * i1) (b + 18 + 4 * i2) r16) else f_X5_where_127 G13 n b (b + 18 + 4 * i0) (b + 18 + 4 * i1) (b + 18 + 4 * i2) r12 else (gb2 (f_X5_failed G b 4 (-3)) fun r G' => some (r, G', n))) else gb2 (f_X5_failed G b 1 (-3)) fun r G' => some (r, G', n)) else gb2 (f_X5_failed G b 1 (-3)) fun r G' => some (r, G', n)) else gb2 (f_X5_failed G b 1 (-3)) fun r G' => some (r, G', n) := by
            unfold f_X5_where f_X5_where_72
            rw [gck_true (cf_o c.o), k0, gb_some, gck_true (cf_o c.o), k1, gb_some, gck_true (cf_o c.o), k2, gb_some]
            show (gck (g_isO G b 4) _) = _
            rw [gck_true (cf_o c.o), full_ok c w, gb_some, if_neg hN, if_pos rfl, to_3 T0.o, gb_some, to_3 T1.o, gb_some, to_3 T2.o, gb_some, to_0 T0.o, gb_some]
            simp only [gck_true (cf_o c.o)]
          have e2 : ∀ G', MX G' (b + 9) A → f_X6_where G' (b + 9) (nI i0) (nI i1) (nI i2) = if A.gone i0 = 0 then (if A.gone i1 = 0 then (if A.gone i2 = 0 then (if A.lane i0 = 0 then (gb (f_X6_begin G' (b + 9) (nI i1)) fun G13 => gck (g_isO G13 (b + 9) 5) <| gb2 (f_X6_spreadWith G13 (b + 9) (nI i2)) fun r14 G15 => if r14 < 0 then (gck (g_isO G15 (b + 9) 5) <| gb2 (f_X6_spreadWith G15 (b + 9) (nI i0)) fun r16 G17 => f_X6_where_117 G17 (b + 9) (nI i0) (nI i1) (nI i2) r16) else f_X6_where_117 G15 (b + 9) (nI i0) (nI i1) (nI i2) r14) else gb2 (f_X6_fails G' (b + 9) 4 (-3)) fun r G'' => some (r, G'')) else gb2 (f_X6_fails G' (b + 9) 1 (-3)) fun r G'' => some (r, G'')) else gb2 (f_X6_fails G' (b + 9) 1 (-3)) fun r G'' => some (r, G'')) else gb2 (f_X6_fails G' (b + 9) 1 (-3)) fun r G'' => some (r, G'') := by
            rintro G' ⟨_, _, _, _, _, _, mm⟩
            unfold f_X6_where f_X6_where_65
            rw [gck_true (mo_o mm.o), t0 G' ⟨_, _, _, _, _, _, mm⟩, gb_some, if_neg (by decide), gck_true (mo_o mm.o), t1 G' ⟨_, _, _, _, _, _, mm⟩, gb_some, if_neg (by decide), gck_true (mo_o mm.o), t2 G' ⟨_, _, _, _, _, _, mm⟩, gb_some, if_neg (by decide), mo_0 mm.o, gb_some, ifn (full_I w) hN, mo_5 mm.o, gb_some, mm.gone w h0, gb_some, gb_some, mm.gone w h1, gb_some, gb_some, mm.gone w h2, gb_some, mo_1 mm.o, gb_some, mm.lane w h0, gb_some]
            simp only [gck_true (mo_o mm.o)]
          have F1 : (k p : Int32) → (f_X5_where G n b (nI i0) (nI i1) (nI i2) = gb2 (f_X5_failed G b k p) fun r G' => some (r, G', n)) → (∀ G', MX G' (b + 9) A → f_X6_where G' (b + 9) (nI i0) (nI i1) (nI i2) = gb2 (f_X6_fails G' (b + 9) k p) fun r G'' => some (r, G'')) → C3 b A (f_X5_where G n b (nI i0) (nI i1) (nI i2)) (fun G' => f_X6_where G' (b + 9) (nI i0) (nI i1) (nI i2)) := fun k p q1 q2 => fail3 w c m hn k p q1 (fun G' mm => q2 G' ⟨_, _, _, _, _, _, mm⟩)
          by_cases g0 : A.gone i0 = 0
          · by_cases g1 : A.gone i1 = 0
            · by_cases g2 : A.gone i2 = 0
              · by_cases l0 : A.lane i0 = 0
                · simp only [if_pos g0, if_pos g1, if_pos g2, if_pos l0] at e1 e2
                  have s60 := spE_60 (w.e60 i1 h1) (w.e60 i2 h2)
                  have z60 := spE_60 s60 (w.e60 i0 h0)
                  have sM := sz_60 z60
                  have rk0 := w.rk3 i0 h0
                  have rk1 := w.rk3 i1 h1
                  have rk2 := w.rk3 i2 h2
                  have ones := spE_1 (w.e1 i1 h1) (w.e1 i2 h2)
                  have ones' := spE_1 ones (w.e1 i0 h0)
                  have jo := join_ok (w.ln i1 h1) (w.ln i2 h2)
                  obtain ⟨L, hLd⟩ : ∃ L, f_X6_joined (A.lane i1) (A.lane i2) = L := ⟨_, rfl⟩
                  rw [hLd] at jo
                  have c240 : nI (sz3 (spE (spE (A.ex i1) (A.ex i2)) (A.ex i0))) ≤ 240 ↔ sz3 (spE (spE (A.ex i1) (A.ex i2)) (A.ex i0)) ≤ 240 := nI_leI (b := 240) (by omega) (by omega)
                  -- where the reference comes to
                  have neg117 : ∀ G' (s : Int32), MX G' (b + 9) A → ¬ s < 0 → f_X6_where_117 G' (b + 9) (nI i0) (nI i1) (nI i2) s = gb2 (f_X6_fails G' (b + 9) 6 s) fun r G'' => some (r, G'') := by
                    rintro G' s ⟨_, _, _, _, _, _, mm⟩ q
                    unfold f_X6_where_117
                    rw [if_neg q, gck_true (mo_o mm.o)]
                  have ref : ∀ G', MR G' (b + 9) A asd spr sd ss f15 f16 →
                      (spF (A.ex i1) (A.ex i2) < 3 → ∃ G'' asd' spr' sd' ss' f15' f16', f_X6_where G' (b + 9) (nI i0) (nI i1) (nI i2) = some (-16, G'') ∧ MR G'' (b + 9) (A.own A.set A.mis (A.fai + 1) (nI (spF (A.ex i1) (A.ex i2)))) asd' spr' sd' ss' f15' f16' ∧ FM G' G'' b) ∧
                      (spF (A.ex i1) (A.ex i2) = 3 → (spF (spE (A.ex i1) (A.ex i2)) (A.ex i0) < 3 → ∃ G'' asd' spr' sd' ss' f15' f16', f_X6_where G' (b + 9) (nI i0) (nI i1) (nI i2) = some (-16, G'') ∧ MR G'' (b + 9) (A.own A.set A.mis (A.fai + 1) (nI (spF (spE (A.ex i1) (A.ex i2)) (A.ex i0)))) asd' spr' sd' ss' f15' f16' ∧ FM G' G'' b) ∧
                        (spF (spE (A.ex i1) (A.ex i2)) (A.ex i0) = 3 → ∃ G'', f_X6_where G' (b + 9) (nI i0) (nI i1) (nI i2) = f_X6_where_117 G'' (b + 9) (nI i0) (nI i1) (nI i2) (-1) ∧ MR G'' (b + 9) A asd (fun j => nI (spE (spE (A.ex i1) (A.ex i2)) (A.ex i0) j)) (nI (max (max (A.rk i1) (A.rk i2)) (A.rk i0))) (nI (sz3 (spE (spE (A.ex i1) (A.ex i2)) (A.ex i0)))) f15 f16 ∧ FM G' G'' b)) := by
                    intro G' mm
                    obtain ⟨Ga, b1, b2, b3⟩ := mm.begin (b := b) rfl w h1
                    have S := b2.spw (b := b) rfl w h2 (se := A.ex i1) (sr := A.rk i1) (fun j _ => rfl) rfl (w.e60 i1 h1) rk1 (w.e1 i1 h1)
                    have st := e2 G' ⟨_, _, _, _, _, _, mm⟩
                    rw [b1, gb_some, gck_true (mo_o b2.o)] at st
                    rcases S with ⟨q1, q2⟩ | ⟨q1, Gb, q2, q3, q4⟩
                    · refine ⟨fun _ => ?_, fun q => by omega⟩
                      obtain ⟨Gc, d1, d2, d3⟩ := b2.fl 6 (nI (spF (A.ex i1) (A.ex i2)))
                      refine ⟨Gc, _, _, _, _, _, _, ?_, d2, b3.trans d3⟩
                      rw [st, q2, gb2_some, if_neg (nI_pos (by omega)), neg117 _ _ ⟨_, _, _, _, _, _, b2⟩ (nI_pos (by omega)), d1]
                      rfl
                    · refine ⟨fun q => by omega, fun _ => ?_⟩
                      have S2 := q3.spw (b := b) rfl w h0 (se := spE (A.ex i1) (A.ex i2)) (sr := max (A.rk i1) (A.rk i2)) (fun j _ => rfl) rfl s60 (by omega) ones
                      rw [q2, gb2_some, if_pos (by decide), gck_true (mo_o q3.o)] at st
                      rcases S2 with ⟨y1, y2⟩ | ⟨y1, Ge, y2, y3, y4⟩
                      · refine ⟨fun _ => ?_, fun q => by omega⟩
                        obtain ⟨Gc, d1, d2, d3⟩ := q3.fl 6 (nI (spF (spE (A.ex i1) (A.ex i2)) (A.ex i0)))
                        refine ⟨Gc, _, _, _, _, _, _, ?_, d2, (b3.trans q4).trans d3⟩
                        rw [st, y2, gb2_some, neg117 _ _ ⟨_, _, _, _, _, _, q3⟩ (nI_pos (by omega)), d1]
                        rfl
                      · exact ⟨fun q => by omega, fun _ => ⟨Ge, by rw [st, y2, gb2_some], y3, (b3.trans q4).trans y4⟩⟩
                  have neg127 : ∀ G' (s : Int32) {A' : AS} {sr' : Nat} {se' : Nat → Nat} {row' : Nat → Int64}, CR G' b A' sr' se' row' → ¬ s = -3 → f_X5_where_127 G' n b (b + 18 + 4 * i0) (b + 18 + 4 * i1) (b + 18 + 4 * i2) s = gb2 (f_X5_failed G' b 6 s) fun r G'' => some (r, G'', n) := by
                    intro G' s A' sr' se' row' cc q
                    unfold f_X5_where_127 f_X5_where_147
                    rw [if_neg q, gck_true (cf_o cc.o)]
                  obtain ⟨G1, sr', se', c1, f1, cs⟩ := c.spO w h1 h2
                  have m1 := m.frame f1
                  rcases cs with ⟨F, cE⟩ | ⟨F, cE, rfl, rfl⟩
                  · rw [cE, gb2_some, if_neg (nI_n3' (by omega)), neg127 _ _ c1 (nI_n3' (by omega))] at e1
                    refine fail3' (G := G) w c1 m1 hn 6 (nI (spF (A.ex i1) (A.ex i2))) e1 (fun G' mm => ?_)
                    exact (ref G' mm).1 F
                  · have T0' := c1.c i0 h0
                    rw [cE, gb2_some, if_pos rfl, cf_2 c1.o, gb_some, to_1 T0'.o, gb_some, gck_true (so_o c1.s)] at e1
                    obtain ⟨G2, sr2, se2, c2, f2, cs2⟩ := c1.spw h0 w s60 (by omega)
                    have m2 := m1.frame f2
                    rcases cs2 with ⟨F', cE'⟩ | ⟨F', cE', rfl, rfl⟩
                    · rw [cE', gb2_some, neg127 _ _ c2 (nI_n3' (by omega))] at e1
                      refine fail3' (G := G) w c2 m2 hn 6 (nI (spF (spE (A.ex i1) (A.ex i2)) (A.ex i0))) e1 (fun G' mm => ?_)
                      exact ((ref G' mm).2 F).1 F'
                    · rw [cE', gb2_some] at e1
                      unfold f_X5_where_127 f_X5_where_147 at e1
                      rw [if_pos rfl, cf_2 c2.o, gb_some, gck_true (so_o c2.s), c2.sh.size, gb_some] at e1
                      by_cases hz : sz3 (spE (spE (A.ex i1) (A.ex i2)) (A.ex i0)) ≤ 240
                      · rw [ifp c240 hz, to_0 (c2.c i1 h1).o, gb_some, to_0 (c2.c i2 h2).o, gb_some] at e1
                        simp only [gl] at e1
                        rw [jo.1, gck_true (cf_o c2.o)] at e1
                        rcases spF_cs (A.ex i1) (A.ex i2) with ⟨-, ok⟩ | ⟨q, -⟩
                        · rcases spF_cs (spE (A.ex i1) (A.ex i2)) (A.ex i0) with ⟨-, ok'⟩ | ⟨q, -⟩
                          · have U := spE_und ok
                            have U' := spE_und ok'
                            have u0 : UND A i0 (spE (spE (A.ex i1) (A.ex i2)) (A.ex i0)) := ⟨h0, fun j hj => (U' j hj).2⟩
                            have u1 : UND A i1 (spE (spE (A.ex i1) (A.ex i2)) (A.ex i0)) := ⟨h1, fun j hj => by
                              rcases (U j hj).1 with q | q
                              · exact Or.inl q
                              · rw [q]; exact (U' j hj).1⟩
                            have u2 : UND A i2 (spE (spE (A.ex i1) (A.ex i2)) (A.ex i0)) := ⟨h2, fun j hj => by
                              rcases (U j hj).2 with q | q
                              · exact Or.inl q
                              · rw [q]; exact (U' j hj).1⟩
                            obtain ⟨fu, hfu⟩ : ∃ fu : Nat, 5000 = fu + sz3 (spE (spE (A.ex i1) (A.ex i2)) (A.ex i0)) + 1 := ⟨4999 - sz3 (spE (spE (A.ex i1) (A.ex i2)) (A.ex i0)), by omega⟩
                            obtain ⟨G3, row3, x1, x2, x3, x4⟩ := rbm (i0 := i0) (i1 := i1) (i2 := i2) w z60 hz u0 u1 u2 jo.2 (sz3 (spE (spE (A.ex i1) (A.ex i2)) (A.ex i0))) 0 fu G2 row (by omega) c2 (fun t ht => by omega)
                            rw [← hfu, nI_0] at x1
                            have eR : f_X5_rowByMask G2 b L (b + 18 + 4 * i0) (b + 18 + 4 * i1) (b + 18 + 4 * i2) = some G3 := by
                              unfold f_X5_rowByMask
                              rw [cf_2 c2.o, gb_some, gck_true (so_o c2.s), c2.sh.size, gb_some, x1]
                            rw [eR, gb_some, gck_true (cf_o x2.o)] at e1
                            have v1 : ∀ t, t < sz3 (spE (spE (A.ex i1) (A.ex i2)) (A.ex i0)) → _ := fun t (ht : t < sz3 (spE (spE (A.ex i1) (A.ex i2)) (A.ex i0))) => opd_val c2 w u1 (sz_pos (by omega)) jo.2 t
                            have v2 : ∀ t, t < sz3 (spE (spE (A.ex i1) (A.ex i2)) (A.ex i0)) → _ := fun t (ht : t < sz3 (spE (spE (A.ex i1) (A.ex i2)) (A.ex i0))) => opd_val c2 w u2 (sz_pos (by omega)) jo.2 t
                            have m3 := m2.frame x4
                            refine make3 w (by omega) x2 m3 jo.2 (by omega) z60 ones' hz (fun j hj => ?_) (by rw [e1, hn]) (fun G' mm => ?_)
                            · rw [x3 j hj]
                              unfold whI
                              split
                              · exact (v2 j hj).2
                              · exact (v1 j hj).2
                            · obtain ⟨G'', d1, d2, d3⟩ := ((ref G' mm).2 F).2 F'
                              obtain ⟨G4, asd4, y1, y2, y3, y4⟩ := wh172 (i0 := i0) (i1 := i1) (i2 := i2) (L := L) w (se := spE (spE (A.ex i1) (A.ex i2)) (A.ex i0)) (fun j _ => rfl) rfl z60 hz u0 u1 u2 (fun t ht => (v1 t ht).1) (fun t ht => (v2 t ht).1) (sz3 (spE (spE (A.ex i1) (A.ex i2)) (A.ex i0))) 0 fu G'' asd (by omega) d2 (fun t ht => by omega)
                              rw [← hfu, nI_0] at y1
                              refine ⟨G4, asd4, _, _, _, ?_, y2, fun j _ => rfl, fun j hj => by rw [y3 j hj, x3 j hj], d3.trans y4⟩
                              show f_X6_where _ (b + 9) (nI i0) (nI i1) (nI i2) = _
                              rw [d1]
                              unfold f_X6_where_117
                              rw [if_pos (by decide), mo_14 d2.o, gb_some, ifp c240 hz, mo_1 d2.o, gb_some, d2.lane w h1, gb_some, gb_some, d2.lane w h2, gb_some]
                              simp only [gl]
                              rw [hLd, y1]
                          · omega
                        · omega
                      · rw [ifn c240 hz, gck_true (cf_o c2.o)] at e1
                        refine fail3' (G := G) w c2 m2 hn 6 (-3) e1 (fun G' mm => ?_)
                        obtain ⟨G'', d1, d2, d3⟩ := ((ref G' mm).2 F).2 F'
                        obtain ⟨Gc, y1, y2, y3⟩ := d2.fl 6 (-3)
                        refine ⟨Gc, _, _, _, _, _, _, ?_, y2, d3.trans y3⟩
                        show f_X6_where _ (b + 9) (nI i0) (nI i1) (nI i2) = _
                        rw [d1]
                        unfold f_X6_where_117
                        rw [if_pos (by decide), mo_14 d2.o, gb_some, ifn c240 hz, gck_true (mo_o d2.o), y1]
                · exact F1 4 (-3) (by rw [e1, if_pos g0, if_pos g1, if_pos g2, if_neg l0]) (fun G' mm => by rw [e2 _ mm, if_pos g0, if_pos g1, if_pos g2, if_neg l0])
              · exact F1 1 (-3) (by rw [e1, if_pos g0, if_pos g1, if_neg g2]) (fun G' mm => by rw [e2 _ mm, if_pos g0, if_pos g1, if_neg g2])
            · exact F1 1 (-3) (by rw [e1, if_pos g0, if_neg g1]) (fun G' mm => by rw [e2 _ mm, if_pos g0, if_neg g1])
          · exact F1 1 (-3) (by rw [e1, if_neg g0]) (fun G' mm => by rw [e2 _ mm, if_neg g0])
      · refine same3 (r := -1) w c m hn (bad ⟨_, _, _, k0, k1, k2, Or.inr (Or.inr rfl)⟩) ?_
        show f_X6_where _ (b + 9) (nI i0) (nI i1) a3 = _
        unfold f_X6_where
        rw [gck_true (mo_o m.o), t0 G mx, gb_some, if_neg (by decide), gck_true (mo_o m.o), t1 G mx, gb_some, if_neg (by decide), gck_true (mo_o m.o), t2 G mx, gb_some, if_pos rfl]
    · obtain ⟨k2, q2⟩ := KX a3
      refine same3 (r := -1) w c m hn (bad ⟨_, _, k2, k0, k1, q2, Or.inr (Or.inl rfl)⟩) ?_
      show f_X6_where _ (b + 9) (nI i0) a2 a3 = _
      unfold f_X6_where
      rw [gck_true (mo_o m.o), t0 G mx, gb_some, if_neg (by decide), gck_true (mo_o m.o), t1 G mx, gb_some, if_pos rfl]
  · obtain ⟨k1, q1⟩ := KX a2
    obtain ⟨k2, q2⟩ := KX a3
    refine same3 (r := -1) w c m hn (bad ⟨_, k1, k2, k0, q1, q2, Or.inl rfl⟩) ?_
    show f_X6_where _ (b + 9) a1 a2 a3 = _
    unfold f_X6_where
    rw [gck_true (mo_o m.o), t0 G mx, gb_some, if_pos rfl]
