/-! free, setting, item, bits, of, place, count. -/
def AS.setg (A : AS) (i : Nat) : AS := mkA A.N A.lane A.rk A.ex (fset A.gone i 1) A.it A.set A.mis A.fai A.pla
def AS.seti (A : AS) (i : Nat) (it : Nat → Int64) : AS := mkA A.N A.lane A.rk A.ex A.gone (fset A.it i it) A.set A.mis A.fai A.pla
theorem setg_gone (A : AS) (i : Nat) : (A.setg i).gone = fset A.gone i 1 := rfl
theorem seti_it (A : AS) (i : Nat) (it : Nat → Int64) : (A.seti i it).it = fset A.it i it := rfl
theorem WF.setg {A : AS} (w : WF A) (i : Nat) : WF (A.setg i) := by
  refine ⟨w.n16, w.st, w.ln, w.rk3, w.e60, w.e1, fun k hk => ?_, w.sz, w.vl⟩
  rw [setg_gone]
  by_cases z : k = i
  · rw [z, fset_s]; exact Or.inr rfl
  · rw [fset_n z]; exact w.gn k hk
theorem WF.seti {A : AS} (w : WF A) {i : Nat} {it : Nat → Int64} (h : ∀ j, j < sz3 (A.ex i) → VAL (A.lane i) (it j)) : WF (A.seti i it) := by
  refine ⟨w.n16, w.st, w.ln, w.rk3, w.e60, w.e1, w.gn, w.sz, fun k hk => ?_⟩
  rw [seti_it]
  by_cases z : k = i
  · rw [z, fset_s]; exact h
  · rw [fset_n z]; exact w.vl k hk
section S
variable {G : gG} {b n : Nat} {A : AS} {sr : Nat} {se : Nat → Nat} {row : Nat → Int64} {asd : Nat → Int64} {spr : Nat → Int32} {sd ss f15 f16 : Int32}
theorem CR.gone (c : CR G b A sr se row) {i : Nat} (hi : i < A.N) : CR (g_up G (b + 18 + 4 * i) (tob (b + 18 + 4 * i) (A.lane i) 1)) b (A.setg i) sr se row := by
  refine ⟨by rw [g_up_ne (by omega)]; exact c.o, c.t.frame (g_up_ne (by omega)), c.a.frame (g_up_ne (by omega)) (g_up_ne (by omega)) (g_up_ne (by omega)) (g_up_ne (by omega)), by rw [g_up_ne (by omega)]; exact c.s, c.e.frame (g_up_ne (by omega)), c.w.frame (g_up_ne (by omega)), fun k hk => ?_⟩
  rw [setg_gone]
  by_cases z : k = i
  · rw [z, fset_s]
    have T := c.c i hi
    exact ⟨g_up_same _ _ _, by rw [g_up_ne (by omega)]; exact T.s, T.e.frame (g_up_ne (by omega)), T.i.frame (g_up_ne (by omega))⟩
  · rw [fset_n z]
    exact (c.c k hk).frame (fun a h1 h2 => g_up_ne (by omega))
theorem CR.items (c : CR G b A sr se row) {i : Nat} (hi : i < A.N) {ce : gC} {it : Nat → Int64} (hc : LC ce (sz3 (A.ex i)) it) : CR (g_up G (b + 18 + 4 * i + 3) ce) b (A.seti i it) sr se row := by
  refine ⟨by rw [g_up_ne (by omega)]; exact c.o, c.t.frame (g_up_ne (by omega)), c.a.frame (g_up_ne (by omega)) (g_up_ne (by omega)) (g_up_ne (by omega)) (g_up_ne (by omega)), by rw [g_up_ne (by omega)]; exact c.s, c.e.frame (g_up_ne (by omega)), c.w.frame (g_up_ne (by omega)), fun k hk => ?_⟩
  rw [seti_it]
  by_cases z : k = i
  · rw [z, fset_s]
    have T := c.c i hi
    exact ⟨by rw [g_up_ne (by omega)]; exact T.o, by rw [g_up_ne (by omega)]; exact T.s, T.e.frame (g_up_ne (by omega)), ⟨ce, g_up_same _ _ _, hc⟩⟩
  · rw [fset_n z]
    exact (c.c k hk).frame (fun a h1 h2 => g_up_ne (by omega))
/-- one item of the reference -/
theorem MR.put (m : MR G (b + 9) A asd spr sd ss f15 f16) (w : WF A) {i : Nat} (hi : i < A.N) {j : Nat} (hj : j < sz3 (A.ex i)) (v : Int64) : ∃ G', g_ls G (b + 9 + 6) (((240 : Int32) * nI i) + nI j) v = some G' ∧ MR G' (b + 9) (A.seti i (fset (A.it i) j v)) asd spr sd ss f15 f16 ∧ FM G G' b := by
  obtain ⟨L1, L2, L3, L4, L5, L6, H, T⟩ := m.mh
  have h16 := w.n16
  have hz := w.sz i hi
  obtain ⟨c, a1, a2⟩ := H.2.2.2.2.2.2.1.ls (i := 240 * i + j) (by omega) (by omega) v
  refine ⟨g_up G (b + 9 + 6) c, ?_, MH.mr (A := A.seti i (fset (A.it i) j v)) (H.u6 a2) ⟨T.l1, T.l2, T.l3, T.l4, T.l5, fun k hk x hx => ?_, T.g0⟩, FM.up (by omega)⟩
  · rw [show (240 : Int32) = nI 240 from rfl, pk_mul, nI_add, a1]
  · rw [seti_it]
    have hk : k < A.N := hk
    have hx : x < sz3 (A.ex k) := hx
    have hzk := w.sz k hk
    by_cases z : k = i
    · subst z
      rw [fset_s]
      by_cases y : x = j
      · rw [y, fset_s, fset_s]
      · rw [fset_n (by omega), fset_n y]; exact T.l6 k hk x hx
    · rw [fset_n z, fset_n (by omega)]; exact T.l6 k hk x hx
theorem MR.setg (m : MR G (b + 9) A asd spr sd ss f15 f16) (w : WF A) {i : Nat} (hi : i < A.N) : ∃ G', g_zs G (b + 9 + 5) (nI i) 1 = some G' ∧ MR G' (b + 9) (A.setg i) asd spr sd ss f15 f16 ∧ FM G G' b := by
  obtain ⟨L1, L2, L3, L4, L5, L6, H, T⟩ := m.mh
  have h16 := w.n16
  obtain ⟨c, a1, a2⟩ := H.2.2.2.2.2.1.zs (i := i) (by omega) (by omega)
  refine ⟨g_up G (b + 9 + 5) c, a1, MH.mr (A := A.setg i) (H.u5 a2) ⟨T.l1, T.l2, T.l3, T.l4, fun k hk => ?_, T.l6, fun k h1 h2 => ?_⟩, FM.up (by omega)⟩
  · rw [setg_gone]
    by_cases z : k = i
    · rw [z, fset_s, fset_s]
    · rw [fset_n z, fset_n z]; exact T.l5 k hk
  · have h1 : A.N ≤ k := h1
    rw [fset_n (by omega)]; exact T.g0 k h1 h2
/-- a number of a tensor, at both -/
theorem kn (w : WF A) (c : CR G b A sr se row) (a : Int32) : (∃ i, i < A.N ∧ a = nI i ∧ f_X5_known G b a = some (some (b + 18 + 4 * i)) ∧ ∀ G', MX G' (b + 9) A → f_X6_isTensor G' (b + 9) a = some 1) ∨ (f_X5_known G b a = some none ∧ ∀ G', MX G' (b + 9) A → f_X6_isTensor G' (b + 9) a = some 0) := by
  rcases known_ok c w a with ⟨i, hi, e, k⟩ | ⟨hb, k⟩
  · refine Or.inl ⟨i, hi, e, k, ?_⟩
    rintro G' ⟨_, _, _, _, _, _, m⟩
    rcases isT_ok m w a with ⟨_, _, _, q⟩ | ⟨q, -⟩
    · exact q
    · exact absurd (bad_n w.n16 hi e q) id
  · refine Or.inr ⟨k, ?_⟩
    rintro G' ⟨_, _, _, _, _, _, m⟩
    rcases isT_ok m w a with ⟨i, hi, e, -⟩ | ⟨-, q⟩
    · exact absurd (bad_n w.n16 hi e hb) id
    · exact q
/-- both fail, answers taken up -/
theorem fail2' {α : Type} {f : Option (α × gG)} {g : gG → Option (α × gG)} (w : WF A) (c : CR G b A sr se row) (m : MR G (b + 9) A asd spr sd ss f15 f16) (hn : n = b + 18 + 4 * A.N) (t : Int32 → α) (k p : Int32) (e1 : f = gb2 (f_X5_failed G b k p) fun r G' => some (t r, G')) (e2 : ∀ G', MR G' (b + 9) A asd spr sd ss f15 f16 → g G' = gb2 (f_X6_fails G' (b + 9) k p) fun r G'' => some (t r, G'')) : C2 b n A f g := by
  obtain ⟨G1, q1, q2, q3⟩ := c.fail k p
  have m1 := m.frame q3
  obtain ⟨G2, r1, r2, r3⟩ := m1.fail (b := b) rfl k p
  refine fin2 (w.own w.st _ _ _) (by rw [e1, q1, gb2_some]) m1 q2 ?_ r2 r3 hn
  rw [e2 G1 m1, r1, gb2_some]
end S
theorem call_free {G : gG} {b n : Nat} {A : AS} (h : REL G b n A) (a : Int32) : C2 b n A (f_X5_free G b a) (fun G' => f_X6_free G' (b + 9) a) := by
  obtain ⟨w, hn, ⟨sr, se, row, c⟩, ⟨asd, spr, sd, ss, f15, f16, m⟩⟩ := h
  have mx : MX G (b + 9) A := ⟨_, _, _, _, _, _, m⟩
  unfold f_X5_free f_X6_free
  rw [gck_true (cf_o c.o)]
  rcases kn w c a with ⟨i, hi, rfl, k, t⟩ | ⟨k, t⟩
  · have T := c.c i hi
    have e1 : (gb (f_X5_known G b (nI i)) fun o1 => gnl o1 (some ((-1 : Int32), G)) fun q2 => gb (g_fI G q2 3 3) fun v3 => if v3 = 0 then gb (g_sZ G q2 3 3 1) fun G4 => some (1, G4) else gck (g_isO G b 4) <| gb2 (f_X5_failed G b 1 (-3)) fun r5 G6 => some (r5, G6)) = if A.gone i = 0 then some (1, g_up G (b + 18 + 4 * i) (tob (b + 18 + 4 * i) (A.lane i) 1)) else gb2 (f_X5_failed G b 1 (-3)) fun r5 G6 => some (r5, G6) := by
      rw [k, gb_some]
      show (gb (g_fI G (b + 18 + 4 * i) 3 3) _) = _
      rw [to_3 T.o, gb_some, ts_3 T.o, gb_some, gck_true (cf_o c.o)]
    have e2 : ∀ G', MR G' (b + 9) A asd spr sd ss f15 f16 → (gck (g_isO G' (b + 9) 5) <| gb (f_X6_isTensor G' (b + 9) (nI i)) fun r1 => if r1 = 0 then some ((-1 : Int32), G') else gb (g_fA G' (b + 9) 5 5) fun g2 => gb (g_zl G' g2 (nI i)) fun v3 => if v3 = 0 then gb (g_fA G' (b + 9) 5 5) fun g4 => gb (g_zs G' g4 (nI i) 1) fun G5 => some (1, G5) else gck (g_isO G' (b + 9) 5) <| gb2 (f_X6_fails G' (b + 9) 1 (-3)) fun r6 G7 => some (r6, G7)) = if A.gone i = 0 then gb (g_zs G' (b + 9 + 5) (nI i) 1) fun G5 => some (1, G5) else gb2 (f_X6_fails G' (b + 9) 1 (-3)) fun r6 G7 => some (r6, G7) := by
      intro G' mm
      rw [gck_true (mo_o mm.o), t G' ⟨_, _, _, _, _, _, mm⟩, gb_some, if_neg (by decide), mo_5 mm.o, gb_some, mm.gone w hi, gb_some, gck_true (mo_o mm.o), gb_some]
    rw [e1]
    by_cases g : A.gone i = 0
    · rw [if_pos g]
      have fc : FC G (g_up G (b + 18 + 4 * i) (tob (b + 18 + 4 * i) (A.lane i) 1)) b := FC.up (by omega)
      have m1 := m.frame fc
      obtain ⟨G2, r1, r2, r3⟩ := m1.setg w hi
      refine fin2 (r := 1) (w.setg i) rfl m1 (c.gone hi) ?_ r2 r3 hn
      show (gck (g_isO _ (b + 9) 5) _) = _
      rw [e2 _ m1, if_pos g, r1, gb_some]
    · rw [if_neg g]
      refine fail2 w c m hn 1 (-3) rfl (fun G' mm => ?_)
      show (gck (g_isO _ (b + 9) 5) _) = _
      rw [e2 _ mm, if_neg g]
  · refine same2 (r := -1) w c m hn (by rw [k, gb_some]; rfl) ?_
    show (gck (g_isO G (b + 9) 5) _) = _
    rw [gck_true (mo_o m.o), t G mx, gb_some, if_pos rfl]
theorem call_setting {G : gG} {b n : Nat} {A : AS} (h : REL G b n A) (a : Int32) : C2 b n A (f_X5_setting G b a) (fun G' => f_X6_setting G' (b + 9) a) := by
  obtain ⟨w, hn, ⟨sr, se, row, c⟩, ⟨asd, spr, sd, ss, f15, f16, m⟩⟩ := h
  have e1 : f_X5_setting_11 G b a = some (A.set, g_up G b (cob b (nI A.N) a A.mis A.fai A.pla)) := by
    unfold f_X5_setting_11
    rw [cf_5 c.o, gb_some, cz_5 c.o, gb_some]
  unfold f_X5_setting f_X6_setting
  rcases in_cs a (h := 1) (by omega) with ⟨j, h1, rfl, h3⟩ | ⟨h1, h2⟩
  · have hs : nI j = 0 ∨ nI j = 1 := by
      have : j = 0 ∨ j = 1 := by omega
      rcases this with rfl | rfl
      · exact Or.inl rfl
      · exact Or.inr rfl
    have fc : FC G (g_up G b (cob b (nI A.N) (nI j) A.mis A.fai A.pla)) b := FC.up (by omega)
    have m1 := m.frame fc
    refine fin2 (r := A.set) (w.own hs A.mis A.fai A.pla) ?_ m1 (c.own (nI j) A.mis A.fai A.pla) ?_ (m1.own (nI j) A.mis A.fai A.pla sd ss f15 f16) (FM.up (by omega)) hn
    · rw [e1]
      rcases hs with q | q
      · rw [if_pos q]
      · rw [if_pos q]
        split <;> rfl
    · show (if f_X6_in (Int32.toInt64 (nI j)) 0 1 = 0 then _ else _) = _
      have h3 : f_X6_in (Int32.toInt64 (nI j)) 0 1 = 1 := h3
      rw [h3, if_neg (by decide), mo_8 m1.o, gb_some, ms_8 m1.o, gb_some]
  · have n0 : ¬ a = 0 := by
      rintro rfl
      rcases h1 with q | q <;> exact absurd q (by decide)
    have n1 : ¬ a = 1 := by
      rintro rfl
      rcases h1 with q | q <;> exact absurd q (by decide)
    refine same2 (r := -1) w c m hn (by rw [if_neg n0, if_neg n1]) ?_
    show (if f_X6_in (Int32.toInt64 a) 0 1 = 0 then _ else _) = _
    have h2 : f_X6_in (Int32.toInt64 a) 0 1 = 0 := h2
    rw [h2, if_pos rfl]
