/-! Rows of acts. -/
def refTwo (op L : Int32) (x y : Int64) : Option Int64 :=
  if op < 18 ∨ (21 : Int32) < op then
    (if L = 4 then gb (f_X6_wide x) fun a => gb (f_X6_wide y) fun b => gb (f_X6_reckoned op a b 4) fun r => f_X6_floatBits r
     else if L = 5 then f_X6_reckoned op x y 5 else gb (f_X6_wholes op x y L) fun r => some (f_X6_kept r L))
  else gb (f_X6_holds op x y L) fun r => some (if r = 0 then 0 else 1)
/-- a quotient by zero -/
def byZ (o : Nat) (L : Int32) (y : Int64) : Prop := y = 0 ∧ 4 ≤ o ∧ o ≤ 7 ∧ ¬ (L = 4 ∨ L = 5)
def resL (o : Nat) (L : Int32) : Int32 := if 18 ≤ o ∧ o ≤ 21 then 0 else L
theorem byZ_dec (o : Nat) (L : Int32) (y : Int64) : byZ o L y ∨ ¬ byZ o L y := Classical.em _
theorem isByZ {o : Nat} (ho : o < 23) {L : Int32} (hL : LN L) (y : Int64) : (byZ o L y → f_X0_isByZero (nI o) L y = 1) ∧ (¬ byZ o L y → f_X0_isByZero (nI o) L y = 0) := by
  have c4 : nI o < 4 ↔ o < 4 := nI_ltI (b := 4) (by omega) (by omega)
  have c7 : (7 : Int32) < nI o ↔ 7 < o := nI_ltI (a := 7) (by omega) (by omega)
  have re : f_X1_isReal L = 0 ↔ ¬ (L = 4 ∨ L = 5) := by rcases hL with rfl | rfl | rfl | rfl | rfl | rfl <;> decide
  unfold f_X0_isByZero
  constructor
  · rintro ⟨h1, h2, h3, h4⟩
    rw [if_pos h1, ifn c4 (by omega), ifn c7 (by omega), ifp re h4]
  · intro h
    by_cases d1 : y = 0
    · rw [if_pos d1]
      by_cases d2 : o < 4
      · rw [ifp c4 d2]
      · rw [ifn c4 d2]
        by_cases d3 : 7 < o
        · rw [ifp c7 d3]
        · rw [ifn c7 d3]
          by_cases d4 : L = 4 ∨ L = 5
          · rw [ifn re (fun q => q d4)]
          · exact absurd ⟨d1, by omega, by omega, d4⟩ h
    · rw [if_neg d1]
theorem resL_ok {o : Nat} (ho : o < 23) (L : Int32) : f_X1_ofResult (nI o) L = resL o L := by
  unfold f_X1_ofResult resL
  have t := (cmp_tab o ho).1
  have c18 : nI o < 18 ↔ o < 18 := nI_ltI (b := 18) (by omega) (by omega)
  have c21 : (21 : Int32) < nI o ↔ 21 < o := nI_ltI (a := 21) (by omega) (by omega)
  by_cases d : 18 ≤ o ∧ o ≤ 21
  · rw [if_pos d, if_neg (fun q => by
      have := t.mp q
      rw [c18, c21] at this
      omega)]
  · rw [if_neg d, if_pos (t.mpr (by rw [c18, c21]; omega))]
theorem resL_ln {o : Nat} {L : Int32} (h : LN L) : LN (resL o L) := by
  unfold resL
  split
  · exact Or.inl rfl
  · exact h
theorem two_item {G : gG} {ar r0 r1 r2 : Nat} (hA : AR G ar r0 r1 r2) {o : Nat} (ho : o < 23) {L : Int32} (hL : LN L) (hv : OPV (nI o) L) {x y : Int64} (hx : VAL L x) (hy : VAL L y) (hz : ¬ byZ o L y) :
    ∃ z G', f_X0_ofTwo G ar (nI o) L x y = some (z, G') ∧ AR G' ar r0 r1 r2 ∧ FRM G G' r0 r1 r2 ∧ refTwo (nI o) L x y = some z ∧ VAL (resL o L) z := by
  have c18 : nI o < 18 ↔ o < 18 := nI_ltI (b := 18) (by omega) (by omega)
  have c21 : (21 : Int32) < nI o ↔ 21 < o := nI_ltI (a := 21) (by omega) (by omega)
  have cc : (nI o < 18 ∨ (21 : Int32) < nI o) ↔ ¬ (18 ≤ o ∧ o ≤ 21) := by rw [c18, c21]; omega
  have eqn : ∀ {k : Nat}, k < 23 → (nI o = nI k ↔ o = k) := fun hk => nI_eq (by omega) (by omega)
  unfold refTwo
  by_cases d : 18 ≤ o ∧ o ≤ 21
  · have hc : nI o = 18 ∨ nI o = 19 ∨ nI o = 20 ∨ nI o = 21 := by
      have : o = 18 ∨ o = 19 ∨ o = 20 ∨ o = 21 := by omega
      rcases this with rfl | rfl | rfl | rfl
      · exact Or.inl rfl
      · exact Or.inr (Or.inl rfl)
      · exact Or.inr (Or.inr (Or.inl rfl))
      · exact Or.inr (Or.inr (Or.inr rfl))
    obtain ⟨r, h1, h2⟩ := two_cmp G ar hc hL hx hy
    refine ⟨_, G, h2, hA, FRM.refl _ _ _ _, by rw [ifn cc (fun q => q d), h1, gb_some], ?_⟩
    unfold resL
    rw [if_pos d]
    have v0 : VAL 0 0 := by unfold VAL; rw [kept_0]; decide
    have v1 : VAL 0 1 := by unfold VAL; rw [kept_0]; decide
    split
    · exact v0
    · exact v1
  · have e : resL o L = L := by unfold resL; rw [if_neg d]
    rw [e, ifp cc d]
    rcases hv with q | ⟨hr, hop⟩ | ⟨hw, hop⟩
    · exfalso
      apply d
      rcases q with q | q | q | q
      · have := (eqn (k := 18) (by omega)).mp q; omega
      · have := (eqn (k := 19) (by omega)).mp q; omega
      · have := (eqn (k := 20) (by omega)).mp q; omega
      · have := (eqn (k := 21) (by omega)).mp q; omega
    · obtain ⟨z, G', s1, s2, s3, s4, s5⟩ := two_real hA hr hx hy hop
      refine ⟨z, G', s1, s2, s3, ?_, s5⟩
      rcases hr with rfl | rfl
      · obtain ⟨a, b, r, t1, t2, t3, t4⟩ := s4.1 rfl
        rw [if_pos rfl, t1, gb_some, t2, gb_some, t3, gb_some, t4]
      · rw [if_neg (by decide), if_pos rfl, s4.2 rfl]
    · have hw : LW L := hw
      have n4 : ¬ L = 4 := by rcases hw with rfl | rfl | rfl | rfl <;> decide
      have n5 : ¬ L = 5 := by rcases hw with rfl | rfl | rfl | rfl <;> decide
      obtain ⟨r, s1, s2⟩ := two_whole G ar hw hx hy hop (fun q z => hz ⟨z, by
        rcases q with q | q | q | q
        · have := (eqn (k := 4) (by omega)).mp q; omega
        · have := (eqn (k := 5) (by omega)).mp q; omega
        · have := (eqn (k := 6) (by omega)).mp q; omega
        · have := (eqn (k := 7) (by omega)).mp q; omega, by
        rcases q with q | q | q | q
        · have := (eqn (k := 4) (by omega)).mp q; omega
        · have := (eqn (k := 5) (by omega)).mp q; omega
        · have := (eqn (k := 6) (by omega)).mp q; omega
        · have := (eqn (k := 7) (by omega)).mp q; omega, fun q => q.elim n4 n5⟩)
      refine ⟨_, G, s2, hA, FRM.refl _ _ _ _, by rw [if_neg n4, if_neg n5, s1, gb_some], val_kept hL _⟩
def twoD (o : Nat) (L : Int32) (x y : Int64) : Int64 := match refTwo (nI o) L x y with
  | some z => z
  | none => 0
theorem CR.twoi {G : gG} {b : Nat} {A : AS} {sr : Nat} {se : Nat → Nat} {row : Nat → Int64} (c : CR G b A sr se row) {o : Nat} (ho : o < 23) {L : Int32} (hL : LN L) (hv : OPV (nI o) L) {x y : Int64} (hx : VAL L x) (hy : VAL L y) (hz : ¬ byZ o L y) :
    ∃ G', f_X0_ofTwo G (b + 2) (nI o) L x y = some (twoD o L x y, G') ∧ CR G' b A sr se row ∧ FC G G' b ∧ refTwo (nI o) L x y = some (twoD o L x y) ∧ VAL (resL o L) (twoD o L x y) := by
  obtain ⟨z, G', q1, q2, q3, q4, q5⟩ := two_item c.a ho hL hv hx hy hz
  have e : twoD o L x y = z := by unfold twoD; rw [q4]
  rw [e]
  exact ⟨G', q1, c.reck q2 q3, q3.fc, q4, q5⟩
/-! The items of a row. -/
/-- the item of tensor i under a spread, moved -/
def opd (A : AS) (i : Nat) (se : Nat → Nat) (L : Int32) (t : Nat) : Int64 := toD (A.it i (offU (A.ex i) se t)) (A.lane i) L
def actI (A : AS) (i1 i2 : Nat) (se : Nat → Nat) (o : Nat) (L : Int32) (t : Nat) : Int64 := if opd A i2 se L t = 0 ∧ 4 ≤ o ∧ o ≤ 7 ∧ ¬ (L = 4 ∨ L = 5) then 0 else twoD o L (opd A i1 se L t) (opd A i2 se L t)
/-- how many quotients by zero before j -/
def cz (A : AS) (i2 : Nat) (se : Nat → Nat) (o : Nat) (L : Int32) : Nat → Int32
  | 0 => 0
  | j + 1 => if opd A i2 se L j = 0 ∧ 4 ≤ o ∧ o ≤ 7 ∧ ¬ (L = 4 ∨ L = 5) then cz A i2 se o L j + 1 else cz A i2 se o L j
/-- a tensor under a spread -/
def UND (A : AS) (i : Nat) (se : Nat → Nat) : Prop := i < A.N ∧ ∀ j, j < 3 → A.ex i j = 1 ∨ A.ex i j = se j
theorem sz_pos {se : Nat → Nat} (h : 0 < sz3 se) : ∀ j, j < 3 → 0 < se j := by
  intro j hj
  refine Nat.pos_of_ne_zero (fun z => ?_)
  unfold sz3 at h
  rcases lt3 hj with rfl | rfl | rfl
  · rw [z, Nat.zero_mul, Nat.zero_mul] at h; omega
  · rw [z, Nat.mul_zero, Nat.zero_mul] at h; omega
  · rw [z, Nat.mul_zero] at h; omega
theorem opd_val {G : gG} {b : Nat} {A : AS} {sr : Nat} {se : Nat → Nat} {row : Nat → Int64} (c : CR G b A sr se row) (w : WF A) {i : Nat} (u : UND A i se) (hs0 : ∀ j, j < 3 → 0 < se j) {L : Int32} (hL : LN L) (t : Nat) : f_X6_to (A.it i (offU (A.ex i) se t)) (A.lane i) L = some (opd A i se L t) ∧ VAL L (opd A i se L t) := by
  obtain ⟨_, _, _, _, s4, s5⟩ := c.move (w.ln i u.1) hL (w.vl i u.1 _ (offU_lt (n := t) hs0 u.2))
  exact ⟨s4, s5⟩
/-- one step of the class's row -/
theorem rba_step {G : gG} {b : Nat} {A : AS} {sr : Nat} {se : Nat → Nat} {row : Nat → Int64} (c : CR G b A sr se row) (w : WF A) (hs : ∀ j, j < 3 → se j ≤ 60) (hS : sz3 se ≤ 240) {i1 i2 : Nat} (u1 : UND A i1 se) (u2 : UND A i2 se) {o : Nat} (ho : o < 23) {L : Int32} (hL : LN L) (hv : OPV (nI o) L) {j : Nat} (hj : j < sz3 se) (fu : Nat) (x6 : Int32) :
    (byZ o L (opd A i2 se L j) ∧ A.set = 0 ∧ ∃ G', f_X5_rowByAct_15 (fu + 1) G b (nI o) L (b + 18 + 4 * i1) (b + 18 + 4 * i2) (nI (sz3 se)) x6 (nI j) = some (nI j, G') ∧ CR G' b A sr se row ∧ FC G G' b) ∨
    (byZ o L (opd A i2 se L j) ∧ A.set = 1 ∧ ∃ G', f_X5_rowByAct_15 (fu + 1) G b (nI o) L (b + 18 + 4 * i1) (b + 18 + 4 * i2) (nI (sz3 se)) x6 (nI j) = f_X5_rowByAct_15 fu G' b (nI o) L (b + 18 + 4 * i1) (b + 18 + 4 * i2) (nI (sz3 se)) (x6 + 1) (nI (j + 1)) ∧ CR G' b A sr se (fset row j 0) ∧ FC G G' b) ∨
    (¬ byZ o L (opd A i2 se L j) ∧ ∃ G', f_X5_rowByAct_15 (fu + 1) G b (nI o) L (b + 18 + 4 * i1) (b + 18 + 4 * i2) (nI (sz3 se)) x6 (nI j) = f_X5_rowByAct_15 fu G' b (nI o) L (b + 18 + 4 * i1) (b + 18 + 4 * i2) (nI (sz3 se)) x6 (nI (j + 1)) ∧ CR G' b A sr se (fset row j (twoD o L (opd A i1 se L j) (opd A i2 se L j))) ∧ FC G G' b) := by
  have hs0 := sz_pos (se := se) (by omega)
  have cc : nI (sz3 se) ≤ nI j ↔ sz3 se ≤ j := nI_leI (by omega) (by omega)
  have cd : nI 240 ≤ nI j ↔ 240 ≤ j := nI_leI (by omega) (by omega)
  have T1 := c.c i1 u1.1
  obtain ⟨G1, m1, m2, m3, -, -⟩ := c.move (w.ln i1 u1.1) hL (w.vl i1 u1.1 _ (offU_lt (n := j) hs0 u1.2))
  have T2 := m2.c i2 u2.1
  obtain ⟨G2, n1, n2, n3, -, -⟩ := m2.move (w.ln i2 u2.1) hL (w.vl i2 u2.1 _ (offU_lt (n := j) hs0 u2.2))
  have v1 := (opd_val c w u1 hs0 hL j).2
  have v2 := (opd_val c w u2 hs0 hL j).2
  have m1 : f_X0_moved G (b + 2) (A.it i1 (offU (A.ex i1) se j)) (A.lane i1) L = some (opd A i1 se L j, G1) := m1
  have n1 : f_X0_moved G1 (b + 2) (A.it i2 (offU (A.ex i2) se j)) (A.lane i2) L = some (opd A i2 se L j, G2) := n1
  have start : f_X5_rowByAct_15 (fu + 1) G b (nI o) L (b + 18 + 4 * i1) (b + 18 + 4 * i2) (nI (sz3 se)) x6 (nI j) = if f_X0_isByZero (nI o) L (opd A i2 se L j) = 0 then (gb2 (f_X0_ofTwo G2 (b + 2) (nI o) L (opd A i1 se L j) (opd A i2 se L j)) fun r21 G22 => gb (g_ls G22 (b + 8) (nI j) r21) fun G23 => f_X5_rowByAct_15 fu G23 b (nI o) L (b + 18 + 4 * i1) (b + 18 + 4 * i2) (nI (sz3 se)) x6 (nI (j + 1))) else (if A.set = 1 then (gb (g_ls G2 (b + 8) (nI j) 0) fun G17 => f_X5_rowByAct_15 fu G17 b (nI o) L (b + 18 + 4 * i1) (b + 18 + 4 * i2) (nI (sz3 se)) (x6 + 1) (nI (j + 1))) else some (nI j, G2)) := by
    rw [f_X5_rowByAct_15, ifn cc (by omega), cf_3 c.o, gb_some, c.w.len, gb_some, ifn cd (by omega), cf_1 c.o, gb_some, cf_2 c.o, gb_some, gck_true (to_o T1.o), c.rsp u1.1 w hs hs0 u1.2 (by omega), gb_some, to_0 T1.o, gb_some, gck_true c.a.o, m1, gb2_some, cf_1 m2.o, gb_some, cf_2 m2.o, gb_some, gck_true (to_o T2.o), m2.rsp u2.1 w hs hs0 u2.2 (by omega), gb_some, to_0 T2.o, gb_some, gck_true m2.a.o, n1, gb2_some, cf_3 n2.o, gb_some, cf_1 n2.o, gb_some, gck_true n2.a.o, cf_5 n2.o, gb_some, gb_some]
    unfold f_X5_rowByAct_140
    simp only [gl]
    rw [nI_1]
  rw [start]
  obtain ⟨z1, z0⟩ := isByZ ho hL (opd A i2 se L j)
  by_cases hz : byZ o L (opd A i2 se L j)
  · rw [z1 hz, if_neg (by decide)]
    rcases w.st with hset | hset
    · left
      refine ⟨hz, hset, G2, ?_, n2, m3.trans n3⟩
      rw [if_neg (by rw [hset]; decide)]
    · right; left
      obtain ⟨G3, p1, p2, p3⟩ := n2.put (j := j) (by omega) 0
      refine ⟨hz, hset, G3, ?_, p2, (m3.trans n3).trans p3⟩
      rw [if_pos hset, p1, gb_some]
  · right; right
    rw [z0 hz, if_pos rfl]
    obtain ⟨G3, t1, t2, t3, -, -⟩ := n2.twoi ho hL hv v1 v2 hz
    obtain ⟨G4, p1, p2, p3⟩ := t2.put (j := j) (by omega) (twoD o L (opd A i1 se L j) (opd A i2 se L j))
    refine ⟨hz, G4, ?_, p2, ((m3.trans n3).trans t3).trans p3⟩
    rw [t1, gb2_some, p1, gb_some]
theorem actI_z {A : AS} {i1 i2 : Nat} {se : Nat → Nat} {o : Nat} {L : Int32} {t : Nat} (h : byZ o L (opd A i2 se L t)) : actI A i1 i2 se o L t = 0 := by
  unfold actI
  exact if_pos h
theorem actI_n {A : AS} {i1 i2 : Nat} {se : Nat → Nat} {o : Nat} {L : Int32} {t : Nat} (h : ¬ byZ o L (opd A i2 se L t)) : actI A i1 i2 se o L t = twoD o L (opd A i1 se L t) (opd A i2 se L t) := by
  unfold actI
  exact if_neg h
theorem cz_z {A : AS} {i2 : Nat} {se : Nat → Nat} {o : Nat} {L : Int32} {j : Nat} (h : byZ o L (opd A i2 se L j)) : cz A i2 se o L (j + 1) = cz A i2 se o L j + 1 := by
  exact if_pos h
theorem cz_n {A : AS} {i2 : Nat} {se : Nat → Nat} {o : Nat} {L : Int32} {j : Nat} (h : ¬ byZ o L (opd A i2 se L j)) : cz A i2 se o L (j + 1) = cz A i2 se o L j := by
  exact if_neg h
theorem rba {b : Nat} {A : AS} {sr : Nat} {se : Nat → Nat} (w : WF A) (hs : ∀ j, j < 3 → se j ≤ 60) (hS : sz3 se ≤ 240) {i1 i2 : Nat} (u1 : UND A i1 se) (u2 : UND A i2 se) {o : Nat} (ho : o < 23) {L : Int32} (hL : LN L) (hv : OPV (nI o) L) : ∀ (k j fu : Nat) (G : gG) (row : Nat → Int64), j + k = sz3 se → CR G b A sr se row → (∀ t, t < j → row t = actI A i1 i2 se o L t) → (A.set = 0 → ∀ t, t < j → ¬ byZ o L (opd A i2 se L t)) →
    (∃ t, t < sz3 se ∧ A.set = 0 ∧ byZ o L (opd A i2 se L t) ∧ (∀ s, s < t → ¬ byZ o L (opd A i2 se L s)) ∧ ∃ G' row', f_X5_rowByAct_15 (fu + k + 1) G b (nI o) L (b + 18 + 4 * i1) (b + 18 + 4 * i2) (nI (sz3 se)) (cz A i2 se o L j) (nI j) = some (nI t, G') ∧ CR G' b A sr se row' ∧ FC G G' b) ∨
    ((A.set = 0 → ∀ t, t < sz3 se → ¬ byZ o L (opd A i2 se L t)) ∧ ∃ G' row', f_X5_rowByAct_15 (fu + k + 1) G b (nI o) L (b + 18 + 4 * i1) (b + 18 + 4 * i2) (nI (sz3 se)) (cz A i2 se o L j) (nI j) = some (-3, G') ∧ CR G' b (A.own A.set (A.mis + cz A i2 se o L (sz3 se)) A.fai A.pla) sr se row' ∧ (∀ t, t < sz3 se → row' t = actI A i1 i2 se o L t) ∧ FC G G' b) := by
  intro k
  induction k with
  | zero =>
    intro j fu G row hk c hq hz
    right
    have e : j = sz3 se := by omega
    subst e
    have cc : nI (sz3 se) ≤ nI (sz3 se) := (nI_leI (by omega) (by omega)).mpr (Nat.le_refl _)
    refine ⟨hz, _, row, ?_, c.own A.set (A.mis + cz A i2 se o L (sz3 se)) A.fai A.pla, hq, FC.up (by omega)⟩
    unfold f_X5_rowByAct_15 f_X5_rowByAct_146
    rw [if_pos cc, cf_6 c.o, gb_some, cz_6 c.o, gb_some]
  | succ k ih =>
    intro j fu G row hk c hq hz
    rw [show fu + (k + 1) + 1 = (fu + k + 1) + 1 by omega]
    rcases rba_step c w hs hS u1 u2 ho hL hv (j := j) (by omega) (fu + k + 1) (cz A i2 se o L j) with ⟨b1, b2, G1, b3, b4, b5⟩ | ⟨b1, b2, G1, b3, b4, b5⟩ | ⟨b1, G1, b3, b4, b5⟩
    · exact Or.inl ⟨j, by omega, b2, b1, hz b2, G1, row, b3, b4, b5⟩
    · rw [b3, ← cz_z b1]
      have hq' : ∀ t, t < j + 1 → fset row j 0 t = actI A i1 i2 se o L t := by
        rw [← actI_z (i1 := i1) b1]
        exact fset_lt (g := actI A i1 i2 se o L) hq
      rcases ih (j + 1) fu G1 _ (by omega) b4 hq' (fun q => absurd (q.symm.trans b2) (by decide)) with ⟨t, t1, t2, t3, t4, G', row', t5, t6, t7⟩ | ⟨t1, G', row', t2, t3, t4, t5⟩
      · exact Or.inl ⟨t, t1, t2, t3, t4, G', row', t5, t6, b5.trans t7⟩
      · exact Or.inr ⟨t1, G', row', t2, t3, t4, b5.trans t5⟩
    · rw [b3, ← cz_n b1]
      have hq' : ∀ t, t < j + 1 → fset row j (twoD o L (opd A i1 se L j) (opd A i2 se L j)) t = actI A i1 i2 se o L t := by
        rw [← actI_n b1]
        exact fset_lt (g := actI A i1 i2 se o L) hq
      have hz' : A.set = 0 → ∀ t, t < j + 1 → ¬ byZ o L (opd A i2 se L t) := fun q t ht => by
        by_cases y : t = j
        · rw [y]; exact b1
        · exact hz q t (by omega)
      rcases ih (j + 1) fu G1 _ (by omega) b4 hq' hz' with ⟨t, t1, t2, t3, t4, G', row', t5, t6, t7⟩ | ⟨t1, G', row', t2, t3, t4, t5⟩
      · exact Or.inl ⟨t, t1, t2, t3, t4, G', row', t5, t6, b5.trans t7⟩
      · exact Or.inr ⟨t1, G', row', t2, t3, t4, b5.trans t5⟩
