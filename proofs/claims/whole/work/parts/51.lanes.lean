/-! Lanes by their tables; arguments in bounds. -/
theorem LN.nat {l : Int32} (h : LN l) : ∃ j, j < 6 ∧ l = nI j := by
  rcases h with rfl | rfl | rfl | rfl | rfl | rfl
  · exact ⟨0, by omega, rfl⟩
  · exact ⟨1, by omega, rfl⟩
  · exact ⟨2, by omega, rfl⟩
  · exact ⟨3, by omega, rfl⟩
  · exact ⟨4, by omega, rfl⟩
  · exact ⟨5, by omega, rfl⟩
theorem LN.of {j : Nat} (h : j < 6) : LN (nI j) := by
  have : j = 0 ∨ j = 1 ∨ j = 2 ∨ j = 3 ∨ j = 4 ∨ j = 5 := by omega
  rcases this with rfl | rfl | rfl | rfl | rfl | rfl
  · exact Or.inl rfl
  · exact Or.inr (Or.inl rfl)
  · exact Or.inr (Or.inr (Or.inl rfl))
  · exact Or.inr (Or.inr (Or.inr (Or.inl rfl)))
  · exact Or.inr (Or.inr (Or.inr (Or.inr (Or.inl rfl))))
  · exact Or.inr (Or.inr (Or.inr (Or.inr (Or.inr rfl))))
theorem join_tab : ∀ a, a < 6 → ∀ b, b < 6 → f_X1_joined (nI a) (nI b) = f_X6_joined (nI a) (nI b) ∧ (f_X6_joined (nI a) (nI b) = 0 ∨ f_X6_joined (nI a) (nI b) = 1 ∨ f_X6_joined (nI a) (nI b) = 2 ∨ f_X6_joined (nI a) (nI b) = 3 ∨ f_X6_joined (nI a) (nI b) = 4 ∨ f_X6_joined (nI a) (nI b) = 5) := by decide +kernel
theorem join_ok {a b : Int32} (ha : LN a) (hb : LN b) : f_X1_joined a b = f_X6_joined a b ∧ LN (f_X6_joined a b) := by
  obtain ⟨i, hi, rfl⟩ := ha.nat
  obtain ⟨j, hj, rfl⟩ := hb.nat
  exact join_tab i hi j hj
/-- which acts go on in a lane -/
def OPV (op l : Int32) : Prop := (op = 18 ∨ op = 19 ∨ op = 20 ∨ op = 21) ∨
  ((l = 4 ∨ l = 5) ∧ ((op = 0 ∨ op = 1 ∨ op = 2 ∨ op = 3 ∨ op = 4 ∨ op = 5 ∨ op = 6 ∨ op = 7) ∨ (op = 8 ∨ op = 9 ∨ op = 10 ∨ op = 11) ∨ op = 22)) ∨
  ((l = 0 ∨ l = 1 ∨ l = 2 ∨ l = 3) ∧ ((op = 0 ∨ op = 1 ∨ op = 2 ∨ op = 4 ∨ op = 5 ∨ op = 6 ∨ op = 7 ∨ op = 12 ∨ op = 13 ∨ op = 14 ∨ op = 15 ∨ op = 16 ∨ op = 17) ∨ (op = 8 ∨ op = 9 ∨ op = 10 ∨ op = 11) ∨ (op = 22 ∧ ¬ l = 0)))
def opB1 (op : Int32) : Bool := decide (op = 18 ∨ op = 19 ∨ op = 20 ∨ op = 21)
def opB2 (op : Int32) : Bool := decide (op = 0 ∨ op = 1 ∨ op = 2 ∨ op = 3 ∨ op = 4 ∨ op = 5 ∨ op = 6 ∨ op = 7)
def opB3 (op : Int32) : Bool := decide (op = 8 ∨ op = 9 ∨ op = 10 ∨ op = 11)
def opB4 (op : Int32) : Bool := decide (op = 0 ∨ op = 1 ∨ op = 2 ∨ op = 4 ∨ op = 5 ∨ op = 6 ∨ op = 7 ∨ op = 12 ∨ op = 13 ∨ op = 14 ∨ op = 15 ∨ op = 16 ∨ op = 17)
def opvB (op l : Int32) : Bool := opB1 op || (decide (l = 4 ∨ l = 5) && (opB2 op || (opB3 op || decide (op = 22)))) || (decide (l = 0 ∨ l = 1 ∨ l = 2 ∨ l = 3) && (opB4 op || (opB3 op || decide (op = 22 ∧ ¬ l = 0))))
theorem opv_of {op l : Int32} (h : opvB op l = true) : OPV op l := by
  unfold opvB opB1 opB2 opB3 opB4 at h
  simp only [Bool.or_eq_true, Bool.and_eq_true, decide_eq_true_eq] at h
  rcases h with (h | h) | h
  · exact Or.inl h
  · exact Or.inr (Or.inl h)
  · exact Or.inr (Or.inr h)
def lnB (l : Int32) : Bool := decide (l = 0 ∨ l = 1 ∨ l = 2 ∨ l = 3 ∨ l = 4 ∨ l = 5)
theorem ln_of {l : Int32} (h : lnB l = true) : LN l := by
  unfold lnB at h
  rw [decide_eq_true_eq] at h
  exact h
def actB (o a b : Int32) : Bool := (decide (f_X1_ofAct o a b = -3) && decide (f_X6_laneOf o (f_X6_joined a b) < 0)) || (decide (f_X1_ofAct o a b = f_X6_laneOf o (f_X6_joined a b)) && (lnB (f_X6_laneOf o (f_X6_joined a b)) && opvB o (f_X6_laneOf o (f_X6_joined a b))))
theorem act_tab : ∀ o, o < 23 → ∀ a, a < 6 → ∀ b, b < 6 → actB (nI o) (nI a) (nI b) = true := by decide +kernel
theorem act_ok {o : Nat} (ho : o < 23) {a b : Int32} (ha : LN a) (hb : LN b) :
    (f_X1_ofAct (nI o) a b = -3 ∧ f_X6_laneOf (nI o) (f_X6_joined a b) < 0) ∨
    (f_X1_ofAct (nI o) a b = f_X6_laneOf (nI o) (f_X6_joined a b) ∧ LN (f_X6_laneOf (nI o) (f_X6_joined a b)) ∧ OPV (nI o) (f_X6_laneOf (nI o) (f_X6_joined a b))) := by
  obtain ⟨i, hi, rfl⟩ := ha.nat
  obtain ⟨j, hj, rfl⟩ := hb.nat
  have h := act_tab o ho i hi j hj
  unfold actB at h
  rw [Bool.or_eq_true, Bool.and_eq_true, Bool.and_eq_true, Bool.and_eq_true, decide_eq_true_eq, decide_eq_true_eq, decide_eq_true_eq] at h
  rcases h with h | ⟨h1, h2, h3⟩
  · exact Or.inl h
  · exact Or.inr ⟨h1, ln_of h2, opv_of h3⟩
theorem LN.n3 {l : Int32} (h : LN l) : ¬ l = -3 ∧ ¬ l < 0 := by
  rcases h with rfl | rfl | rfl | rfl | rfl | rfl <;> decide
theorem hold_tab : ∀ z, z < 6 → ∀ r, r < 6 → (f_X1_mayHold (nI z) (nI r) = 0 ↔ (nI z < nI r ∨ (nI z = 4 ∧ (nI r = 2 ∨ nI r = 3)))) := by decide +kernel
theorem hold_ok {z r : Int32} (hz : LN z) (hr : LN r) : f_X1_mayHold z r = 0 ↔ (z < r ∨ (z = 4 ∧ (r = 2 ∨ r = 3))) := by
  obtain ⟨i, hi, rfl⟩ := hz.nat
  obtain ⟨j, hj, rfl⟩ := hr.nat
  exact hold_tab i hi j hj
theorem cmp_tab : ∀ o, o < 23 → (f_X0_isComparison (nI o) = 0 ↔ (nI o < 18 ∨ (21 : Int32) < nI o)) ∧ (¬ (nI o < 18 ∨ (21 : Int32) < nI o) ↔ (nI o = 18 ∨ nI o = 19 ∨ nI o = 20 ∨ nI o = 21)) := by decide +kernel
/-- bounds -/
theorem in_cs (a : Int32) {h : Nat} (hh : h < 2 ^ 31) : (∃ j, j ≤ h ∧ a = nI j ∧ f_X6_in (Int32.toInt64 a) 0 (lN h) = 1) ∨ ((a < 0 ∨ nI h < a) ∧ f_X6_in (Int32.toInt64 a) 0 (lN h) = 0) := by
  unfold f_X6_in
  by_cases c : a < 0
  · refine Or.inr ⟨Or.inl c, ?_⟩
    have : Int32.toInt64 a < 0 := by
      rw [Int64.lt_iff_toInt_lt, Int32.toInt_toInt64]
      exact Int32.lt_iff_toInt_lt.mp c
    rw [if_pos this]
  · obtain ⟨j, hj, rfl⟩ := nI_of c
    rw [nI_l hj, if_neg (show ¬ lN j < 0 from fun q => (pk_lLT (a := j) (b := 0) (by omega) (by omega)).mp q |> fun q => by omega)]
    have d := pk_lLT (a := h) (b := j) (by omega) (by omega)
    by_cases g : h < j
    · rw [ifp d g]
      exact Or.inr ⟨Or.inr ((nI_ltI hh hj).mpr g), rfl⟩
    · rw [ifn d g]
      exact Or.inl ⟨j, by omega, rfl, rfl⟩
theorem in_N (a : Int32) {N : Nat} (hN : N < 2 ^ 30) : (∃ j, j < N ∧ a = nI j ∧ f_X6_in (Int32.toInt64 a) 0 (Int32.toInt64 (nI N - 1)) = 1) ∨ ((a < 0 ∨ nI N ≤ a) ∧ f_X6_in (Int32.toInt64 a) 0 (Int32.toInt64 (nI N - 1)) = 0) := by
  by_cases z : N = 0
  · subst z
    have e : Int32.toInt64 (nI 0 - 1) = -1 := by decide
    rw [e]
    right
    refine ⟨?_, ?_⟩
    · by_cases c : a < 0
      · exact Or.inl c
      · obtain ⟨j, hj, rfl⟩ := nI_of c
        exact Or.inr ((nI_leI (by omega) hj).mpr (by omega))
    · unfold f_X6_in
      by_cases c : Int32.toInt64 a < 0
      · rw [if_pos c]
      · rw [if_neg c, if_pos]
        rw [Int64.lt_iff_toInt_lt] at c ⊢
        rw [show (-1 : Int64).toInt = -1 by decide]
        rw [show (0 : Int64).toInt = 0 by decide] at c
        omega
  · obtain ⟨M, rfl⟩ : ∃ M, N = M + 1 := ⟨N - 1, by omega⟩
    rw [nI_pred, nI_l (by omega)]
    rcases in_cs a (h := M) (by omega) with ⟨j, h1, h2, h3⟩ | ⟨h1, h2⟩
    · exact Or.inl ⟨j, by omega, h2, h3⟩
    · refine Or.inr ⟨?_, h2⟩
      rcases h1 with h1 | h1
      · exact Or.inl h1
      · by_cases c : a < 0
        · exact Or.inl c
        · obtain ⟨j, hj, rfl⟩ := nI_of c
          rw [nI_ltI (by omega) hj] at h1
          exact Or.inr ((nI_leI (by omega) hj).mpr (by omega))
theorem lane_cs (a : Int32) : (LN a ∧ f_X1_isLane a = 1 ∧ f_X6_in (Int32.toInt64 a) 0 5 = 1) ∨ (f_X1_isLane a = 0 ∧ f_X6_in (Int32.toInt64 a) 0 5 = 0) := by
  unfold f_X1_isLane
  rcases in_cs a (h := 5) (by omega) with ⟨j, h1, rfl, h3⟩ | ⟨h1, h2⟩
  · have c : ¬ (5 : Int32) < nI j := fun q => by
      have := (nI_ltI (a := 5) (b := j) (by omega) (by omega)).mp q
      omega
    rw [if_neg (nI_pos (by omega)), if_neg c]
    exact Or.inl ⟨LN.of (by omega), rfl, h3⟩
  · right
    refine ⟨?_, h2⟩
    rcases h1 with h1 | h1
    · rw [if_pos h1]
    · by_cases c : a < 0
      · rw [if_pos c]
      · rw [if_neg c, if_pos (show (5 : Int32) < a from h1)]
theorem op_cs (a : Int32) : (∃ o, o < 23 ∧ a = nI o ∧ f_X0_isAct a = 1 ∧ f_X6_in (Int32.toInt64 a) 0 22 = 1) ∨ (f_X0_isAct a = 0 ∧ f_X6_in (Int32.toInt64 a) 0 22 = 0) := by
  unfold f_X0_isAct
  rcases in_cs a (h := 22) (by omega) with ⟨j, h1, rfl, h3⟩ | ⟨h1, h2⟩
  · have c : ¬ (22 : Int32) < nI j := fun q => by
      have := (nI_ltI (a := 22) (b := j) (by omega) (by omega)).mp q
      omega
    rw [if_neg (nI_pos (by omega)), if_neg c]
    exact Or.inl ⟨j, by omega, rfl, rfl, h3⟩
  · right
    refine ⟨?_, h2⟩
    rcases h1 with h1 | h1
    · rw [if_pos h1]
    · by_cases c : a < 0
      · rw [if_pos c]
      · rw [if_neg c, if_pos (show (22 : Int32) < a from h1)]
theorem op1_cs (a : Int32) : (∃ o, o < 9 ∧ a = nI o ∧ f_X0_isOfOne a = 1 ∧ f_X6_in (Int32.toInt64 a) 0 8 = 1) ∨ (f_X0_isOfOne a = 0 ∧ f_X6_in (Int32.toInt64 a) 0 8 = 0) := by
  unfold f_X0_isOfOne
  rcases in_cs a (h := 8) (by omega) with ⟨j, h1, rfl, h3⟩ | ⟨h1, h2⟩
  · have c : ¬ (8 : Int32) < nI j := fun q => by
      have := (nI_ltI (a := 8) (b := j) (by omega) (by omega)).mp q
      omega
    rw [if_neg (nI_pos (by omega)), if_neg c]
    exact Or.inl ⟨j, by omega, rfl, rfl, h3⟩
  · right
    refine ⟨?_, h2⟩
    rcases h1 with h1 | h1
    · rw [if_pos h1]
    · by_cases c : a < 0
      · rw [if_pos c]
      · rw [if_neg c, if_pos (show (8 : Int32) < a from h1)]
/-! Cells. -/
def fset {α : Type} (f : Nat → α) (i : Nat) (v : α) : Nat → α := fun j => if j = i then v else f j
theorem fset_s {α : Type} {f : Nat → α} {i : Nat} {v : α} : fset f i v i = v := if_pos rfl
theorem fset_n {α : Type} {f : Nat → α} {i j : Nat} {v : α} (h : ¬ j = i) : fset f i v j = f j := if_neg h
def IC (c : gC) (len : Nat) (f : Nat → Int32) : Prop := ∃ g, c = .inr (.inl (len, g)) ∧ ∀ j, j < len → g j = f j
def LC (c : gC) (len : Nat) (f : Nat → Int64) : Prop := ∃ g, c = .inr (.inr (.inl (len, g))) ∧ ∀ j, j < len → g j = f j
def ZC (c : gC) (len : Nat) (f : Nat → Int32) : Prop := ∃ g, c = .inr (.inr (.inr (.inl (len, g)))) ∧ ∀ j, j < len → g j = f j
def RC' (c : gC) (len : Nat) (f : Nat → Option Nat) : Prop := ∃ g, c = .inr (.inr (.inr (.inr (len, g)))) ∧ ∀ j, j < len → g j = f j
def IA (G : gG) (a len : Nat) (f : Nat → Int32) : Prop := ∃ c, G a = some c ∧ IC c len f
def LA (G : gG) (a len : Nat) (f : Nat → Int64) : Prop := ∃ c, G a = some c ∧ LC c len f
def ZA (G : gG) (a len : Nat) (f : Nat → Int32) : Prop := ∃ c, G a = some c ∧ ZC c len f
def RA (G : gG) (a len : Nat) (f : Nat → Option Nat) : Prop := ∃ c, G a = some c ∧ RC' c len f
theorem IA.up {G : gG} {a len : Nat} {f : Nat → Int32} (h : IA G a len f) {b : Nat} {c : gC} (e : ¬ a = b) : IA (g_up G b c) a len f := by
  obtain ⟨d, h1, h2⟩ := h
  exact ⟨d, by rw [g_up_ne e]; exact h1, h2⟩
theorem LA.up {G : gG} {a len : Nat} {f : Nat → Int64} (h : LA G a len f) {b : Nat} {c : gC} (e : ¬ a = b) : LA (g_up G b c) a len f := by
  obtain ⟨d, h1, h2⟩ := h
  exact ⟨d, by rw [g_up_ne e]; exact h1, h2⟩
theorem IA.il {G : gG} {a len : Nat} {f : Nat → Int32} (h : IA G a len f) {i : Nat} (hi : i < len) (hl : len < 2 ^ 31) : g_il G a (nI i) = some (f i) := by
  obtain ⟨d, h1, g, rfl, h2⟩ := h
  unfold g_il
  rw [h1]
  show (if nI i < 0 ∨ len ≤ (nI i).toNatClampNeg then none else some (g (nI i).toNatClampNeg)) = _
  rw [if_neg (nI_in hi hl), nI_clamp (by omega), h2 i hi]
theorem LA.ll {G : gG} {a len : Nat} {f : Nat → Int64} (h : LA G a len f) {i : Nat} (hi : i < len) (hl : len < 2 ^ 31) : g_ll G a (nI i) = some (f i) := by
  obtain ⟨d, h1, g, rfl, h2⟩ := h
  unfold g_ll
  rw [h1]
  show (if nI i < 0 ∨ len ≤ (nI i).toNatClampNeg then none else some (g (nI i).toNatClampNeg)) = _
  rw [if_neg (nI_in hi hl), nI_clamp (by omega), h2 i hi]
theorem ZA.zl {G : gG} {a len : Nat} {f : Nat → Int32} (h : ZA G a len f) {i : Nat} (hi : i < len) (hl : len < 2 ^ 31) : g_zl G a (nI i) = some (f i) := by
  obtain ⟨d, h1, g, rfl, h2⟩ := h
  unfold g_zl
  rw [h1]
  show (if nI i < 0 ∨ len ≤ (nI i).toNatClampNeg then none else some (g (nI i).toNatClampNeg)) = _
  rw [if_neg (nI_in hi hl), nI_clamp (by omega), h2 i hi]
theorem RA.al {G : gG} {a len : Nat} {f : Nat → Option Nat} (h : RA G a len f) {i : Nat} (hi : i < len) (hl : len < 2 ^ 31) : g_al G a (nI i) = some (f i) := by
  obtain ⟨d, h1, g, rfl, h2⟩ := h
  unfold g_al
  rw [h1]
  show (if nI i < 0 ∨ len ≤ (nI i).toNatClampNeg then none else some (g (nI i).toNatClampNeg)) = _
  rw [if_neg (nI_in hi hl), nI_clamp (by omega), h2 i hi]
theorem IA.is {G : gG} {a len : Nat} {f : Nat → Int32} (h : IA G a len f) {i : Nat} (hi : i < len) (hl : len < 2 ^ 31) (v : Int32) : ∃ c, g_is G a (nI i) v = some (g_up G a c) ∧ IC c len (fset f i v) := by
  obtain ⟨d, h1, g, rfl, h2⟩ := h
  unfold g_is
  rw [h1]
  refine ⟨.inr (.inl (len, upd g i v)), ?_, upd g i v, rfl, fun j hj => ?_⟩
  · show (if nI i < 0 ∨ len ≤ (nI i).toNatClampNeg then none else some (g_up G a (.inr (.inl (len, upd g (nI i).toNatClampNeg v))))) = _
    rw [if_neg (nI_in hi hl), nI_clamp (by omega)]
  · by_cases e : j = i
    · rw [e, pk_us, fset_s]
    · rw [pk_un e, fset_n e, h2 j hj]
theorem LA.ls {G : gG} {a len : Nat} {f : Nat → Int64} (h : LA G a len f) {i : Nat} (hi : i < len) (hl : len < 2 ^ 31) (v : Int64) : ∃ c, g_ls G a (nI i) v = some (g_up G a c) ∧ LC c len (fset f i v) := by
  obtain ⟨d, h1, g, rfl, h2⟩ := h
  unfold g_ls
  rw [h1]
  refine ⟨.inr (.inr (.inl (len, vp_updL g i v))), ?_, vp_updL g i v, rfl, fun j hj => ?_⟩
  · show (if nI i < 0 ∨ len ≤ (nI i).toNatClampNeg then none else some (g_up G a (.inr (.inr (.inl (len, vp_updL g (nI i).toNatClampNeg v)))))) = _
    rw [if_neg (nI_in hi hl), nI_clamp (by omega)]
  · by_cases e : j = i
    · rw [e, pk_uLs, fset_s]
    · rw [pk_uLn e, fset_n e, h2 j hj]
theorem ZA.zs {G : gG} {a len : Nat} {f : Nat → Int32} (h : ZA G a len f) {i : Nat} (hi : i < len) (hl : len < 2 ^ 31) : ∃ c, g_zs G a (nI i) 1 = some (g_up G a c) ∧ ZC c len (fset f i 1) := by
  obtain ⟨d, h1, g, rfl, h2⟩ := h
  unfold g_zs
  rw [h1]
  refine ⟨.inr (.inr (.inr (.inl (len, upd g i 1)))), ?_, upd g i 1, rfl, fun j hj => ?_⟩
  · show (if nI i < 0 ∨ len ≤ (nI i).toNatClampNeg then none else some (g_up G a (.inr (.inr (.inr (.inl (len, upd g (nI i).toNatClampNeg (vp_nar .boolean 1)))))))) = _
    rw [if_neg (nI_in hi hl), nI_clamp (by omega), show vp_nar .boolean 1 = 1 from by decide]
  · by_cases e : j = i
    · rw [e, pk_us, fset_s]
    · rw [pk_un e, fset_n e, h2 j hj]
theorem LA.len {G : gG} {a len : Nat} {f : Nat → Int64} (h : LA G a len f) : g_len G a = some (nI len) := by
  obtain ⟨d, h1, g, rfl, h2⟩ := h
  unfold g_len
  rw [h1]
  rfl
theorem RA.len {G : gG} {a len : Nat} {f : Nat → Option Nat} (h : RA G a len f) : g_len G a = some (nI len) := by
  obtain ⟨d, h1, g, rfl, h2⟩ := h
  unfold g_len
  rw [h1]
  rfl
theorem LA.congr {G : gG} {a len : Nat} {f g : Nat → Int64} (h : LA G a len f) (e : ∀ j, j < len → f j = g j) : LA G a len g := by
  obtain ⟨d, h1, k, rfl, h2⟩ := h
  exact ⟨_, h1, k, rfl, fun j hj => (h2 j hj).trans (e j hj)⟩
theorem IA.congr {G : gG} {a len : Nat} {f g : Nat → Int32} (h : IA G a len f) (e : ∀ j, j < len → f j = g j) : IA G a len g := by
  obtain ⟨d, h1, k, rfl, h2⟩ := h
  exact ⟨_, h1, k, rfl, fun j hj => (h2 j hj).trans (e j hj)⟩
theorem cp_ok {G : gG} {a b la lb : Nat} {f g : Nat → Int64} (h1 : LA G a la f) (h2 : LA G b lb g) {i j k : Nat} (hi : i + k ≤ la) (hj : j + k ≤ lb) (ha : la < 2 ^ 30) (hb : lb < 2 ^ 30) : ∃ c, g_cp G a (nI i) b (nI j) (nI k) = some (g_up G b c) ∧ LC c lb (fun x => if j ≤ x ∧ x < j + k then f (i + (x - j)) else g x) := by
  obtain ⟨d1, e1, f', rfl, q1⟩ := h1
  obtain ⟨d2, e2, g', rfl, q2⟩ := h2
  unfold g_cp
  rw [e1, e2]
  refine ⟨.inr (.inr (.inl (lb, va_cpy f' g' i j k))), ?_, va_cpy f' g' i j k, rfl, fun x hx => ?_⟩
  · show (if nI i < 0 ∨ nI j < 0 ∨ nI k < 0 ∨ la < (nI i).toNatClampNeg + (nI k).toNatClampNeg ∨ lb < (nI j).toNatClampNeg + (nI k).toNatClampNeg then none else some (g_up G b (.inr (.inr (.inl (lb, va_cpy f' g' (nI i).toNatClampNeg (nI j).toNatClampNeg (nI k).toNatClampNeg)))))) = _
    rw [nI_clamp (by omega), nI_clamp (by omega), nI_clamp (by omega), if_neg]
    rintro (z | z | z | z | z)
    · exact nI_pos (by omega) z
    · exact nI_pos (by omega) z
    · exact nI_pos (by omega) z
    · omega
    · omega
  · show va_cpy f' g' i j k x = if j ≤ x ∧ x < j + k then f (i + (x - j)) else g x
    by_cases c : j ≤ x ∧ x < j + k
    · rw [if_pos c, pk_cpy_in c.1 c.2]
      exact q1 _ (by omega)
    · rw [if_neg c, pk_cpy_out (by omega)]
      exact q2 _ hx
