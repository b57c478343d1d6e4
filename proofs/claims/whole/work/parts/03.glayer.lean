/-! The g layer: an abstract heap G (address to cell), one picture of it, and rows over it. -/
/-- the words that every method may use: those of the tables that a call keeps -/
def g_T : List Cond := lw_tbl.filter goodWord
theorem g_T_good {w : Cond} (h : w ∈ g_T) : (w.onTables && w.keeps) = true ∨ ∃ ty, w = .arrayClass ty := good_of_word (List.mem_filter.mp h).2
theorem g_good {y : MethodName} {cc : ByteArray} {maxL : Nat} {ret : Option FieldType} (hc : Cond.code y cc maxL ret ∈ g_T) : GoodIn g_T (Cond.code y cc maxL ret :: g_T) := by
  intro w h
  rcases List.mem_cons.mp h with rfl | h
  · exact ⟨hc, g_T_good hc⟩
  · exact ⟨h, g_T_good h⟩
abbrev gE : Type := (Nat → ClassId) × (Nat → Nat → Nat) × (Nat → ClassId)
abbrev gC : Type := (Nat × List Value) ⊕ (Nat × (Nat → Int32)) ⊕ (Nat × (Nat → Int64)) ⊕ (Nat × (Nat → Int32)) ⊕ (Nat × (Nat → Option Nat))
abbrev gG : Type := Nat → Option gC
def g_cv (cA : Nat → ClassId) (c : gC) : va_E := match c with
  | .inl o => .inr o
  | .inr (.inl x) => .inl (cA 0, x.1, .inl x.2)
  | .inr (.inr (.inl x)) => .inl (cA 1, x.1, .inr (.inl x.2))
  | .inr (.inr (.inr (.inl x))) => .inl (cA 2, x.1, .inl x.2)
  | .inr (.inr (.inr (.inr x))) => .inl (cA 3, x.1, .inr (.inr (.inr (.inr x.2))))
def g_up (G : gG) (a : Nat) (c : gC) : gG := fun b => if b = a then some c else G b
abbrev g_tys (E : gE) : List (ClassId × FieldType) := [(E.2.2 0, .int), (E.2.2 1, .long), (E.2.2 2, .boolean), (E.2.2 3, .object RX4)]
def g_K (E : gE) (U : State) : Prop := va_K (E.1, E.2.1) vwCl (g_tys E) U ∧ va_AO RX4 U ∧ va_Nw (.methodLinkNest RX0 9 yX2_init RX5) U ∧ va_Nw (.methodLinkNest RX4 9 yX3_init RX5) U ∧ va_Nw (.methodLinkNest RX5 17 yX0_init RX5) U ∧ va_Nw (.methodLinkNest RX5 24 yX3_init RX5) U
theorem g_K.warm {E : gE} {s U : State} (hW : s.WarmedH U.vm) (h : g_K E s) : g_K E U :=
  ⟨va_K.moved hW.alike h.1, va_AO.moved hW.alike h.2.1, va_Nw.warmM hW h.2.2.1, va_Nw.warmM hW h.2.2.2.1, va_Nw.warmM hW h.2.2.2.2.1, va_Nw.warmM hW h.2.2.2.2.2⟩
theorem g_K.calling {E : gE} {U : State} {g : JFrame} {mk : MethodId} {a : Array Value} (h : g_K E U) : g_K E (U.calling g mk a) :=
  ⟨va_K.moved (u := U) (U := U.calling g mk a) (Vm.Alike.refl U.vm) h.1, va_AO.moved (u := U) (U := U.calling g mk a) (Vm.Alike.refl U.vm) h.2.1, va_Nw.same rfl rfl h.2.2.1, va_Nw.same rfl rfl h.2.2.2.1, va_Nw.same rfl rfl h.2.2.2.2.1, va_Nw.same rfl rfl h.2.2.2.2.2⟩
def g_P (E : gE) (G : gG) (n : Nat) (H : Heap) : Prop := H.size = n ∧ ∀ (a : Nat) (c : gC), G a = some c → va_at (E.1, E.2.1) vwCl (a, g_cv E.2.2 c) H
def g_A (G : gG) (n : Nat) : Nat → Prop := fun q => G q ≠ none ∨ n ≤ q
def g_I (E : gE) (A : Nat → Prop) (G : gG) (n : Nat) (H0 H : Heap) (locs : List Loc) : Prop := g_P E G n H ∧ va_S A H0 H locs ∧ (∀ q, G q ≠ none → A q)
def g_Q (E : gE) (G : gG) (n : Nat) (rv : Option Value) (G' : gG) (n' : Nat) : Array Value → State → Outcome → State → Prop := fun _ st o t => o = .returned rv ∧ g_P E G' n' t.heap ∧ va_F (g_A G n) st t ∧ (∀ q, G' q ≠ none → g_A G n q)
def g_Met (l : Launch) (y : MethodName) (cc : ByteArray) (maxL : Nat) (ret : Option FieldType) (rm : Room) (E : gE) (G : gG) (n : Nat) (av : List Value) (rv : Option Value) (G' : gG) (n' : Nat) : Prop :=
  Met l y (Cond.code y cc maxL ret :: g_T) rm (va_Pc av (fun U => g_P E G n U.heap ∧ g_K E U)) (g_Q E G n rv G' n') rm.cells rm.slots (g_A G n)
/-- what a method's walk knows: its code, words, tables -/
def g_X (E : gE) (G0 : gG) (n0 : Nat) (p : Program) (s : State) (m : MethodId) (args : Array Value) (meth : Method) (c : Code) (cc : ByteArray) (nL : Nat) (own mn : String) (ret : Option FieldType) : Prop :=
  p.tables.exec = Jvm.exec ∧ c.code = cc ∧ c.maxLocals = nL ∧ s.vm.findClass own = some m.cls ∧ (∀ w ∈ g_T, w.before args s = true) ∧ g_K E s ∧ meth.sig.returnType = ret ∧ meth.locks = false ∧ s.heap.size = n0 ∧ meth.name = mn ∧ (∀ q, G0 q ≠ none → q < n0)
theorem g_P.dom {E : gE} {G : gG} {n : Nat} {H : Heap} (h : g_P E G n H) {q : Nat} (hq : G q ≠ none) : q < n := by
  obtain ⟨c, hc⟩ := Option.ne_none_iff_exists'.mp hq
  have := (h.2 q c hc).lt
  rw [h.1] at this
  exact this
theorem g_at.kept {E : gE} {G : gG} {n : Nat} {H H1 : Heap} (h : g_P E G n H) {a : Nat} {c' : gC} (z : H1.size = H.size) (oq : ∀ q : Nat, q ≠ a → H1[q]? = H[q]?) (hn : va_at (E.1, E.2.1) vwCl (a, g_cv E.2.2 c') H1) : g_P E (g_up G a c') n H1 := by
  refine ⟨z.trans h.1, fun b c hb => ?_⟩
  unfold g_up at hb
  by_cases e : b = a
  · rw [if_pos e] at hb
    cases hb
    rw [e]
    exact hn
  · rw [if_neg e] at hb
    exact (h.2 b c hb).kept (oq b e)
theorem g_I.put {E : gE} {A : Nat → Prop} {G : gG} {n : Nat} {H0 H H1 : Heap} {locs : List Loc} (h : g_I E A G n H0 H locs) {a k : Nat} {c0 c' : gC} (ha : G a = some c0) (z : H1.size = H.size) (oq : ∀ q : Nat, q ≠ a → H1[q]? = H[q]?) (hn : va_at (E.1, E.2.1) vwCl (a, g_cv E.2.2 c') H1) : g_I E A (g_up G a c') n H0 H1 (locs ++ [⟨a, k⟩]) := by
  have hA : A a := h.2.2 a (by rw [ha]; exact fun q => by cases q)
  refine ⟨g_at.kept h.1 z oq hn, h.2.1.put z oq hA, fun q hq => ?_⟩
  unfold g_up at hq
  by_cases e : q = a
  · rw [e]; exact hA
  · rw [if_neg e] at hq; exact h.2.2 q hq
theorem g_I.born {E : gE} {A : Nat → Prop} {G : gG} {n : Nat} {H0 H H1 : Heap} {locs : List Loc} (h : g_I E A G n H0 H locs) (hA : ∀ q, H0.size ≤ q → A q) {c' : gC} (z : H1.size = H.size + 1) (oq : ∀ q : Nat, q < H.size → H1[q]? = H[q]?) (hn : va_at (E.1, E.2.1) vwCl (n, g_cv E.2.2 c') H1) : g_I E A (g_up G n c') (n + 1) H0 H1 locs := by
  have hs := h.2.1
  refine ⟨⟨by rw [z, h.1.1], fun b c hb => ?_⟩, ⟨Nat.le_trans hs.1 (by omega), fun q h1 h2 => (oq q (Nat.lt_of_lt_of_le h1 hs.1)).trans (hs.2.1 q h1 h2), hs.2.2⟩, fun q hq => ?_⟩
  · unfold g_up at hb
    by_cases e : b = n
    · rw [if_pos e] at hb
      cases hb
      rw [e]
      exact hn
    · rw [if_neg e] at hb
      exact (h.1.2 b c hb).kept (oq b ((h.1.2 b c hb).lt))
  · unfold g_up at hq
    by_cases e : q = n
    · rw [e, ← h.1.1]; exact hA _ hs.1
    · rw [if_neg e] at hq; exact h.2.2 q hq
-- ===== the abstract operations =====
def gl {α : Type} {β : Type} (e : α) (k : α → β) : β := k e
def gb {α β : Type} (o : Option α) (k : α → Option β) : Option β := match o with
  | none => none
  | some a => k a
def gb2 {α β γ : Type} (o : Option (α × β)) (k : α → β → Option γ) : Option γ := match o with
  | none => none
  | some (a, b) => k a b
def gb3 {α β γ δ : Type} (o : Option (α × β × γ)) (k : α → β → γ → Option δ) : Option δ := match o with
  | none => none
  | some (a, b, c) => k a b c
def gnl {β : Type} (o : Option Nat) (x : β) (k : Nat → β) : β := match o with
  | none => x
  | some a => k a
theorem gl_s {α β : Type} {e : α} {k : α → β} {r : β} (h : gl e k = r) : ∃ v, e = v ∧ k v = r := ⟨e, rfl, h⟩
theorem gb_s {α β : Type} {o : Option α} {k : α → Option β} {r : β} (h : gb o k = some r) : ∃ v, o = some v ∧ k v = some r := by
  cases o with
  | none => cases h
  | some a => exact ⟨a, rfl, h⟩
theorem gb2_s {α β γ : Type} {o : Option (α × β)} {k : α → β → Option γ} {r : γ} (h : gb2 o k = some r) : ∃ a b, o = some (a, b) ∧ k a b = some r := by
  cases o with
  | none => cases h
  | some a => exact ⟨a.1, a.2, rfl, h⟩
theorem gb3_s {α β γ δ : Type} {o : Option (α × β × γ)} {k : α → β → γ → Option δ} {r : δ} (h : gb3 o k = some r) : ∃ a b c, o = some (a, b, c) ∧ k a b c = some r := by
  cases o with
  | none => cases h
  | some a => exact ⟨a.1, a.2.1, a.2.2, rfl, h⟩
def g_fld (G : gG) (a ci k : Nat) : Option Value := match G a with
  | some (.inl o) => if o.1 = ci then o.2[k]? else none
  | _ => none
theorem g_fld_s {G : gG} {a ci k : Nat} {v : Value} (h : g_fld G a ci k = some v) : ∃ fs, G a = some (.inl (ci, fs)) ∧ fs[k]? = some v := by
  unfold g_fld at h
  split at h
  · rename_i o ho
    by_cases hc : o.1 = ci
    · rw [if_pos hc] at h
      exact ⟨o.2, by rw [ho, ← hc], h⟩
    · rw [if_neg hc] at h; cases h
  · cases h
def g_fI (G : gG) (a ci k : Nat) : Option Int32 := match g_fld G a ci k with
  | some (.int v) => some v
  | _ => none
def g_fL (G : gG) (a ci k : Nat) : Option Int64 := match g_fld G a ci k with
  | some (.long v) => some v
  | _ => none
def g_fA (G : gG) (a ci k : Nat) : Option Nat := match g_fld G a ci k with
  | some (.ref v) => some v
  | _ => none
theorem g_fI_s {G : gG} {a ci k : Nat} {v : Int32} (h : g_fI G a ci k = some v) : g_fld G a ci k = some (.int v) := by
  unfold g_fI at h
  split at h
  · rename_i w hw; cases h; exact hw
  · cases h
theorem g_fL_s {G : gG} {a ci k : Nat} {v : Int64} (h : g_fL G a ci k = some v) : g_fld G a ci k = some (.long v) := by
  unfold g_fL at h
  split at h
  · rename_i w hw; cases h; exact hw
  · cases h
theorem g_fA_s {G : gG} {a ci k : Nat} {v : Nat} (h : g_fA G a ci k = some v) : g_fld G a ci k = some (.ref v) := by
  unfold g_fA at h
  split at h
  · rename_i w hw; cases h; exact hw
  · cases h
def g_st (G : gG) (a ci k : Nat) (v : Value) : Option gG := match G a with
  | some (.inl o) => if o.1 = ci ∧ k < o.2.length then some (g_up G a (.inl (ci, o.2.set k v))) else none
  | _ => none
theorem g_st_s {G G' : gG} {a ci k : Nat} {v : Value} (h : g_st G a ci k v = some G') : ∃ fs, G a = some (.inl (ci, fs)) ∧ k < fs.length ∧ G' = g_up G a (.inl (ci, fs.set k v)) := by
  unfold g_st at h
  split at h
  · rename_i o ho
    by_cases hc : o.1 = ci ∧ k < o.2.length
    · rw [if_pos hc] at h
      exact ⟨o.2, by rw [ho, ← hc.1], hc.2, (Option.some.inj h).symm⟩
    · rw [if_neg hc] at h; cases h
  · cases h
def g_sI (G : gG) (a ci k : Nat) (v : Int32) : Option gG := g_st G a ci k (.int v)
def g_sZ (G : gG) (a ci k : Nat) (v : Int32) : Option gG := if v = 0 ∨ v = 1 then g_st G a ci k (.int v) else none
def g_sL (G : gG) (a ci k : Nat) (v : Int64) : Option gG := g_st G a ci k (.long v)
def g_sA (G : gG) (a ci k : Nat) (v : Nat) : Option gG := g_st G a ci k (.ref v)
def g_il (G : gG) (a : Nat) (i : Int32) : Option Int32 := match G a with
  | some (.inr (.inl x)) => if i < 0 ∨ x.1 ≤ i.toNatClampNeg then none else some (x.2 i.toNatClampNeg)
  | _ => none
def g_ll (G : gG) (a : Nat) (i : Int32) : Option Int64 := match G a with
  | some (.inr (.inr (.inl x))) => if i < 0 ∨ x.1 ≤ i.toNatClampNeg then none else some (x.2 i.toNatClampNeg)
  | _ => none
def g_zl (G : gG) (a : Nat) (i : Int32) : Option Int32 := match G a with
  | some (.inr (.inr (.inr (.inl x)))) => if i < 0 ∨ x.1 ≤ i.toNatClampNeg then none else some (x.2 i.toNatClampNeg)
  | _ => none
def g_al (G : gG) (a : Nat) (i : Int32) : Option (Option Nat) := match G a with
  | some (.inr (.inr (.inr (.inr x)))) => if i < 0 ∨ x.1 ≤ i.toNatClampNeg then none else some (x.2 i.toNatClampNeg)
  | _ => none
def g_is (G : gG) (a : Nat) (i v : Int32) : Option gG := match G a with
  | some (.inr (.inl x)) => if i < 0 ∨ x.1 ≤ i.toNatClampNeg then none else some (g_up G a (.inr (.inl (x.1, upd x.2 i.toNatClampNeg v))))
  | _ => none
def g_ls (G : gG) (a : Nat) (i : Int32) (v : Int64) : Option gG := match G a with
  | some (.inr (.inr (.inl x))) => if i < 0 ∨ x.1 ≤ i.toNatClampNeg then none else some (g_up G a (.inr (.inr (.inl (x.1, vp_updL x.2 i.toNatClampNeg v)))))
  | _ => none
def g_zs (G : gG) (a : Nat) (i v : Int32) : Option gG := match G a with
  | some (.inr (.inr (.inr (.inl x)))) => if i < 0 ∨ x.1 ≤ i.toNatClampNeg then none else some (g_up G a (.inr (.inr (.inr (.inl (x.1, upd x.2 i.toNatClampNeg (vp_nar .boolean v)))))))
  | _ => none
def g_isT (G : gG) (v : Nat) : Bool := match G v with
  | some (.inl o) => decide (o.1 = 3)
  | _ => false
def g_as (G : gG) (a : Nat) (i : Int32) (v : Nat) : Option gG := match G a with
  | some (.inr (.inr (.inr (.inr x)))) => if (i < 0 ∨ x.1 ≤ i.toNatClampNeg) ∨ g_isT G v = false then none else some (g_up G a (.inr (.inr (.inr (.inr (x.1, va_up x.2 i.toNatClampNeg (some v)))))))
  | _ => none
def g_len (G : gG) (a : Nat) : Option Int32 := match G a with
  | some (.inr (.inl x)) => some (Int32.ofNat x.1)
  | some (.inr (.inr (.inl x))) => some (Int32.ofNat x.1)
  | some (.inr (.inr (.inr (.inl x)))) => some (Int32.ofNat x.1)
  | some (.inr (.inr (.inr (.inr x)))) => some (Int32.ofNat x.1)
  | _ => none
def g_cp (G : gG) (a : Nat) (i : Int32) (b : Nat) (j k : Int32) : Option gG := match G a, G b with
  | some (.inr (.inr (.inl x))), some (.inr (.inr (.inl y))) => if i < 0 ∨ j < 0 ∨ k < 0 ∨ x.1 < i.toNatClampNeg + k.toNatClampNeg ∨ y.1 < j.toNatClampNeg + k.toNatClampNeg then none else some (g_up G b (.inr (.inr (.inl (y.1, va_cpy x.2 y.2 i.toNatClampNeg j.toNatClampNeg k.toNatClampNeg)))))
  | _, _ => none
def g_M (y : MethodName) (cc : ByteArray) (maxL : Nat) (ret : Option FieldType) (k : Nat) : Prop := Cond.code y cc maxL ret ∈ g_T ∧ Cond.initialized y.cls ∈ g_T ∧ (y.cls ≠ "java/lang/invoke/MethodHandle" ∧ y.cls ≠ "java/lang/invoke/VarHandle" ∧ (parseMethodDescriptor y.desc).map (fun d => d.parameters.length) = some k) ∧ (plainName y.cls = true ∨ plainFor y = true)
