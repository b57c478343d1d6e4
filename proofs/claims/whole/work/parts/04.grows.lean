/-! Rows over the g layer: an instruction that touches the heap, a call, a return. -/
theorem g_il_s {G : gG} {a : Nat} {i : Int32} {v : Int32} (h : g_il G a i = some v) : ∃ x, G a = some (.inr (.inl x)) ∧ vp_in i x.1 ∧ v = x.2 i.toNatClampNeg := by
  unfold g_il at h
  split at h
  · rename_i x hx
    by_cases hc : i < 0 ∨ x.1 ≤ i.toNatClampNeg
    · rw [if_pos hc] at h; cases h
    · rw [if_neg hc] at h; exact ⟨x, hx, hc, (Option.some.inj h).symm⟩
  · cases h
theorem g_ll_s {G : gG} {a : Nat} {i : Int32} {v : Int64} (h : g_ll G a i = some v) : ∃ x, G a = some (.inr (.inr (.inl x))) ∧ vp_in i x.1 ∧ v = x.2 i.toNatClampNeg := by
  unfold g_ll at h
  split at h
  · rename_i x hx
    by_cases hc : i < 0 ∨ x.1 ≤ i.toNatClampNeg
    · rw [if_pos hc] at h; cases h
    · rw [if_neg hc] at h; exact ⟨x, hx, hc, (Option.some.inj h).symm⟩
  · cases h
theorem g_zl_s {G : gG} {a : Nat} {i : Int32} {v : Int32} (h : g_zl G a i = some v) : ∃ x, G a = some (.inr (.inr (.inr (.inl x)))) ∧ vp_in i x.1 ∧ v = x.2 i.toNatClampNeg := by
  unfold g_zl at h
  split at h
  · rename_i x hx
    by_cases hc : i < 0 ∨ x.1 ≤ i.toNatClampNeg
    · rw [if_pos hc] at h; cases h
    · rw [if_neg hc] at h; exact ⟨x, hx, hc, (Option.some.inj h).symm⟩
  · cases h
theorem g_al_s {G : gG} {a : Nat} {i : Int32} {v : Option Nat} (h : g_al G a i = some v) : ∃ x, G a = some (.inr (.inr (.inr (.inr x)))) ∧ vp_in i x.1 ∧ v = x.2 i.toNatClampNeg := by
  unfold g_al at h
  split at h
  · rename_i x hx
    by_cases hc : i < 0 ∨ x.1 ≤ i.toNatClampNeg
    · rw [if_pos hc] at h; cases h
    · rw [if_neg hc] at h; exact ⟨x, hx, hc, (Option.some.inj h).symm⟩
  · cases h
theorem g_is_s {G G' : gG} {a : Nat} {i v : Int32} (h : g_is G a i v = some G') : ∃ x, G a = some (.inr (.inl x)) ∧ vp_in i x.1 ∧ G' = g_up G a (.inr (.inl (x.1, upd x.2 i.toNatClampNeg v))) := by
  unfold g_is at h
  split at h
  · rename_i x hx
    by_cases hc : i < 0 ∨ x.1 ≤ i.toNatClampNeg
    · rw [if_pos hc] at h; cases h
    · rw [if_neg hc] at h; exact ⟨x, hx, hc, (Option.some.inj h).symm⟩
  · cases h
theorem g_ls_s {G G' : gG} {a : Nat} {i : Int32} {v : Int64} (h : g_ls G a i v = some G') : ∃ x, G a = some (.inr (.inr (.inl x))) ∧ vp_in i x.1 ∧ G' = g_up G a (.inr (.inr (.inl (x.1, vp_updL x.2 i.toNatClampNeg v)))) := by
  unfold g_ls at h
  split at h
  · rename_i x hx
    by_cases hc : i < 0 ∨ x.1 ≤ i.toNatClampNeg
    · rw [if_pos hc] at h; cases h
    · rw [if_neg hc] at h; exact ⟨x, hx, hc, (Option.some.inj h).symm⟩
  · cases h
theorem g_zs_s {G G' : gG} {a : Nat} {i v : Int32} (h : g_zs G a i v = some G') : ∃ x, G a = some (.inr (.inr (.inr (.inl x)))) ∧ vp_in i x.1 ∧ G' = g_up G a (.inr (.inr (.inr (.inl (x.1, upd x.2 i.toNatClampNeg (vp_nar .boolean v)))))) := by
  unfold g_zs at h
  split at h
  · rename_i x hx
    by_cases hc : i < 0 ∨ x.1 ≤ i.toNatClampNeg
    · rw [if_pos hc] at h; cases h
    · rw [if_neg hc] at h; exact ⟨x, hx, hc, (Option.some.inj h).symm⟩
  · cases h
def g_isO (G : gG) (v ci : Nat) : Bool := match G v with
  | some (.inl o) => decide (o.1 = ci)
  | _ => false
theorem g_isO_s {G : gG} {v ci : Nat} (h : g_isO G v ci = true) : ∃ fs, G v = some (.inl (ci, fs)) := by
  unfold g_isO at h
  split at h
  · rename_i o ho
    exact ⟨o.2, by rw [ho, ← of_decide_eq_true h]⟩
  · cases h
theorem g_isT_s {G : gG} {v : Nat} (h : ¬ g_isT G v = false) : ∃ fs, G v = some (.inl (3, fs)) := by
  unfold g_isT at h
  split at h
  · rename_i o ho
    by_cases hc : o.1 = 3
    · exact ⟨o.2, by rw [ho, ← hc]⟩
    · exact absurd (decide_eq_false hc) h
  · exact absurd rfl h
theorem g_as_s {G G' : gG} {a : Nat} {i : Int32} {v : Nat} (h : g_as G a i v = some G') : ∃ x fs, G a = some (.inr (.inr (.inr (.inr x)))) ∧ vp_in i x.1 ∧ G v = some (.inl (3, fs)) ∧ G' = g_up G a (.inr (.inr (.inr (.inr (x.1, va_up x.2 i.toNatClampNeg (some v)))))) := by
  unfold g_as at h
  split at h
  · rename_i x hx
    by_cases hc : (i < 0 ∨ x.1 ≤ i.toNatClampNeg) ∨ g_isT G v = false
    · rw [if_pos hc] at h; cases h
    · rw [if_neg hc] at h
      obtain ⟨fs, hfs⟩ := g_isT_s (fun q => hc (Or.inr q))
      exact ⟨x, fs, hx, fun q => hc (Or.inl q), hfs, (Option.some.inj h).symm⟩
  · cases h
theorem g_cp_s {G G' : gG} {a b : Nat} {i j k : Int32} (h : g_cp G a i b j k = some G') : ∃ x y, G a = some (.inr (.inr (.inl x))) ∧ G b = some (.inr (.inr (.inl y))) ∧ ¬ i < 0 ∧ ¬ j < 0 ∧ ¬ k < 0 ∧ i.toNatClampNeg + k.toNatClampNeg ≤ x.1 ∧ j.toNatClampNeg + k.toNatClampNeg ≤ y.1 ∧ G' = g_up G b (.inr (.inr (.inl (y.1, va_cpy x.2 y.2 i.toNatClampNeg j.toNatClampNeg k.toNatClampNeg)))) := by
  unfold g_cp at h
  split at h
  · rename_i x y hx hy
    by_cases hc : i < 0 ∨ j < 0 ∨ k < 0 ∨ x.1 < i.toNatClampNeg + k.toNatClampNeg ∨ y.1 < j.toNatClampNeg + k.toNatClampNeg
    · rw [if_pos hc] at h; cases h
    · rw [if_neg hc] at h
      exact ⟨x, y, hx, hy, fun q => hc (Or.inl q), fun q => hc (Or.inr (Or.inl q)), fun q => hc (Or.inr (Or.inr (Or.inl q))), Nat.not_lt.mp (fun q => hc (Or.inr (Or.inr (Or.inr (Or.inl q))))), Nat.not_lt.mp (fun q => hc (Or.inr (Or.inr (Or.inr (Or.inr q))))), (Option.some.inj h).symm⟩
  · cases h
theorem g_rfcat (o : Option Nat) : (va_rf o).category = 1 := by cases o <;> rfl
section GR
variable {p : Program} {l : Launch} {e : Env} {R : Room} {s : State} {m : MethodId} {args : Array Value} {below : List Frame} {meth : Method} {c : Code} {H : Heap} {locs : List Loc} {cells slots : Nat} {Q : State → Prop}
variable {E : gE} {G0 : gG} {n0 : Nat} {cc : ByteArray} {nL : Nat} {own mn : String} {ret : Option FieldType} {G : gG} {n : Nat} {pc : Nat} {ls : Array Slot} {rest : List Value} {a : Nat}
theorem g_one {A : Nat → Prop} {H0 : Heap} {x : gC} (hI : g_I E A G n H0 H locs) (h : G a = some x) : va_P (E.1, E.2.1) vwCl [(a, g_cv E.2.2 x)] H := by
  intro k q hk
  have hz : k < 1 := (List.getElem?_eq_some_iff.mp hk).1
  rw [show k = 0 by omega] at hk
  cases hk
  exact hI.1.2 a x h
theorem g_X.A (X : g_X E G0 n0 p s m args meth c cc nL own mn ret) : ∀ q, s.heap.size ≤ q → g_A G0 n0 q := fun q h => Or.inr (by rw [← X.2.2.2.2.2.2.2.2.1]; exact h)
theorem g_get (X : g_X E G0 n0 p s m args meth c cc nL own mn ret) (hI : g_I E (g_A G0 n0) G n s.heap H locs) {C : String} {T : u_T} {N ci k index : Nat} {v : Value} (hv : g_fld G a ci k = some v) (hc : vwCl[ci]? = some (C, T, N)) (hin : ∀ w ∈ u_ws C T N, w ∈ g_T) (hk : k < N) (hlink : Cond.fieldLink own index (T k).1 (T k).2.1 (T k).2.2.1 ∈ g_T) (hdg : decode cc pc = .ok (.getfield index, 3))
    (kk : W p l e R s m args below meth c H locs cells slots Q (F0 m (pc + 3) ls (v :: rest))) : W p l e R s m args below meth c H locs cells slots Q (F0 m pc ls (.ref a :: rest)) := by
  obtain ⟨fs, h1, h2⟩ := g_fld_s hv
  exact va_get (D := (E.1, E.2.1)) (cl := vwCl) (tys := g_tys E) (ws := [(a, .inr (ci, fs))]) X.1 X.2.1 X.2.2.2.2.1 hin X.2.2.2.1 X.2.2.2.2.2.1.1 (g_one hI h1) 0 rfl hc k hk (X.2.2.2.2.1 _ hlink) (fun _ h => h) h2 hdg kk
theorem g_put (X : g_X E G0 n0 p s m args meth c cc nL own mn ret) (hI : g_I E (g_A G0 n0) G n s.heap H locs) {C : String} {T : u_T} {N ci k index : Nat} {v : Value} {G' : gG} (hv : g_st G a ci k v = some G') (hc : vwCl[ci]? = some (C, T, N)) (hin : ∀ w ∈ u_ws C T N, w ∈ g_T) (ty0 : Nat → FieldType) (hty : ∀ k, k < N → parseFieldDescriptor (T k).2.2.1 = some (ty0 k)) (hnm : ∀ a, a < N → ∀ b, b < N → a ≠ b → (T a).2.1 ≠ (T b).2.1) (hk : k < N) (hlink : Cond.fieldLink own index (T k).1 (T k).2.1 (T k).2.2.1 ∈ g_T) (hfin : (T k).2.2.2 = false) (hn : narrow (ty0 k) v = v) (hfit : fits (ty0 k) v = true) (hdg : decode cc pc = .ok (.putfield index, 3))
    (kk : ∀ (H : Heap) (locs : List Loc), g_I E (g_A G0 n0) G' n s.heap H locs → W p l e R s m args below meth c H locs cells slots Q (F0 m (pc + 3) ls rest)) : W p l e R s m args below meth c H locs cells slots Q (F0 m pc ls (v :: .ref a :: rest)) := by
  obtain ⟨fs, h1, hl, rfl⟩ := g_st_s hv
  have hK := X.2.2.2.2.2.1.1
  have hts := X.2.2.2.2.1
  have hap := va_apart (own := own) hts hin ty0 hty hnm hK hc
  obtain ⟨r, hr1, cell, q1, q2, q3, q4⟩ := hI.1.2 a _ h1
  have hr : r = (C, T, N) := Option.some.inj (hr1.symm.trans hc)
  subst hr
  obtain ⟨hS, hfc, kC, hkC, hkind⟩ := hK.1 ci _ hc
  obtain ⟨cf, kf, fi, f, hi, hsl⟩ := hS k hk
  have hlay := hts _ (hin _ (u_in_lay hk))
  unfold u_lay at hlay
  rw [if_neg (by rw [hfin]; decide)] at hlay
  have hst := (u_facts hfc hkC (u_lays hts hin hk) hi).1
  have h6 := u_store hfc hkC hkind hlay hi (hty k hk) hn hfit
  refine W.putK X.1 X.2.1 (f := f) ⟨X.2.2.2.1, hts _ hlink, ⟨_, _, _, hi⟩, hst⟩ (by rw [q2]; exact h6) q1 q3 (by rw [hsl]; exact k2_hasslot (q4 k hk)) rfl rfl hdg fun H' e1 e2 e3 => ?_
  rw [hsl] at e1 ⊢
  exact kk H' _ (hI.put h1 e2 e3 ⟨_, hc, t_OB.to (V := updV (vp_V fs) k v) ⟨_, e1, q2, q3, t_set q4 hap hk v⟩ (fun j _ => vp_updV_set hl v j)⟩)
theorem g_putF (X : g_X E G0 n0 p s m args meth c cc nL own mn ret) (hI : g_I E (g_A G0 n0) G n s.heap H locs) {C : String} {T : u_T} {N ci k index : Nat} {v : Value} {G' : gG} (hv : g_st G a ci k v = some G') (hc : vwCl[ci]? = some (C, T, N)) (hin : ∀ w ∈ u_ws C T N, w ∈ g_T) (ty0 : Nat → FieldType) (hty : ∀ k, k < N → parseFieldDescriptor (T k).2.2.1 = some (ty0 k)) (hnm : ∀ a, a < N → ∀ b, b < N → a ≠ b → (T a).2.1 ≠ (T b).2.1) (hk : k < N) (hlink : Cond.fieldLink own index (T k).1 (T k).2.1 (T k).2.2.1 ∈ g_T) (hfin : (T k).2.2.2 = true) (hmn : mn = "<init>") (hdecl : (T k).1 = own) (hn : narrow (ty0 k) v = v) (hfit : fits (ty0 k) v = true) (hdg : decode cc pc = .ok (.putfield index, 3))
    (kk : ∀ (H : Heap) (locs : List Loc), g_I E (g_A G0 n0) G' n s.heap H locs → W p l e R s m args below meth c H locs cells slots Q (F0 m (pc + 3) ls rest)) : W p l e R s m args below meth c H locs cells slots Q (F0 m pc ls (v :: .ref a :: rest)) := by
  obtain ⟨fs, h1, hl, rfl⟩ := g_st_s hv
  have hK := X.2.2.2.2.2.1.1
  have hts := X.2.2.2.2.1
  have hown := X.2.2.2.1
  have hap := va_apart (own := own) hts hin ty0 hty hnm hK hc
  obtain ⟨r, hr1, cell, q1, q2, q3, q4⟩ := hI.1.2 a _ h1
  have hr : r = (C, T, N) := Option.some.inj (hr1.symm.trans hc)
  subst hr
  obtain ⟨hS, hfc, kC, hkC, hkind⟩ := hK.1 ci _ hc
  obtain ⟨cf, kf, fi, f, hi, hsl⟩ := hS k hk
  have hlay := hts _ (hin _ (u_in_lay hk))
  unfold u_lay at hlay
  rw [if_pos hfin] at hlay
  have hst := (u_facts hfc hkC (u_lays hts hin hk) hi).1
  have hcf : m.cls = cf := by
    obtain ⟨_, _, c', _, _, _, -, -, hf', -, -, -, hown2, -⟩ := Cond.laysFinal_spec hlay
    have e1 : c' = cf := by have := hi.symm.trans hf'; simp at this; exact this.1.symm
    rw [hdecl] at hown2
    rw [← e1]; exact Option.some.inj (hown.symm.trans hown2)
  have h6 := u_fits hfc hkC hkind (Or.inr hlay) hi (hty k hk) hn hfit
  refine W.putFinK X.1 X.2.1 hown (hts _ hlink) hi hst hcf (X.2.2.2.2.2.2.2.2.2.1.trans hmn) (by rw [q2]; exact h6) q1 q3 (by rw [hsl]; exact k2_hasslot (q4 k hk)) rfl rfl hdg fun H' e1 e2 e3 => ?_
  rw [hsl] at e1 ⊢
  exact kk H' _ (hI.put h1 e2 e3 ⟨_, hc, t_OB.to (V := updV (vp_V fs) k v) ⟨_, e1, q2, q3, t_set q4 hap hk v⟩ (fun j _ => vp_updV_set hl v j)⟩)
theorem g_iald (X : g_X E G0 n0 p s m args meth c cc nL own mn ret) (hI : g_I E (g_A G0 n0) G n s.heap H locs) {i v : Int32} (hv : g_il G a i = some v) (hdg : decode cc pc = .ok (.iaload, 1))
    (kk : W p l e R s m args below meth c H locs cells slots Q (F0 m (pc + 1) ls (.int v :: rest))) : W p l e R s m args below meth c H locs cells slots Q (F0 m pc ls (.int i :: .ref a :: rest)) := by
  obtain ⟨x, h1, h2, rfl⟩ := g_il_s hv
  exact va_iald (D := (E.1, E.2.1)) (cl := vwCl) (tys := g_tys E) (ws := [(a, .inl (E.2.2 0, x.1, .inl x.2))]) X.1 X.2.1 X.2.2.2.2.2.1.1 (g_one hI h1) 0 0 rfl rfl h2 hdg kk
theorem g_lald (X : g_X E G0 n0 p s m args meth c cc nL own mn ret) (hI : g_I E (g_A G0 n0) G n s.heap H locs) {i : Int32} {v : Int64} (hv : g_ll G a i = some v) (hdg : decode cc pc = .ok (.laload, 1))
    (kk : W p l e R s m args below meth c H locs cells slots Q (F0 m (pc + 1) ls (.long v :: rest))) : W p l e R s m args below meth c H locs cells slots Q (F0 m pc ls (.int i :: .ref a :: rest)) := by
  obtain ⟨x, h1, h2, rfl⟩ := g_ll_s hv
  exact va_lald (D := (E.1, E.2.1)) (cl := vwCl) (tys := g_tys E) (ws := [(a, .inl (E.2.2 1, x.1, .inr (.inl x.2)))]) X.1 X.2.1 X.2.2.2.2.2.1.1 (g_one hI h1) 0 1 rfl rfl h2 hdg kk
theorem g_zald (X : g_X E G0 n0 p s m args meth c cc nL own mn ret) (hI : g_I E (g_A G0 n0) G n s.heap H locs) {i v : Int32} (hv : g_zl G a i = some v) (hdg : decode cc pc = .ok (.baload, 1))
    (kk : W p l e R s m args below meth c H locs cells slots Q (F0 m (pc + 1) ls (.int v :: rest))) : W p l e R s m args below meth c H locs cells slots Q (F0 m pc ls (.int i :: .ref a :: rest)) := by
  obtain ⟨x, h1, h2, rfl⟩ := g_zl_s hv
  exact va_zald (D := (E.1, E.2.1)) (cl := vwCl) (tys := g_tys E) (ws := [(a, .inl (E.2.2 2, x.1, .inl x.2))]) X.1 X.2.1 X.2.2.2.2.2.1.1 (g_one hI h1) 0 2 rfl rfl h2 hdg kk
theorem g_aald (X : g_X E G0 n0 p s m args meth c cc nL own mn ret) (hI : g_I E (g_A G0 n0) G n s.heap H locs) {i : Int32} {v : Option Nat} (hv : g_al G a i = some v) (hdg : decode cc pc = .ok (.aaload, 1))
    (kk : W p l e R s m args below meth c H locs cells slots Q (F0 m (pc + 1) ls (va_rf v :: rest))) : W p l e R s m args below meth c H locs cells slots Q (F0 m pc ls (.int i :: .ref a :: rest)) := by
  obtain ⟨x, h1, h2, rfl⟩ := g_al_s hv
  exact va_aldq (D := (E.1, E.2.1)) (cl := vwCl) (tys := g_tys E) (ws := [(a, .inl (E.2.2 3, x.1, .inr (.inr (.inr (.inr x.2)))))]) X.1 X.2.1 X.2.2.2.2.2.1.1 (g_one hI h1) 0 3 rfl rfl h2 hdg kk
theorem g_alen (X : g_X E G0 n0 p s m args meth c cc nL own mn ret) (hI : g_I E (g_A G0 n0) G n s.heap H locs) {v : Int32} (hv : g_len G a = some v) (hdg : decode cc pc = .ok (.arraylength, 1))
    (kk : W p l e R s m args below meth c H locs cells slots Q (F0 m (pc + 1) ls (.int v :: rest))) : W p l e R s m args below meth c H locs cells slots Q (F0 m pc ls (.ref a :: rest)) := by
  unfold g_len at hv
  split at hv
  · rename_i x hx
    exact va_alen (D := (E.1, E.2.1)) (cl := vwCl) (tys := g_tys E) (ws := [(a, .inl (E.2.2 0, x.1, .inl x.2))]) X.1 X.2.1 X.2.2.2.2.2.1.1 (g_one hI hx) 0 0 rfl rfl (Option.some.inj hv) hdg kk
  · rename_i x hx
    exact va_alen (D := (E.1, E.2.1)) (cl := vwCl) (tys := g_tys E) (ws := [(a, .inl (E.2.2 1, x.1, .inr (.inl x.2)))]) X.1 X.2.1 X.2.2.2.2.2.1.1 (g_one hI hx) 0 1 rfl rfl (Option.some.inj hv) hdg kk
  · rename_i x hx
    exact va_alen (D := (E.1, E.2.1)) (cl := vwCl) (tys := g_tys E) (ws := [(a, .inl (E.2.2 2, x.1, .inl x.2))]) X.1 X.2.1 X.2.2.2.2.2.1.1 (g_one hI hx) 0 2 rfl rfl (Option.some.inj hv) hdg kk
  · rename_i x hx
    exact va_alen (D := (E.1, E.2.1)) (cl := vwCl) (tys := g_tys E) (ws := [(a, .inl (E.2.2 3, x.1, .inr (.inr (.inr (.inr x.2)))))]) X.1 X.2.1 X.2.2.2.2.2.1.1 (g_one hI hx) 0 3 rfl rfl (Option.some.inj hv) hdg kk
  · cases hv
theorem g_iast (X : g_X E G0 n0 p s m args meth c cc nL own mn ret) (hI : g_I E (g_A G0 n0) G n s.heap H locs) {i v : Int32} {G' : gG} (hv : g_is G a i v = some G') (hdg : decode cc pc = .ok (.iastore, 1))
    (kk : ∀ (H : Heap) (locs : List Loc), g_I E (g_A G0 n0) G' n s.heap H locs → W p l e R s m args below meth c H locs cells slots Q (F0 m (pc + 1) ls rest)) : W p l e R s m args below meth c H locs cells slots Q (F0 m pc ls (.int v :: .int i :: .ref a :: rest)) := by
  obtain ⟨x, h1, h2, rfl⟩ := g_is_s hv
  have hK := X.2.2.2.2.2.1.1
  refine W.iast X.1 X.2.1 (hI.1.2 a _ h1) ((hK.2 0 _ rfl).1 x.1 (fun j => .int (x.2 j))) (fun q => by cases q) (by show ¬ (i < 0 ∨ (arrV _ _ _).slots.size ≤ _); rw [arrV_size]; exact h2) rfl rfl hdg fun H1 e z oq => ?_
  refine kk H1 _ (hI.put h1 z oq ?_)
  show H1[a]? = some (vp_cell (E.2.2 0) (x.1, .inl (upd x.2 i.toNatClampNeg v)))
  rw [e]
  show some ((vp_cell (E.2.2 0) (x.1, .inl x.2)).setSlot _ _) = _
  rw [vp_cell_i, vp_cell_i, arrV_store]
  congr 2
  funext q
  by_cases hq : q = i.toNatClampNeg
  · subst hq
    simp [updV, upd]
  · simp [updV, upd, hq]
theorem g_zast (X : g_X E G0 n0 p s m args meth c cc nL own mn ret) (hI : g_I E (g_A G0 n0) G n s.heap H locs) {i v : Int32} {G' : gG} (hv : g_zs G a i v = some G') (hdg : decode cc pc = .ok (.bastore, 1))
    (kk : ∀ (H : Heap) (locs : List Loc), g_I E (g_A G0 n0) G' n s.heap H locs → W p l e R s m args below meth c H locs cells slots Q (F0 m (pc + 1) ls rest)) : W p l e R s m args below meth c H locs cells slots Q (F0 m pc ls (.int v :: .int i :: .ref a :: rest)) := by
  obtain ⟨x, h1, h2, rfl⟩ := g_zs_s hv
  have hK := X.2.2.2.2.2.1.1
  refine W.zast X.1 X.2.1 (hI.1.2 a _ h1) ((hK.2 2 _ rfl).1 x.1 (fun j => .int (x.2 j))) (fun q => by cases q) (by show ¬ (i < 0 ∨ (arrV _ _ _).slots.size ≤ _); rw [arrV_size]; exact h2) rfl rfl hdg fun H1 e z oq => ?_
  refine kk H1 _ (hI.put h1 z oq ?_)
  show H1[a]? = some (vp_cell (E.2.2 2) (x.1, .inl (upd x.2 i.toNatClampNeg (vp_nar .boolean v))))
  rw [e]
  show some ((vp_cell (E.2.2 2) (x.1, .inl x.2)).setSlot _ _) = _
  rw [vp_cell_i, vp_cell_i, arrV_store]
  congr 2
  funext q
  by_cases hq : q = i.toNatClampNeg
  · subst hq
    simp [updV, upd, vp_nar]
    try rfl
  · simp [updV, upd, hq]
theorem g_last (X : g_X E G0 n0 p s m args meth c cc nL own mn ret) (hI : g_I E (g_A G0 n0) G n s.heap H locs) {i : Int32} {v : Int64} {G' : gG} (hv : g_ls G a i v = some G') (hdg : decode cc pc = .ok (.lastore, 1))
    (kk : ∀ (H : Heap) (locs : List Loc), g_I E (g_A G0 n0) G' n s.heap H locs → W p l e R s m args below meth c H locs cells slots Q (F0 m (pc + 1) ls rest)) : W p l e R s m args below meth c H locs cells slots Q (F0 m pc ls (.long v :: .int i :: .ref a :: rest)) := by
  obtain ⟨x, h1, h2, rfl⟩ := g_ls_s hv
  have hK := X.2.2.2.2.2.1.1
  refine W.last X.1 X.2.1 (hI.1.2 a _ h1) ((hK.2 1 _ rfl).1 x.1 (fun j => .long (x.2 j))) (fun q => by cases q) (by show ¬ (i < 0 ∨ (arrV _ _ _).slots.size ≤ _); rw [arrV_size]; exact h2) rfl rfl hdg fun H1 e z oq => ?_
  refine kk H1 _ (hI.put h1 z oq ?_)
  show H1[a]? = some (vp_cell (E.2.2 1) (x.1, .inr (.inl (vp_updL x.2 i.toNatClampNeg v))))
  rw [e]
  show some ((vp_cell (E.2.2 1) (x.1, .inr (.inl x.2))).setSlot _ _) = _
  rw [vp_cell_l, vp_cell_l, arrV_store]
  congr 2
  funext q
  by_cases hq : q = i.toNatClampNeg
  · subst hq
    simp [updV, vp_updL]
  · simp [updV, vp_updL, hq]
theorem g_aast (X : g_X E G0 n0 p s m args meth c cc nL own mn ret) (hI : g_I E (g_A G0 n0) G n s.heap H locs) {i : Int32} {v : Nat} {G' : gG} (hv : g_as G a i v = some G') (hdg : decode cc pc = .ok (.aastore, 1))
    (kk : ∀ (H : Heap) (locs : List Loc), g_I E (g_A G0 n0) G' n s.heap H locs → W p l e R s m args below meth c H locs cells slots Q (F0 m (pc + 1) ls rest)) : W p l e R s m args below meth c H locs cells slots Q (F0 m pc ls (.ref v :: .int i :: .ref a :: rest)) := by
  obtain ⟨x, fs, h1, hin, h3, rfl⟩ := g_as_s hv
  have hK := X.2.2.2.2.2.1.1
  have hlt : i.toNatClampNeg < x.1 := Nat.not_le.mp fun q => hin (Or.inr q)
  have h0 : ¬ i < 0 := fun q => hin (Or.inl q)
  obtain ⟨r', hr', cellV, g1, g2, g3, -⟩ := hI.1.2 v _ h3
  have hcls := (hK.1 3 _ rfl).2
  obtain ⟨kA, comp, k1, k2, k3, -⟩ := (hK.2 3 _ rfl).2
  have hcomp : comp = E.1 3 := Option.some.inj (k3.symm.trans hcls.1)
  subst hcomp
  obtain ⟨kC, hkC, -⟩ := hcls.2
  refine W.aast X.1 X.2.1 (hI.1.2 a _ h1) (fun q h => by cases h) (fun h => by cases h) k1 k2 rfl hkC ⟨h0, by show _ < (arrV _ _ _).slots.size; rw [arrV_size]; exact hlt⟩ g1 (fun q h => by rw [g3] at h; cases h) (by rw [g2]; exact hkC) (by rw [g2]; exact va_assign hcls) rfl rfl hdg fun H1 e z oq => ?_
  refine kk H1 _ (hI.put h1 z oq ?_)
  show H1[a]? = some (vp_cell (E.2.2 3) (x.1, .inr (.inr (.inr (.inr (va_up x.2 i.toNatClampNeg (some v)))))))
  rw [e]
  show some ((vp_cell (E.2.2 3) (x.1, .inr (.inr (.inr (.inr x.2))))).setSlot _ _) = _
  rw [vp_cell_q, vp_cell_q, arrV_store]
  congr 2
  funext q
  by_cases hq : q = i.toNatClampNeg
  · subst hq
    simp [updV, va_up, va_rf]
  · simp [updV, va_up, hq]
theorem g_cpl (X : g_X E G0 n0 p s m args meth c cc nL own mn ret) (hI : g_I E (g_A G0 n0) G n s.heap H locs) {index : Nat} {b : Nat} {sp dp k : Int32} {G' : gG} (hv : g_cp G b sp a dp k = some G') (hml : ls.size = nL) (hlink : Cond.methodLink own index arraycopyName ∈ g_T) (hnat : Cond.native arraycopyName ∈ g_T) (hstat : Cond.static arraycopyName ∈ g_T) (hini : Cond.initialized "java/lang/System" ∈ g_T)
    (hframes : 1 ≤ R.frames) (hlocals : (rest.map fun v => v.category).sum + (nativeFrameWords "java/lang/System" "arraycopy" 5 + 11) ≤ R.locals) (hdg : decode cc pc = .ok (.invokestatic index, 3))
    (kk : ∀ (H : Heap) (locs : List Loc), g_I E (g_A G0 n0) G' n s.heap H locs → W p l e R s m args below meth c H locs cells slots Q (F0 m (pc + 3) ls rest)) : W p l e R s m args below meth c H locs cells slots Q (F0 m pc ls (.int k :: .int dp :: .ref a :: .int sp :: .ref b :: rest)) := by
  obtain ⟨x, y, h1, h2, hz1, hz2, hz3, h4, h5, rfl⟩ := g_cp_s hv
  have nn : ∀ z : Int32, ¬ z < 0 → z.toInt = (z.toNatClampNeg : Int) := by
    intro z hz
    have hz0 : (0 : Int) ≤ z.toInt := by
      have := Int32.not_lt.mp hz
      simpa using Int32.le_iff_toInt_le.mp this
    show z.toInt = ((z.toInt.toNat : Nat) : Int)
    omega
  have hK := X.2.2.2.2.2.1.1
  have hts := X.2.2.2.2.1
  intro T hT XX
  have hc0 : H[b]? = some (vp_cell (E.2.2 1) (x.1, .inr (.inl x.2))) := hI.1.2 b _ h1
  have hc1 : H[a]? = some (vp_cell (E.2.2 1) (y.1, .inr (.inl y.2))) := hI.1.2 a _ h2
  obtain ⟨-, k0, hk0, cm0, hkk0⟩ := (hK.2 1 _ rfl).1 x.1 (fun j => .long (x.2 j))
  obtain ⟨-, k1, hk1, cm1, hkk1⟩ := (hK.2 1 _ rfl).1 y.1 (fun j => .long (y.2 j))
  obtain ⟨vm', X', step⟩ := XX.arraycopy X.1 X.2.2.2.1 (hts _ hlink) (hts _ hnat) (hts _ hstat) (hts _ hini) (src := b) (dst := a) (cs := vp_cell (E.2.2 1) (x.1, .inr (.inl x.2))) (cd := vp_cell (E.2.2 1) (y.1, .inr (.inl y.2))) (srcPos := sp) (destPos := dp) (n := k) (by rw [hT]; exact hc0) (by rw [hT]; exact hc1)
    (fun _ h => by cases h) (fun _ h => by cases h) (fun h => by cases h) (fun h => by cases h) hk0 hk1 hkk0 hkk1 (by simp [refKind]) hz1 hz2 hz3
    (by rw [nn sp hz1, nn k hz3]; show ¬ _ > ((arrV (E.2.2 1) x.1 (fun j => .long (x.2 j))).slots.size : Int); rw [arrV_size]; omega)
    (by rw [nn dp hz2, nn k hz3]; show ¬ _ > ((arrV (E.2.2 1) y.1 (fun j => .long (y.2 j))).slots.size : Int); rw [arrV_size]; omega)
    (fun vm₁ _ i hi => by
      have e : (vp_cell (E.2.2 1) (x.1, .inr (.inl x.2))).slots.getD (sp.toNatClampNeg + i) .null = .long (x.2 (sp.toNatClampNeg + i)) := by
        show (arrV (E.2.2 1) x.1 (fun j => .long (x.2 j))).slots.getD _ _ = _
        rw [Array.getD_eq_getD_getElem?, arrV_read _ _ (by omega)]
        rfl
      refine ⟨?_, ?_⟩
      · rw [e]
        rfl
      · rw [e]
        exact trivial)
    (g := F0 m pc ls (.int k :: .int dp :: .ref a :: .int sp :: .ref b :: rest)) rfl (hml.trans X.2.2.1.symm) (rest := rest) rfl (by rw [X.2.1]; exact hdg) hframes (by show 2 * 0 + _ + _ ≤ _; omega)
  have e1 : copied (vp_cell (E.2.2 1) (x.1, .inr (.inl x.2))) (vp_cell (E.2.2 1) (y.1, .inr (.inl y.2))) sp dp k = vp_cell (E.2.2 1) (y.1, .inr (.inl (va_cpy x.2 y.2 sp.toNatClampNeg dp.toNatClampNeg k.toNatClampNeg))) := va_copied (fun z => .long z) (E.2.2 1) (E.2.2 1) x.2 y.2 h4
  rw [e1] at X' step
  have hl : a < H.size := (Array.getElem?_eq_some_iff.mp hc1).1
  generalize hne : vp_cell (E.2.2 1) (y.1, .inr (.inl (va_cpy x.2 y.2 sp.toNatClampNeg dp.toNatClampNeg k.toNatClampNeg))) = ncell at X' step
  have hheap : ((T.setVm vm').setCell a ncell).heap = H.setIfInBounds a ncell := by rw [← hT]; rfl
  have oq : ∀ q : Nat, q ≠ a → (H.setIfInBounds a ncell)[q]? = H[q]? := fun q hq => by simp [Array.getElem?_setIfInBounds, Ne.symm hq]
  have hA : g_A G0 n0 a := hI.2.2 a (by rw [h2]; exact fun q => by cases q)
  have hS := hI.2.1
  obtain ⟨t, a1, b1⟩ := kk _ _ ⟨g_at.kept hI.1 (by simp) oq (show (H.setIfInBounds a ncell)[a]? = some (vp_cell (E.2.2 1) (y.1, .inr (.inl (va_cpy x.2 y.2 sp.toNatClampNeg dp.toNatClampNeg k.toNatClampNeg)))) by rw [hne]; simp [Array.getElem?_setIfInBounds, hl]), ⟨by simp; exact hS.1, fun q g1 g2 => by
      rw [oq q (fun e => g2 (by rw [e]; exact hA))]
      exact hS.2.1 q g1 g2, fun q hq => by
      rcases List.mem_append.mp hq with h | h
      · exact hS.2.2 q h
      · obtain ⟨z, -, hz⟩ := List.mem_map.mp h
        rw [← hz]
        exact hA⟩, fun q hq => by
      unfold g_up at hq
      by_cases e : q = a
      · rw [e]; exact hA
      · rw [if_neg e] at hq; exact hI.2.2 q hq⟩ _ hheap X'
  exact ⟨t, step t a1, b1⟩
theorem g_new (X : g_X E G0 n0 p s m args meth c cc nL own mn ret) (hI : g_I E (g_A G0 n0) G n s.heap H locs) {C : String} {T : u_T} {N ci index : Nat} (hc : vwCl[ci]? = some (C, T, N)) (hin : ∀ w ∈ u_ws C T N, w ∈ g_T) (ty : Nat → FieldType) (hty : ∀ k, k < N → parseFieldDescriptor (T k).2.2.1 = some (ty k)) (hcl : Cond.classLink own index C ∈ g_T) (hinst : Cond.instantiable C N ∈ g_T) (hini : Cond.initialized C ∈ g_T) {fs : List Value} (hfs : ∀ j, j < N → defaultValue (ty j) = vp_V fs j) (hcells : cells + 1 ≤ R.cells) (hslots : slots + N ≤ R.slots) (hdg : decode cc pc = .ok (.new index, 3))
    (kk : ∀ (H : Heap), g_I E (g_A G0 n0) (g_up G n (.inl (ci, fs))) (n + 1) s.heap H locs → W p l e R s m args below meth c H locs (cells + 1) (slots + N) Q (F0 m (pc + 3) ls (.ref n :: rest))) : W p l e R s m args below meth c H locs cells slots Q (F0 m pc ls rest) := by
  have hK := X.2.2.2.2.2.1.1
  have hts := X.2.2.2.2.1
  have hKn := hK.1 ci _ hc
  refine W.newcK X.1 X.2.1 X.2.2.2.1 (hts _ hcl) (hts _ hinst) (hts _ hini) rfl hdg hcells hslots hKn.2.1 hI.1.1 fun H1 kC hkC e1 z1 o1 => ?_
  refine kk H1 (hI.born X.A (z1.trans (by rw [hI.1.1])) (fun q hq => o1 q (by rw [← hI.1.1]; exact hq)) ?_)
  exact ⟨_, hc, (u_born ty hts hin hKn hkC e1 hty).to hfs⟩
theorem g_newI (X : g_X E G0 n0 p s m args meth c cc nL own mn ret) (hI : g_I E (g_A G0 n0) G n s.heap H locs) (harr : Cond.arrayClass .int ∈ g_T) {k : Int32} {N : Nat} (hn : ¬ k < 0) (hN : k.toNatClampNeg = N) (hbytes : N * 4 ≤ 536870912) (hcells : cells + 1 ≤ R.cells) (hslots : slots + N ≤ R.slots) (hdg : decode cc pc = .ok (.newarray .int, 2))
    (kk : ∀ (H : Heap), g_I E (g_A G0 n0) (g_up G n (.inr (.inl (N, fun _ => 0)))) (n + 1) s.heap H locs → W p l e R s m args below meth c H locs (cells + 1) (slots + N) Q (F0 m (pc + 2) ls (.ref n :: rest))) : W p l e R s m args below meth c H locs cells slots Q (F0 m pc ls (.int k :: rest)) := by
  have hK := X.2.2.2.2.2.1.1
  have hts := X.2.2.2.2.1
  refine va_newaK X.1 X.2.1 (atype := .int) (hts _ harr) rfl hdg rfl hn hN hbytes hcells hslots hI.1.1 fun H1 cA e1 z1 o1 hAr hNm => ?_
  have hcA : cA = E.2.2 0 := Option.some.inj (hNm.symm.trans (hK.2 0 _ rfl).2)
  subst hcA
  refine kk H1 (hI.born X.A (z1.trans (by rw [hI.1.1])) (fun q hq => o1 q (by rw [← hI.1.1]; exact hq)) ?_)
  exact e1
theorem g_newJ (X : g_X E G0 n0 p s m args meth c cc nL own mn ret) (hI : g_I E (g_A G0 n0) G n s.heap H locs) (harr : Cond.arrayClass .long ∈ g_T) {k : Int32} {N : Nat} (hn : ¬ k < 0) (hN : k.toNatClampNeg = N) (hbytes : N * 8 ≤ 536870912) (hcells : cells + 1 ≤ R.cells) (hslots : slots + N ≤ R.slots) (hdg : decode cc pc = .ok (.newarray .long, 2))
    (kk : ∀ (H : Heap), g_I E (g_A G0 n0) (g_up G n (.inr (.inr (.inl (N, fun _ => 0))))) (n + 1) s.heap H locs → W p l e R s m args below meth c H locs (cells + 1) (slots + N) Q (F0 m (pc + 2) ls (.ref n :: rest))) : W p l e R s m args below meth c H locs cells slots Q (F0 m pc ls (.int k :: rest)) := by
  have hK := X.2.2.2.2.2.1.1
  have hts := X.2.2.2.2.1
  refine va_newaK X.1 X.2.1 (atype := .long) (hts _ harr) rfl hdg rfl hn hN hbytes hcells hslots hI.1.1 fun H1 cA e1 z1 o1 hAr hNm => ?_
  have hcA : cA = E.2.2 1 := Option.some.inj (hNm.symm.trans (hK.2 1 _ rfl).2)
  subst hcA
  refine kk H1 (hI.born X.A (z1.trans (by rw [hI.1.1])) (fun q hq => o1 q (by rw [← hI.1.1]; exact hq)) ?_)
  exact e1
theorem g_newZ (X : g_X E G0 n0 p s m args meth c cc nL own mn ret) (hI : g_I E (g_A G0 n0) G n s.heap H locs) (harr : Cond.arrayClass .boolean ∈ g_T) {k : Int32} {N : Nat} (hn : ¬ k < 0) (hN : k.toNatClampNeg = N) (hbytes : N * 1 ≤ 536870912) (hcells : cells + 1 ≤ R.cells) (hslots : slots + N ≤ R.slots) (hdg : decode cc pc = .ok (.newarray .boolean, 2))
    (kk : ∀ (H : Heap), g_I E (g_A G0 n0) (g_up G n (.inr (.inr (.inr (.inl (N, fun _ => 0)))))) (n + 1) s.heap H locs → W p l e R s m args below meth c H locs (cells + 1) (slots + N) Q (F0 m (pc + 2) ls (.ref n :: rest))) : W p l e R s m args below meth c H locs cells slots Q (F0 m pc ls (.int k :: rest)) := by
  have hK := X.2.2.2.2.2.1.1
  have hts := X.2.2.2.2.1
  refine va_newaK X.1 X.2.1 (atype := .boolean) (hts _ harr) rfl hdg rfl hn hN hbytes hcells hslots hI.1.1 fun H1 cA e1 z1 o1 hAr hNm => ?_
  have hcA : cA = E.2.2 2 := Option.some.inj (hNm.symm.trans (hK.2 2 _ rfl).2)
  subst hcA
  refine kk H1 (hI.born X.A (z1.trans (by rw [hI.1.1])) (fun q hq => o1 q (by rw [← hI.1.1]; exact hq)) ?_)
  exact e1
theorem g_newT (X : g_X E G0 n0 p s m args meth c cc nL own mn ret) (hI : g_I E (g_A G0 n0) G n s.heap H locs) {index : Nat} (hclink : Cond.classLink own index RX4 ∈ g_T) {k : Int32} {N : Nat} (hn : ¬ k < 0) (hN : k.toNatClampNeg = N) (hbytes : N * 4 ≤ 536870912) (hcells : cells + 1 ≤ R.cells) (hslots : slots + N ≤ R.slots) (hdg : decode cc pc = .ok (.anewarray index, 3))
    (kk : ∀ (H : Heap), g_I E (g_A G0 n0) (g_up G n (.inr (.inr (.inr (.inr (N, fun _ => none)))))) (n + 1) s.heap H locs → W p l e R s m args below meth c H locs (cells + 1) (slots + N) Q (F0 m (pc + 3) ls (.ref n :: rest))) : W p l e R s m args below meth c H locs cells slots Q (F0 m pc ls (.int k :: rest)) := by
  have hK := X.2.2.2.2.2.1.1
  have hts := X.2.2.2.2.1
  subst hN
  refine W.anew X.1 X.2.1 X.2.2.2.1 (hts _ hclink) (va_AO.use X.2.2.2.2.2.1.2.1) rfl hdg rfl hn hbytes hcells hslots fun cA kA comp f1 f2 f3 f4 => ?_
  obtain ⟨kA', comp', -, -, -, w4⟩ := (hK.2 3 _ rfl).2
  have hcA : cA = E.2.2 3 := Option.some.inj (f1.symm.trans w4)
  subst hcA
  have hz := hI.1.1
  generalize hH1 : H.push ({ cls := E.2.2 3, slots := Array.replicate k.toNatClampNeg .null, vm := .none } : Cell) = H1
  have z1 : H1.size = H.size + 1 := by rw [← hH1, Array.size_push]
  have e1 : H1[H.size]? = some (arrV (E.2.2 3) k.toNatClampNeg (fun _ => .null)) := by rw [← hH1, Array.getElem?_push_size, ← arrV_new]
  have o1 : ∀ q : Nat, q < H.size → H1[q]? = H[q]? := fun q hq => by rw [← hH1, Array.getElem?_push, if_neg (Nat.ne_of_lt hq)]
  have key : W p l e R s m args below meth c H1 locs (cells + 1) (slots + k.toNatClampNeg) Q (F0 m (pc + 3) ls (.ref n :: rest)) := by
    refine kk H1 (hI.born X.A z1 o1 ?_)
    show H1[n]? = some (vp_cell (E.2.2 3) (k.toNatClampNeg, .inr (.inr (.inr (.inr (fun _ => none))))))
    rw [vp_cell_q, ← hz]
    exact e1
  rw [← hz] at key
  exact key
theorem g_go (X : g_X E G0 n0 p s m args meth c cc nL own mn ret) (hI : g_I E (g_A G0 n0) G n s.heap H locs) {mc ms : Nat} {rv : Option Value} {G' : gG} {n' : Nat} {av : Array Value} {st0 st1 : List Value} (hr : va_Run p l e R s m args below meth c H locs cells slots mc ms (F0 m pc ls st0) rest (g_Q E G n rv G' n' av) (g_A G n)) (hst : rv.toList ++ rest = st1)
    (kk : ∀ (H : Heap) (locs : List Loc), g_I E (g_A G0 n0) G' n' s.heap H locs → W p l e R s m args below meth c H locs (cells + mc) (slots + ms) Q (F0 m (pc + 3) ls st1)) : W p l e R s m args below meth c H locs cells slots Q (F0 m pc ls st0) := by
  intro T hT Xs
  obtain ⟨v, st₀, t, T', L, h0, X', hL, e1, e2, ⟨ho, hP', hF, hD'⟩, st⟩ := hr T hT Xs
  cases ho
  subst hst
  have hS := hI.2.1
  have hA : ∀ q, g_A G n q → g_A G0 n0 q := fun q h => h.elim (hI.2.2 q) (fun h => X.A q (Nat.le_trans hS.1 (by rw [hI.1.1]; exact h)))
  have hF1 : H.size ≤ T'.heap.size := by rw [e1, ← h0]; exact hF.1
  have hF2 : ∀ q : Nat, q < H.size → ¬ g_A G n q → T'.heap[q]? = H[q]? := by rw [e1, ← h0]; exact hF.2
  obtain ⟨t2, a1, b1⟩ := kk T'.heap (locs ++ L) ⟨by rw [e1]; exact hP', ⟨Nat.le_trans hS.1 hF1, fun q h1 h2 => by rw [hF2 q (Nat.lt_of_lt_of_le h1 hS.1) (fun z => h2 (hA q z))]; exact hS.2.1 q h1 h2, fun q hq => (List.mem_append.mp hq).elim (hS.2.2 q) (fun h => hA _ (hL q h))⟩, fun q hq => hA q (hD' q hq)⟩ T' rfl X'
  exact ⟨t2, st t2 a1, b1⟩
theorem g_preS (X : g_X E G0 n0 p s m args meth c cc nL own mn ret) (hI : g_I E (g_A G0 n0) G n s.heap H locs) (av : List Value) : PreS s H (va_Pc av (fun U => g_P E G n U.heap ∧ g_K E U)) av :=
  ⟨fun a U g mk q => ⟨q.1, q.2.1, q.2.2.calling⟩, fun U hU hW => ⟨rfl, by rw [hU]; exact hI.1, X.2.2.2.2.2.1.warm hW⟩⟩
theorem g_callS (X : g_X E G0 n0 p s m args meth c cc nL own mn ret) (hI : g_I E (g_A G0 n0) G n s.heap H locs) {y : MethodName} {bytes : ByteArray} {maxL index : Nat} {rety : Option FieldType} {rmy : Room} {av : List Value} {rv : Option Value} {G' : gG} {n' : Nat} {st0 st1 : List Value} (hM : g_Met l y bytes maxL rety rmy E G n av rv G' n') (hm : g_M y bytes maxL rety av.length) (hlink : Cond.methodLink own index y ∈ g_T) (hstat : Cond.static y ∈ g_T) (hR : rmy.frames + 1 ≤ R.frames ∧ 8 + (maxL + 11) + rmy.locals ≤ R.locals) (hl : ls.size = nL) (hst0 : st0 = av.reverse ++ rest) (hroom : (rest.map fun v => v.category).sum ≤ 8) (hdg : decode cc pc = .ok (.invokestatic index, 3)) (hf : cells + rmy.cells ≤ R.cells ∧ slots + rmy.slots ≤ R.slots) (hst : rv.toList ++ rest = st1) {cells' slots' : Nat} (hcs : cells + rmy.cells = cells') (hss : slots + rmy.slots = slots')
    (kk : ∀ (H : Heap) (locs : List Loc), g_I E (g_A G0 n0) G' n' s.heap H locs → W p l e R s m args below meth c H locs cells' slots' Q (F0 m (pc + 3) ls st1)) : W p l e R s m args below meth c H locs cells slots Q (F0 m pc ls st0) := by
  have hts := X.2.2.2.2.1
  refine g_go X hI (va_runS (Ts := g_T) (own := own) (cc := cc) (nL := nL) (As := av) (rest := rest) (n := av.length) ⟨X.1, X.2.1, X.2.2.1, X.2.2.2.1, hts⟩ hM ⟨callB_of av.length hts (g_good hm.1) rfl rfl rfl (hts _ hm.2.1) (hts _ hlink) hm.2.2.1 hR, hts _ hstat⟩ (g_preS X hI av) rfl rfl hl hst0 (lv_room hroom) hdg hf) hst (fun H1 l1 h1 => W.cs hcs hss (kk H1 l1 h1))
theorem g_callV (X : g_X E G0 n0 p s m args meth c cc nL own mn ret) (hI : g_I E (g_A G0 n0) G n s.heap H locs) {y : MethodName} {bytes : ByteArray} {maxL index ci : Nat} {q : vw_C} {rety : Option FieldType} {rmy : Room} {b : Nat} {av : List Value} {rv : Option Value} {G' : gG} {n' : Nat} {st0 st1 : List Value} (hO : g_isO G b ci = true) (hc : vwCl[ci]? = some q) (hM : g_Met l y bytes maxL rety rmy E G n (.ref b :: av) rv G' n') (hm : g_M y bytes maxL rety av.length) (hlink : Cond.methodLink own index y ∈ g_T) (hinst : Cond.instanceMethod y ∈ g_T) (hsel : Cond.selects q.1 y y ∈ g_T) (hR : rmy.frames + 1 ≤ R.frames ∧ 8 + (maxL + 11) + rmy.locals ≤ R.locals) (hl : ls.size = nL) (hst0 : st0 = av.reverse ++ .ref b :: rest) (hroom : (rest.map fun v => v.category).sum ≤ 8) (hdg : decode cc pc = .ok (.invokevirtual index, 3)) (hf : cells + rmy.cells ≤ R.cells ∧ slots + rmy.slots ≤ R.slots) (hst : rv.toList ++ rest = st1) {cells' slots' : Nat} (hcs : cells + rmy.cells = cells') (hss : slots + rmy.slots = slots')
    (kk : ∀ (H : Heap) (locs : List Loc), g_I E (g_A G0 n0) G' n' s.heap H locs → W p l e R s m args below meth c H locs cells' slots' Q (F0 m (pc + 3) ls st1)) : W p l e R s m args below meth c H locs cells slots Q (F0 m pc ls st0) := by
  have hts := X.2.2.2.2.1
  obtain ⟨fs, hfs⟩ := g_isO_s hO
  refine g_go X hI (va_runV (Ts := g_T) (own := own) (cc := cc) (nL := nL) (C := q.1) (b := b) (As := av) (rest := rest) (n := av.length) ⟨X.1, X.2.1, X.2.2.1, X.2.2.2.1, hts⟩ hM ⟨callB_of av.length hts (g_good hm.1) rfl rfl rfl (hts _ hm.2.1) (hts _ hlink) hm.2.2.1 hR, hts _ hinst, hts _ hsel⟩ ⟨(g_preS X hI (.ref b :: av)).1, va_recv (q0 := 0) (fs := fs) X.2.2.2.2.2.1.1 (g_one hI hfs) hc rfl, (g_preS X hI (.ref b :: av)).2⟩ rfl rfl hl hst0 (lv_room hroom) hdg hf) hst (fun H1 l1 h1 => W.cs hcs hss (kk H1 l1 h1))
theorem g_callI (X : g_X E G0 n0 p s m args meth c cc nL own mn ret) (hI : g_I E (g_A G0 n0) G n s.heap H locs) {y : MethodName} {bytes : ByteArray} {maxL index : Nat} {rmy : Room} {b : Nat} {av : List Value} {rv : Option Value} {G' : gG} {n' : Nat} {st0 st1 : List Value} (hM : g_Met l y bytes maxL none rmy E G n (.ref b :: av) rv G' n') (hm : g_M y bytes maxL none av.length) (hlink : Cond.methodLink own index y ∈ g_T) (hinst : Cond.instanceMethod y ∈ g_T) (hy : y.name = "<init>") (hR : rmy.frames + 1 ≤ R.frames ∧ 8 + (maxL + 11) + rmy.locals ≤ R.locals) (hl : ls.size = nL) (hst0 : st0 = av.reverse ++ .ref b :: rest) (hroom : (rest.map fun v => v.category).sum ≤ 8) (hdg : decode cc pc = .ok (.invokespecial index, 3)) (hf : cells + rmy.cells ≤ R.cells ∧ slots + rmy.slots ≤ R.slots) (hst : rv.toList ++ rest = st1) {cells' slots' : Nat} (hcs : cells + rmy.cells = cells') (hss : slots + rmy.slots = slots')
    (kk : ∀ (H : Heap) (locs : List Loc), g_I E (g_A G0 n0) G' n' s.heap H locs → W p l e R s m args below meth c H locs cells' slots' Q (F0 m (pc + 3) ls st1)) : W p l e R s m args below meth c H locs cells slots Q (F0 m pc ls st0) := by
  have hts := X.2.2.2.2.1
  refine g_go X hI (va_runI (Ts := g_T) (own := own) (cc := cc) (nL := nL) (b := b) (As := av) (rest := rest) (n := av.length) ⟨X.1, X.2.1, X.2.2.1, X.2.2.2.1, hts⟩ hM ⟨callB_of av.length hts (g_good hm.1) rfl rfl rfl (hts _ hm.2.1) (hts _ hlink) hm.2.2.1 hR, hy, hts _ hinst⟩ (g_preS X hI (.ref b :: av)) rfl rfl hl hst0 (lv_room hroom) hdg hf) hst (fun H1 l1 h1 => W.cs hcs hss (kk H1 l1 h1))
theorem g_callN (X : g_X E G0 n0 p s m args meth c cc nL own mn ret) (hI : g_I E (g_A G0 n0) G n s.heap H locs) {y : MethodName} {host : String} {bytes : ByteArray} {maxL index : Nat} {rmy : Room} {b : Nat} {av : List Value} {rv : Option Value} {G' : gG} {n' : Nat} {st0 st1 : List Value} (hM : g_Met l y bytes maxL none rmy E G n (.ref b :: av) rv G' n') (hm : g_M y bytes maxL none av.length) (hlink : va_Nw (.methodLinkNest own index y host) s) (hinst : Cond.instanceMethod y ∈ g_T) (hy : y.name = "<init>") (hR : rmy.frames + 1 ≤ R.frames ∧ 8 + (maxL + 11) + rmy.locals ≤ R.locals) (hl : ls.size = nL) (hst0 : st0 = av.reverse ++ .ref b :: rest) (hroom : (rest.map fun v => v.category).sum ≤ 8) (hdg : decode cc pc = .ok (.invokespecial index, 3)) (hf : cells + rmy.cells ≤ R.cells ∧ slots + rmy.slots ≤ R.slots) (hst : rv.toList ++ rest = st1) {cells' slots' : Nat} (hcs : cells + rmy.cells = cells') (hss : slots + rmy.slots = slots')
    (kk : ∀ (H : Heap) (locs : List Loc), g_I E (g_A G0 n0) G' n' s.heap H locs → W p l e R s m args below meth c H locs cells' slots' Q (F0 m (pc + 3) ls st1)) : W p l e R s m args below meth c H locs cells slots Q (F0 m pc ls st0) := by
  have hts := X.2.2.2.2.1
  refine g_go X hI (va_runIN (Ts := g_T) (own := own) (cc := cc) (nL := nL) (b := b) (As := av) (rest := rest) (n := av.length) ⟨X.1, X.2.1, X.2.2.1, X.2.2.2.1, hts⟩ hM ⟨va_cnB av.length hts (g_good hm.1) rfl rfl rfl hlink (hts _ hm.2.1) hm.2.2.1 hR, hy, hts _ hinst⟩ (g_preS X hI (.ref b :: av)) rfl rfl hl hst0 (lv_room hroom) hdg hf) hst (fun H1 l1 h1 => W.cs hcs hss (kk H1 l1 h1))
theorem g_obji (X : g_X E G0 n0 p s m args meth c cc nL own mn ret) {index : Nat} (hlink : Cond.methodLink own index Lib.objectInit ∈ g_T) (hinst : Cond.instanceMethod Lib.objectInit ∈ g_T) (hcode : Cond.code Lib.objectInit ⟨#[0xb1]⟩ 1 none ∈ g_T) (hl : ls.size = nL) (hdg : decode cc pc = .ok (.invokespecial index, 3)) (hframes : 1 ≤ R.frames) (hlocals : (rest.map fun v => v.category).sum + 12 ≤ R.locals)
    (kk : W p l e R s m args below meth c H locs cells slots Q (F0 m (pc + 3) ls rest)) : W p l e R s m args below meth c H locs cells slots Q (F0 m pc ls (.ref a :: rest)) := by
  have hts := X.2.2.2.2.1
  exact W.objInit X.1 X.2.1 X.2.2.2.1 (hts _ hlink) (hts _ hinst) (hts _ hcode) rfl (hl.trans X.2.2.1.symm) rfl hdg hframes (by show 2 * 0 + _ + 12 ≤ _; omega) kk
theorem g_iret (X : g_X E G0 n0 p s m args meth c cc nL own mn (some .int)) (hI : g_I E (g_A G0 n0) G n s.heap H locs) {v : Int32} (hdg : decode cc pc = .ok (.ireturn, 1)) : W p l e R s m args below meth c H locs cells slots (MQ below (g_Q E G0 n0 (some (.int v)) G n) args s cells slots (g_A G0 n0)) (F0 m pc ls [.int v]) :=
  W.iret X.1 X.2.1 X.2.2.2.2.2.2.1 (fun t ht hW => ⟨rfl, by rw [ht]; exact hI.1, hI.2.1.F ht, hI.2.2⟩) hI.2.1.2.2 hdg (hlocks := X.2.2.2.2.2.2.2.1)
theorem g_zret (X : g_X E G0 n0 p s m args meth c cc nL own mn (some .boolean)) (hI : g_I E (g_A G0 n0) G n s.heap H locs) {v : Int32} (hz : v = 0 ∨ v = 1) (hdg : decode cc pc = .ok (.ireturn, 1)) : W p l e R s m args below meth c H locs cells slots (MQ below (g_Q E G0 n0 (some (.int v)) G n) args s cells slots (g_A G0 n0)) (F0 m pc ls [.int v]) :=
  W.zret X.1 X.2.1 X.2.2.2.2.2.2.1 (by rcases hz with rfl | rfl <;> rfl) (fun t ht hW => ⟨rfl, by rw [ht]; exact hI.1, hI.2.1.F ht, hI.2.2⟩) hI.2.1.2.2 hdg (hlocks := X.2.2.2.2.2.2.2.1)
theorem g_lret (X : g_X E G0 n0 p s m args meth c cc nL own mn (some .long)) (hI : g_I E (g_A G0 n0) G n s.heap H locs) {v : Int64} (hdg : decode cc pc = .ok (.lreturn, 1)) : W p l e R s m args below meth c H locs cells slots (MQ below (g_Q E G0 n0 (some (.long v)) G n) args s cells slots (g_A G0 n0)) (F0 m pc ls [.long v]) :=
  W.lret X.1 X.2.1 X.2.2.2.2.2.2.1 (fun t ht hW => ⟨rfl, by rw [ht]; exact hI.1, hI.2.1.F ht, hI.2.2⟩) hI.2.1.2.2 hdg (hlocks := X.2.2.2.2.2.2.2.1)
theorem g_vret (X : g_X E G0 n0 p s m args meth c cc nL own mn none) (hI : g_I E (g_A G0 n0) G n s.heap H locs) (hdg : decode cc pc = .ok (.return_, 1)) : W p l e R s m args below meth c H locs cells slots (MQ below (g_Q E G0 n0 none G n) args s cells slots (g_A G0 n0)) (F0 m pc ls []) :=
  W.vret X.1 X.2.1 X.2.2.2.2.2.2.1 (fun t ht hW => ⟨rfl, by rw [ht]; exact hI.1, hI.2.1.F ht, hI.2.2⟩) hI.2.1.2.2 hdg (hlocks := X.2.2.2.2.2.2.2.1)
theorem g_aret {C : String} (X : g_X E G0 n0 p s m args meth c cc nL own mn (some (.object C))) (hI : g_I E (g_A G0 n0) G n s.heap H locs) {v : Option Nat} (hdg : decode cc pc = .ok (.areturn, 1)) : W p l e R s m args below meth c H locs cells slots (MQ below (g_Q E G0 n0 (some (va_rf v)) G n) args s cells slots (g_A G0 n0)) (F0 m pc ls [va_rf v]) :=
  W.aret X.1 X.2.1 X.2.2.2.2.2.2.1 (Or.inl ⟨_, rfl⟩) (by cases v with | none => exact Or.inl rfl | some a => exact Or.inr ⟨a, rfl⟩) (fun t ht hW => ⟨rfl, by rw [ht]; exact hI.1, hI.2.1.F ht, hI.2.2⟩) hI.2.1.2.2 hdg (hlocks := X.2.2.2.2.2.2.2.1)
theorem g_topi {x y : Int32} (h : x = y) (k : W p l e R s m args below meth c H locs cells slots Q (F0 m pc ls (.int y :: rest))) : W p l e R s m args below meth c H locs cells slots Q (F0 m pc ls (.int x :: rest)) := by rw [h]; exact k
theorem g_topl {x y : Int64} (h : x = y) (k : W p l e R s m args below meth c H locs cells slots Q (F0 m pc ls (.long y :: rest))) : W p l e R s m args below meth c H locs cells slots Q (F0 m pc ls (.long x :: rest)) := by rw [h]; exact k
theorem g_alo_n {k : Fin 4} {i : Nat} {x : Option Nat} (hexec : p.tables.exec = Jvm.exec) (hb : c.code = cc) (hdg : decode cc pc = .ok (.aload_n k, 1)) (hi : (k : Nat) = i) (hl : ls[i]? = some (.val (va_rf x)))
    (kk : W p l e R s m args below meth c H locs cells slots Q (F0 m (pc + 1) ls (va_rf x :: rest))) : W p l e R s m args below meth c H locs cells slots Q (F0 m pc ls rest) := by
  cases x with
  | none => exact lv_aload_nN hexec hb hdg hi hl kk
  | some a => exact lv_aload_n hexec hb hdg hi hl kk
theorem g_alo {i : Nat} {x : Option Nat} (hexec : p.tables.exec = Jvm.exec) (hb : c.code = cc) (hdg : decode cc pc = .ok (.aload i, 2)) (hl : ls[i]? = some (.val (va_rf x)))
    (kk : W p l e R s m args below meth c H locs cells slots Q (F0 m (pc + 2) ls (va_rf x :: rest))) : W p l e R s m args below meth c H locs cells slots Q (F0 m pc ls rest) := by
  cases x with
  | none => exact lv_aloadN hexec hb hdg hl kk
  | some a => exact lv_aload hexec hb hdg hl kk
theorem g_aso_n {k : Fin 4} {i nL : Nat} {x : Option Nat} {lv lv' : List (Nat × Value)} (hexec : p.tables.exec = Jvm.exec) (hb : c.code = cc) (hdg : decode cc pc = .ok (.astore_n k, 1)) (hi : (k : Nat) = i) (h : lv_has ls nL lv) (hn : i < nL) (hl : (i, va_rf x) :: lv.filter (fun q => !(q.1 == i) && !(q.1 + 1 == i && q.2.category == 2)) = lv')
    (kk : ∀ ls' : Array Slot, lv_has ls' nL lv' → W p l e R s m args below meth c H locs cells slots Q (F0 m (pc + 1) ls' rest)) : W p l e R s m args below meth c H locs cells slots Q (F0 m pc ls (va_rf x :: rest)) := by
  cases x with
  | none => exact lv_astore_nN hexec hb hdg hi h hn hl kk
  | some a => exact lv_astore_n hexec hb hdg hi h hn hl kk
theorem g_aso {i nL : Nat} {x : Option Nat} {lv lv' : List (Nat × Value)} (hexec : p.tables.exec = Jvm.exec) (hb : c.code = cc) (hdg : decode cc pc = .ok (.astore i, 2)) (h : lv_has ls nL lv) (hn : i < nL) (hl : (i, va_rf x) :: lv.filter (fun q => !(q.1 == i) && !(q.1 + 1 == i && q.2.category == 2)) = lv')
    (kk : ∀ ls' : Array Slot, lv_has ls' nL lv' → W p l e R s m args below meth c H locs cells slots Q (F0 m (pc + 2) ls' rest)) : W p l e R s m args below meth c H locs cells slots Q (F0 m pc ls (va_rf x :: rest)) := by
  cases x with
  | none => exact lv_astoreN hexec hb hdg h hn hl kk
  | some a => exact lv_astore hexec hb hdg h hn hl kk
end GR
theorem g_ofW {l : Launch} {E : gE} {G : gG} {n : Nat} {y : MethodName} {cc : ByteArray} {maxL : Nat} {ret : Option FieldType} {k : Nat} (hm : g_M y cc maxL ret k) {rm : Room} {av : List Value} {rv : Option Value} {G' : gG} {n' : Nat} (hlen : (lg_sl av).length ≤ maxL)
    (body : ∀ (p : Program) (e : Env) (s : State) (m : MethodId) (below : List Frame) (meth : Method) (c : Code) (ls : Array Slot), g_X E G n p s m av.toArray meth c cc maxL y.cls y.name ret → lv_has ls maxL (lv_args 0 av) → g_I E (g_A G n) G n s.heap s.heap [] → W p l e rm s m av.toArray below meth c s.heap [] 0 0 (MQ below (g_Q E G n rv G' n') av.toArray s rm.cells rm.slots (g_A G n)) (F0 m 0 ls [])) : g_Met l y cc maxL ret rm E G n av rv G' n' := by
  have key : ∀ p e s m args below meth c s₁, BodyLoose p l y (headSpec (Cond.code y cc maxL ret :: g_T) rm) cc maxL ret e s m args below meth c s₁ → c.maxLocals = maxL → va_Pc av (fun U => g_P E G n U.heap ∧ g_K E U) args s →
      W p l e (headSpec (Cond.code y cc maxL ret :: g_T) rm).room s m args below meth c s.heap [] 0 0 (MQ below (g_Q E G n rv G' n') args s rm.cells rm.slots (g_A G n)) (entryFrame m args maxL) := by
    intro p e s m args below meth c s₁ B hml hv
    obtain ⟨rfl, hP, hK⟩ := hv
    rw [lg_entry_eq]
    exact body p e s m below meth c _ ⟨B.exec, B.bytes, hml, findClass_of_methodNamed B.named, fun w hw => atoms_spec (ws := Cond.code y cc maxL ret :: g_T) B.pre w (List.mem_cons_of_mem _ hw), hK, B.returns, B.notSynchronized, hP.1, (name_of_methodNamed B.named B.method).1, fun q hq => hP.dom hq⟩ (lv_entry av hlen) ⟨hP, va_S.rf, fun q hq => Or.inl hq⟩
  rcases hm.2.2.2 with h | h
  · exact Met.ofW (cc := cc) (maxL := maxL) (ret := ret) h rfl key
  · exact va_MetF (cc := cc) (maxL := maxL) (ret := ret) h rfl key
def gne (y : Int32) {β : Type} (k : Option β) : Option β := if y = 0 then none else k
theorem gne_s {y : Int32} {β : Type} {k : Option β} {r : β} (h : gne y k = some r) : ¬ y = 0 ∧ k = some r := by
  unfold gne at h
  by_cases c : y = 0
  · rw [if_pos c] at h; cases h
  · rw [if_neg c] at h; exact ⟨c, h⟩
def gneL (y : Int64) {β : Type} (k : Option β) : Option β := if y = 0 then none else k
theorem gneL_s {y : Int64} {β : Type} {k : Option β} {r : β} (h : gneL y k = some r) : ¬ y = 0 ∧ k = some r := by
  unfold gneL at h
  by_cases c : y = 0
  · rw [if_pos c] at h; cases h
  · rw [if_neg c] at h; exact ⟨c, h⟩
def gck (b : Bool) {β : Type} (k : Option β) : Option β := if b = true then k else none
theorem gck_s {b : Bool} {β : Type} {k : Option β} {r : β} (h : gck b k = some r) : b = true ∧ k = some r := by
  unfold gck at h
  by_cases c : b = true
  · rw [if_pos c] at h; exact ⟨c, h⟩
  · rw [if_neg c] at h; cases h
theorem g_t {c : Prop} {α : Type} (hd : Decidable c) (hc : c) {x y r : α} (h : @ite α c hd x y = r) : x = r := (if_pos hc).symm.trans h
theorem g_f {c : Prop} {α : Type} (hd : Decidable c) (hc : ¬ c) {x y r : α} (h : @ite α c hd x y = r) : y = r := (if_neg hc).symm.trans h
theorem gnl_n {β : Type} {x : β} {k : Nat → β} {r : β} (h : gnl none x k = r) : x = r := h
theorem gnl_a {β : Type} {a : Nat} {x : β} {k : Nat → β} {r : β} (h : gnl (some a) x k = r) : k a = r := h
theorem g_sZ_s {G G' : gG} {a ci k : Nat} {v : Int32} (h : g_sZ G a ci k v = some G') : (v = 0 ∨ v = 1) ∧ g_st G a ci k (.int v) = some G' := by
  unfold g_sZ at h
  by_cases c : v = 0 ∨ v = 1
  · rw [if_pos c] at h; exact ⟨c, h⟩
  · rw [if_neg c] at h; cases h
theorem g_nz {v : Int32} (h : v = 0 ∨ v = 1) : narrow .boolean (.int v) = .int v := by rcases h with rfl | rfl <;> rfl
theorem g_fz {v : Int32} (h : v = 0 ∨ v = 1) : fits .boolean (.int v) = true := by rcases h with rfl | rfl <;> rfl
def g_lshl (x : Int64) (y : Int32) : Int64 := x <<< (y.toInt64 &&& 63)
def g_lshr (x : Int64) (y : Int32) : Int64 := x >>> (y.toInt64 &&& 63)
def g_lushr (x : Int64) (y : Int32) : Int64 := (x.toUInt64 >>> (y.toInt64.toUInt64 &&& Int64.toUInt64 63)).toInt64
def g_lrem (x y : Int64) : Int64 := x - x / y * y
def g_irem (x y : Int32) : Int32 := x - x / y * y
theorem g_sp2 {α β : Type} {a c : α} {b d : β} (h : some (a, b) = some (c, d)) : a = c ∧ b = d := ⟨congrArg Prod.fst (Option.some.inj h), congrArg Prod.snd (Option.some.inj h)⟩
theorem g_sp3 {α β γ : Type} {a d : α} {b e : β} {c f : γ} (h : some (a, b, c) = some (d, e, f)) : a = d ∧ b = e ∧ c = f := ⟨congrArg Prod.fst (Option.some.inj h), congrArg (fun q => q.2.1) (Option.some.inj h), congrArg (fun q => q.2.2) (Option.some.inj h)⟩
