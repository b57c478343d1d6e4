/-- the tables give the numbers of the classes and of the classes of arrays -/
theorem g_arr {s : State} {args : Array Value} {ty : FieldType} (h : (Cond.arrayClass ty).before args s = true) : ∃ cA : ClassId, ArrOfT s cA ty ∧ s.vm.findClass ("[" ++ ty.toString) = some cA := by
  obtain ⟨cB, kB, comp, hcB, hkB, hkind⟩ := Cond.arrayClass_spec h
  exact ⟨cB, fun n z => ⟨fun k h => (by cases h), kB, hkB, comp, hkind⟩, hcB⟩
theorem g_arrO {s : State} {args : Array Value} {C : String} (h : (Cond.arrayOver (.object C)).before args s = true) : ∃ cA : ClassId, ArrOfT s cA (.object C) ∧ va_RA s cA (.object C) := by
  obtain ⟨comp, c, k, h1, h2, h3, h4, h5⟩ := Cond.arrayOver_spec h
  exact ⟨c, fun N z => ⟨(fun k h => by cases h), k, h3, comp, h4⟩, k, comp, h3, h4, h1, h5⟩
theorem g_env {s : State} {args : Array Value} (hts : ∀ w ∈ lw_tbl, w.before args s = true) : ∃ E : gE, g_K E s := by
  have htg : ∀ w ∈ g_T, w.before args s = true := fun w h => hts w (List.mem_filter.mp h).1
  obtain ⟨c0, i0, k0⟩ := u_known (C := RX0) (T := TX0) (N := 3) (n := 3) htg gu_X0 (htg _ tw_1_21)
  obtain ⟨c1, i1, k1⟩ := u_known (C := RX2) (T := TX2) (N := 4) (n := 4) htg gu_X2 (htg _ tw_1_27)
  obtain ⟨c2, i2, k2⟩ := u_known (C := RX3) (T := TX3) (N := 2) (n := 2) htg gu_X3 (htg _ tw_1_58)
  obtain ⟨c3, i3, k3⟩ := u_known (C := RX4) (T := TX4) (N := 4) (n := 4) htg gu_X4 (htg _ tw_1_132)
  obtain ⟨c4, i4, k4⟩ := u_known (C := RX5) (T := TX5) (N := 9) (n := 9) htg gu_X5 (htg _ tw_1_11)
  obtain ⟨c5, i5, k5⟩ := u_known (C := RX6) (T := TX6) (N := 17) (n := 17) htg gu_X6 (htg _ tw_3_37)
  obtain ⟨aI, hI⟩ := g_arr (htg _ tw_1_71)
  obtain ⟨aJ, hJ⟩ := g_arr (htg _ tw_1_100)
  obtain ⟨aZ, hZ⟩ := g_arr (htg _ tw_3_94)
  have hO := hts (Cond.arrayOver (.object RX4)) (List.mem_append_right _ (List.mem_append_left _ (List.mem_of_getElem? (i := 19) rfl)))
  obtain ⟨aT, hT⟩ := g_arrO hO
  refine ⟨(fun k => match k with | 0 => c0 | 1 => c1 | 2 => c2 | 3 => c3 | 4 => c4 | _ => c5, fun k => match k with | 0 => i0 | 1 => i1 | 2 => i2 | 3 => i3 | 4 => i4 | _ => i5, fun k => match k with | 0 => aI | 1 => aJ | 2 => aZ | _ => aT), ⟨fun k q hq => ?_, fun k q hq => ?_⟩, hO, hts (.methodLinkNest RX0 9 yX2_init RX5) (List.mem_append_right _ (List.mem_append_left _ (List.mem_of_getElem? (i := 28) rfl))), hts (.methodLinkNest RX4 9 yX3_init RX5) (List.mem_append_right _ (List.mem_append_left _ (List.mem_of_getElem? (i := 138) rfl))), hts (.methodLinkNest RX5 17 yX0_init RX5) (List.mem_append_right _ (List.mem_append_left _ (List.mem_of_getElem? (i := 22) rfl))), hts (.methodLinkNest RX5 24 yX3_init RX5) (List.mem_append_right _ (List.mem_append_left _ (List.mem_of_getElem? (i := 59) rfl)))⟩
  · match k, hq with
    | 0, hq => cases hq; exact k0
    | 1, hq => cases hq; exact k1
    | 2, hq => cases hq; exact k2
    | 3, hq => cases hq; exact k3
    | 4, hq => cases hq; exact k4
    | 5, hq => cases hq; exact k5
    | k + 6, hq => simp [vwCl] at hq
  · match k, hq with
    | 0, hq => cases hq; exact hI
    | 1, hq => cases hq; exact hJ
    | 2, hq => cases hq; exact hZ
    | 3, hq => cases hq; exact hT
    | k + 4, hq => simp [g_tys] at hq
/-- THE CLAIM AS A STATEMENT ON NUMBERS: the law's function answers 1 -/
def Pure : Prop := ∀ (xs : Nat → Int32) (L n : Nat), L ≤ 3072 → f_L_law xs L n = some 1
theorem whole_open (HP : Pure)  {p : Program} {e : Env} {s : State} {m : MethodId} {below : List Frame} {meth : Method} {c : Code} (l : Launch) {b L : Nat} {xs : Nat → Int32} (hL : L ≤ 3072) (C0 : lw_At p s m meth c b L xs) : W p l e room_1 s m #[Value.ref b] below meth c s.heap [] 0 0 (lw_Z below #[Value.ref b] s) (entryFrame m ([Value.ref b] : List Value).toArray 4) := by
  obtain ⟨hx, hb, hr, hml, hown, hts, hX, hbl, hlocks, hgv⟩ := id C0
  obtain ⟨E, hE⟩ := g_env hts
  have X : g_X E (fun _ => none) s.heap.size p s m #[Value.ref b] meth c cL_law 4 RL meth.name ret := ⟨hx, hb, hml, hown, fun w h => hts w (List.mem_filter.mp h).1, hE, hr, hlocks, rfl, rfl, fun q h => absurd rfl h⟩
  have hl := lv_entry ([.ref b]) (n := 4) (Nat.le_of_ble_eq_true rfl)
  rw [lg_entry_eq]
  exact b_L_law_0 X hX hbl hr hlocks rfl (HP xs L s.heap.size hL) hl
