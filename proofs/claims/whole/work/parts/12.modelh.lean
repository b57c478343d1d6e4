abbrev rm_X6_init : Room := { frames := 1, cells := 8, slots := 4195, locals := 40 }
def f_X6_init (G : gG) (n : Nat) (th : Nat) : Option (gG × Nat) :=
  gl (g_up G n (.inr (.inl (16, fun _ => 0)))) fun G1 =>
  gb (g_sA G1 th 5 1 n) fun G2 =>
  gl (g_up G2 (n + 1) (.inr (.inl (16, fun _ => 0)))) fun G3 =>
  gb (g_sA G3 th 5 2 (n + 1)) fun G4 =>
  gl (g_up G4 ((n + 1) + 1) (.inr (.inl (48, fun _ => 0)))) fun G5 =>
  gb (g_sA G5 th 5 3 ((n + 1) + 1)) fun G6 =>
  gl (g_up G6 (((n + 1) + 1) + 1) (.inr (.inl (16, fun _ => 0)))) fun G7 =>
  gb (g_sA G7 th 5 4 (((n + 1) + 1) + 1)) fun G8 =>
  gl (g_up G8 ((((n + 1) + 1) + 1) + 1) (.inr (.inr (.inr (.inl (16, fun _ => 0)))))) fun G9 =>
  gb (g_sA G9 th 5 5 ((((n + 1) + 1) + 1) + 1)) fun G10 =>
  gl (g_up G10 (((((n + 1) + 1) + 1) + 1) + 1) (.inr (.inr (.inl (3840, fun _ => 0))))) fun G11 =>
  gb (g_sA G11 th 5 6 (((((n + 1) + 1) + 1) + 1) + 1)) fun G12 =>
  gl (g_up G12 ((((((n + 1) + 1) + 1) + 1) + 1) + 1) (.inr (.inr (.inl (240, fun _ => 0))))) fun G13 =>
  gb (g_sA G13 th 5 7 ((((((n + 1) + 1) + 1) + 1) + 1) + 1)) fun G14 =>
  gb (g_sI G14 th 5 11 (-3)) fun G15 =>
  gl (g_up G15 (((((((n + 1) + 1) + 1) + 1) + 1) + 1) + 1) (.inr (.inl (3, fun _ => 0)))) fun G16 =>
  gb (g_sA G16 th 5 12 (((((((n + 1) + 1) + 1) + 1) + 1) + 1) + 1)) fun G17 =>
  some (G17, ((((((((n + 1) + 1) + 1) + 1) + 1) + 1) + 1) + 1))
theorem gm_X6_init : g_M yX6_init cX6_init 1 none 0 := ⟨tw_3_40, tw_1_5, by decide +kernel, Or.inl (by decide +kernel)⟩
set_option maxHeartbeats 4000000 in
set_option maxRecDepth 100000 in
theorem c_X6_init {l : Launch} {E : gE} {G : gG} {n : Nat} {th : Nat} {Gr : gG} {nr : Nat} (h : f_X6_init G n th = some (Gr, nr)) : g_Met l yX6_init cX6_init 1 none rm_X6_init E G n [.ref th] none Gr nr := by
  refine g_ofW gm_X6_init (Nat.le_of_ble_eq_true rfl) ?_
  intro p e s m below meth c ls X hl hI
  have hx := X.1
  have hb := X.2.1
  have X : g_X E G n p s m _ meth c cX6_init 1 RX6 "<init>" none := X
  have hl : lv_has ls 1 [(0, .ref th)] := hl
  unfold f_X6_init at h
  refine lv_aload_n hx hb dX6_init_0 rfl (lv_at hl 0 rfl) ?_
  refine g_obji X tw_3_41 tw_1_16 tw_1_17 hl.1 dX6_init_1 (by decide) (by decide) ?_
  refine lv_aload_n hx hb dX6_init_4 rfl (lv_at hl 0 rfl) ?_
  refine lv_bipush (v := 16) hx hb dX6_init_5 (by decide) ?_
  obtain ⟨G1, eG1, h⟩ := gl_s h
  refine g_newI X hI tw_1_71 (N := 16) (by decide) (by decide) (by decide) (by decide) (by decide) dX6_init_7 (fun H hI => ?_)
  rw [eG1] at hI
  refine W.cs (cells' := 1) (slots' := 16) rfl rfl ?_
  obtain ⟨G2, eG2, h⟩ := gb_s h
  refine g_putF X hI (k := 1) (v := .ref n) (G' := G2) eG2 (C := RX6) (T := TX6) (N := 17) rfl gu_X6 tyX6 tyX6_ok nmX6 (by decide) tw_3_43 rfl rfl rfl rfl rfl dX6_init_9 (fun H locs hI => ?_)
  refine lv_aload_n hx hb dX6_init_12 rfl (lv_at hl 0 rfl) ?_
  refine lv_bipush (v := 16) hx hb dX6_init_13 (by decide) ?_
  obtain ⟨G3, eG3, h⟩ := gl_s h
  refine g_newI X hI tw_1_71 (N := 16) (by decide) (by decide) (by decide) (by decide) (by decide) dX6_init_15 (fun H hI => ?_)
  rw [eG3] at hI
  refine W.cs (cells' := 2) (slots' := 32) rfl rfl ?_
  obtain ⟨G4, eG4, h⟩ := gb_s h
  refine g_putF X hI (k := 2) (v := .ref (n + 1)) (G' := G4) eG4 (C := RX6) (T := TX6) (N := 17) rfl gu_X6 tyX6 tyX6_ok nmX6 (by decide) tw_3_44 rfl rfl rfl rfl rfl dX6_init_17 (fun H locs hI => ?_)
  refine lv_aload_n hx hb dX6_init_20 rfl (lv_at hl 0 rfl) ?_
  refine lv_bipush (v := 48) hx hb dX6_init_21 (by decide) ?_
  obtain ⟨G5, eG5, h⟩ := gl_s h
  refine g_newI X hI tw_1_71 (N := 48) (by decide) (by decide) (by decide) (by decide) (by decide) dX6_init_23 (fun H hI => ?_)
  rw [eG5] at hI
  refine W.cs (cells' := 3) (slots' := 80) rfl rfl ?_
  obtain ⟨G6, eG6, h⟩ := gb_s h
  refine g_putF X hI (k := 3) (v := .ref ((n + 1) + 1)) (G' := G6) eG6 (C := RX6) (T := TX6) (N := 17) rfl gu_X6 tyX6 tyX6_ok nmX6 (by decide) tw_3_45 rfl rfl rfl rfl rfl dX6_init_25 (fun H locs hI => ?_)
  refine lv_aload_n hx hb dX6_init_28 rfl (lv_at hl 0 rfl) ?_
  refine lv_bipush (v := 16) hx hb dX6_init_29 (by decide) ?_
  obtain ⟨G7, eG7, h⟩ := gl_s h
  refine g_newI X hI tw_1_71 (N := 16) (by decide) (by decide) (by decide) (by decide) (by decide) dX6_init_31 (fun H hI => ?_)
  rw [eG7] at hI
  refine W.cs (cells' := 4) (slots' := 96) rfl rfl ?_
  obtain ⟨G8, eG8, h⟩ := gb_s h
  refine g_putF X hI (k := 4) (v := .ref (((n + 1) + 1) + 1)) (G' := G8) eG8 (C := RX6) (T := TX6) (N := 17) rfl gu_X6 tyX6 tyX6_ok nmX6 (by decide) tw_3_46 rfl rfl rfl rfl rfl dX6_init_33 (fun H locs hI => ?_)
  refine lv_aload_n hx hb dX6_init_36 rfl (lv_at hl 0 rfl) ?_
  refine lv_bipush (v := 16) hx hb dX6_init_37 (by decide) ?_
  obtain ⟨G9, eG9, h⟩ := gl_s h
  refine g_newZ X hI tw_3_94 (N := 16) (by decide) (by decide) (by decide) (by decide) (by decide) dX6_init_39 (fun H hI => ?_)
  rw [eG9] at hI
  refine W.cs (cells' := 5) (slots' := 112) rfl rfl ?_
  obtain ⟨G10, eG10, h⟩ := gb_s h
  refine g_putF X hI (k := 5) (v := .ref ((((n + 1) + 1) + 1) + 1)) (G' := G10) eG10 (C := RX6) (T := TX6) (N := 17) rfl gu_X6 tyX6 tyX6_ok nmX6 (by decide) tw_3_47 rfl rfl rfl rfl rfl dX6_init_41 (fun H locs hI => ?_)
  refine lv_aload_n hx hb dX6_init_44 rfl (lv_at hl 0 rfl) ?_
  refine lv_sipush (v := 3840) hx hb dX6_init_45 (by decide) ?_
  obtain ⟨G11, eG11, h⟩ := gl_s h
  refine g_newJ X hI tw_1_100 (N := 3840) (by decide) (by decide) (by decide) (by decide) (by decide) dX6_init_48 (fun H hI => ?_)
  rw [eG11] at hI
  refine W.cs (cells' := 6) (slots' := 3952) rfl rfl ?_
  obtain ⟨G12, eG12, h⟩ := gb_s h
  refine g_putF X hI (k := 6) (v := .ref (((((n + 1) + 1) + 1) + 1) + 1)) (G' := G12) eG12 (C := RX6) (T := TX6) (N := 17) rfl gu_X6 tyX6 tyX6_ok nmX6 (by decide) tw_3_48 rfl rfl rfl rfl rfl dX6_init_50 (fun H locs hI => ?_)
  refine lv_aload_n hx hb dX6_init_53 rfl (lv_at hl 0 rfl) ?_
  refine lv_sipush (v := 240) hx hb dX6_init_54 (by decide) ?_
  obtain ⟨G13, eG13, h⟩ := gl_s h
  refine g_newJ X hI tw_1_100 (N := 240) (by decide) (by decide) (by decide) (by decide) (by decide) dX6_init_57 (fun H hI => ?_)
  rw [eG13] at hI
  refine W.cs (cells' := 7) (slots' := 4192) rfl rfl ?_
  obtain ⟨G14, eG14, h⟩ := gb_s h
  refine g_putF X hI (k := 7) (v := .ref ((((((n + 1) + 1) + 1) + 1) + 1) + 1)) (G' := G14) eG14 (C := RX6) (T := TX6) (N := 17) rfl gu_X6 tyX6 tyX6_ok nmX6 (by decide) tw_3_49 rfl rfl rfl rfl rfl dX6_init_59 (fun H locs hI => ?_)
  refine lv_aload_n hx hb dX6_init_62 rfl (lv_at hl 0 rfl) ?_
  refine lv_bipush (v := (-3)) hx hb dX6_init_63 (by decide) ?_
  obtain ⟨G15, eG15, h⟩ := gb_s h
  refine g_put X hI (k := 11) (v := .int (-3)) (G' := G15) eG15 (C := RX6) (T := TX6) (N := 17) rfl gu_X6 tyX6 tyX6_ok nmX6 (by decide) tw_3_53 rfl rfl rfl dX6_init_65 (fun H locs hI => ?_)
  refine lv_aload_n hx hb dX6_init_68 rfl (lv_at hl 0 rfl) ?_
  refine lv_iconst (v := 3) hx hb dX6_init_69 (by decide) ?_
  obtain ⟨G16, eG16, h⟩ := gl_s h
  refine g_newI X hI tw_1_71 (N := 3) (by decide) (by decide) (by decide) (by decide) (by decide) dX6_init_70 (fun H hI => ?_)
  rw [eG16] at hI
  refine W.cs (cells' := 8) (slots' := 4195) rfl rfl ?_
  obtain ⟨G17, eG17, h⟩ := gb_s h
  refine g_putF X hI (k := 12) (v := .ref (((((((n + 1) + 1) + 1) + 1) + 1) + 1) + 1)) (G' := G17) eG17 (C := RX6) (T := TX6) (N := 17) rfl gu_X6 tyX6 tyX6_ok nmX6 (by decide) tw_3_54 rfl rfl rfl rfl rfl dX6_init_72 (fun H locs hI => ?_)
  obtain ⟨h, h2⟩ := g_sp2 h
  subst h
  subst h2
  exact g_vret X hI dX6_init_75
abbrev rm_X6_fails : Room := { frames := 0, cells := 0, slots := 0, locals := 0 }
def f_X6_fails (G : gG) (th : Nat) (a1 : Int32) (a2 : Int32) : Option (Int32 × gG) :=
  gb (g_fI G th 5 10) fun v1 =>
  gb (g_sI G th 5 10 (v1 + 1)) fun G2 =>
  gb (g_sI G2 th 5 11 a2) fun G3 =>
  some (((-10 : Int32) - a1), G3)
theorem gm_X6_fails : g_M yX6_fails cX6_fails 3 (some .int) 2 := ⟨tw_3_114, tw_1_5, by decide +kernel, Or.inl (by decide +kernel)⟩
set_option maxHeartbeats 4000000 in
set_option maxRecDepth 100000 in
theorem c_X6_fails {l : Launch} {E : gE} {G : gG} {n : Nat} {th : Nat} {a1 : Int32} {a2 : Int32} {r : Int32} {Gr : gG} (h : f_X6_fails G th a1 a2 = some (r, Gr)) : g_Met l yX6_fails cX6_fails 3 (some .int) rm_X6_fails E G n [.ref th, .int a1, .int a2] (some (.int r)) Gr n := by
  refine g_ofW gm_X6_fails (Nat.le_of_ble_eq_true rfl) ?_
  intro p e s m below meth c ls X hl hI
  have hx := X.1
  have hb := X.2.1
  have X : g_X E G n p s m _ meth c cX6_fails 3 RX6 "fails" (some .int) := X
  have hl : lv_has ls 3 [(0, .ref th), (1, .int a1), (2, .int a2)] := hl
  unfold f_X6_fails at h
  refine lv_aload_n hx hb dX6_fails_0 rfl (lv_at hl 0 rfl) ?_
  refine lv_dup hx hb dX6_fails_1 rfl ?_
  obtain ⟨v1, ev1, h⟩ := gb_s h
  refine g_get X hI (g_fI_s ev1) (C := RX6) (T := TX6) (N := 17) rfl gu_X6 (by decide) tw_3_52 dX6_fails_2 ?_
  refine lv_iconst (v := 1) hx hb dX6_fails_5 (by decide) ?_
  refine lv_iadd (x := v1) (y := 1) hx hb dX6_fails_6 ?_
  obtain ⟨G2, eG2, h⟩ := gb_s h
  refine g_put X hI (k := 10) (v := .int (v1 + 1)) (G' := G2) eG2 (C := RX6) (T := TX6) (N := 17) rfl gu_X6 tyX6 tyX6_ok nmX6 (by decide) tw_3_52 rfl rfl rfl dX6_fails_7 (fun H locs hI => ?_)
  refine lv_aload_n hx hb dX6_fails_10 rfl (lv_at hl 0 rfl) ?_
  refine lv_iload_n hx hb dX6_fails_11 rfl (lv_at hl 2 rfl) ?_
  obtain ⟨G3, eG3, h⟩ := gb_s h
  refine g_put X hI (k := 11) (v := .int a2) (G' := G3) eG3 (C := RX6) (T := TX6) (N := 17) rfl gu_X6 tyX6 tyX6_ok nmX6 (by decide) tw_3_53 rfl rfl rfl dX6_fails_12 (fun H locs hI => ?_)
  refine lv_bipush (v := (-10)) hx hb dX6_fails_15 (by decide) ?_
  refine lv_iload_n hx hb dX6_fails_17 rfl (lv_at hl 1 rfl) ?_
  refine lv_isub (x := (-10)) (y := a1) hx hb dX6_fails_18 ?_
  obtain ⟨h, h2⟩ := g_sp2 h
  subst h
  subst h2
  exact g_iret X hI dX6_fails_19
abbrev rm_X6_isTensor : Room := { frames := 1, cells := 0, slots := 0, locals := 25 }
def f_X6_isTensor (G : gG) (th : Nat) (a1 : Int32) : Option Int32 :=
  gb (g_fI G th 5 0) fun v1 =>
  gck (decide ((f_X6_in (Int32.toInt64 a1) (0 : Int64) (Int32.toInt64 (v1 - 1))) = 0 ∨ (f_X6_in (Int32.toInt64 a1) (0 : Int64) (Int32.toInt64 (v1 - 1))) = 1)) <|
  some (f_X6_in (Int32.toInt64 a1) (0 : Int64) (Int32.toInt64 (v1 - 1)))
theorem gm_X6_isTensor : g_M yX6_isTensor cX6_isTensor 2 (some .boolean) 1 := ⟨tw_3_122, tw_1_5, by decide +kernel, Or.inl (by decide +kernel)⟩
set_option maxHeartbeats 4000000 in
set_option maxRecDepth 100000 in
theorem c_X6_isTensor {l : Launch} {E : gE} {G : gG} {n : Nat} {th : Nat} {a1 : Int32} {r : Int32} (h : f_X6_isTensor G th a1 = some r) : g_Met l yX6_isTensor cX6_isTensor 2 (some .boolean) rm_X6_isTensor E G n [.ref th, .int a1] (some (.int r)) G n := by
  refine g_ofW gm_X6_isTensor (Nat.le_of_ble_eq_true rfl) ?_
  intro p e s m below meth c ls X hl hI
  have hx := X.1
  have hb := X.2.1
  have X : g_X E G n p s m _ meth c cX6_isTensor 2 RX6 "isTensor" (some .boolean) := X
  have hl : lv_has ls 2 [(0, .ref th), (1, .int a1)] := hl
  unfold f_X6_isTensor at h
  refine lv_iload_n hx hb dX6_isTensor_0 rfl (lv_at hl 1 rfl) ?_
  refine lv_i2l (v := (Int32.toInt64 a1)) hx hb dX6_isTensor_1 rfl ?_
  refine lv_lconst (v := 0) hx hb dX6_isTensor_2 (by decide) ?_
  refine lv_aload_n hx hb dX6_isTensor_3 rfl (lv_at hl 0 rfl) ?_
  obtain ⟨v1, ev1, h⟩ := gb_s h
  refine g_get X hI (g_fI_s ev1) (C := RX6) (T := TX6) (N := 17) rfl gu_X6 (by decide) tw_3_42 dX6_isTensor_4 ?_
  refine lv_iconst (v := 1) hx hb dX6_isTensor_7 (by decide) ?_
  refine lv_isub (x := v1) (y := 1) hx hb dX6_isTensor_8 ?_
  refine lv_i2l (v := (Int32.toInt64 (v1 - 1))) hx hb dX6_isTensor_9 rfl ?_
  refine g_callS X hI (av := [.long (Int32.toInt64 a1), .long 0, .long (Int32.toInt64 (v1 - 1))]) (c_X6_in (Int32.toInt64 a1) (0 : Int64) (Int32.toInt64 (v1 - 1))) gm_X6_in tw_3_100 tw_3_101 ⟨by decide, by decide⟩ hl.1 (rest := []) rfl (Nat.le_of_ble_eq_true rfl) dX6_isTensor_10 ⟨by decide, by decide⟩ (st1 := [.int (f_X6_in (Int32.toInt64 a1) (0 : Int64) (Int32.toInt64 (v1 - 1)))]) rfl (cells' := 0) (slots' := 0) rfl rfl (fun H locs hI => ?_)
  obtain ⟨cz, h⟩ := gck_s h
  have h := Option.some.inj h
  subst h
  exact g_zret X hI (of_decide_eq_true cz) dX6_isTensor_13
abbrev rm_X6_extent : Room := { frames := 0, cells := 0, slots := 0, locals := 0 }
def f_X6_extent (G : gG) (th : Nat) (a1 : Int32) (a2 : Int32) : Option Int32 :=
  gb (g_fA G th 5 2) fun g1 =>
  gb (g_il G g1 a1) fun v2 =>
  if v2 ≤ a2 then
    some 1
  else
  gb (g_fA G th 5 3) fun g3 =>
  gb (g_fA G th 5 2) fun g4 =>
  gb (g_il G g4 a1) fun v5 =>
  gb (g_il G g3 (((((3 : Int32) * a1) + v5) - 1) - a2)) fun v6 =>
  some v6
theorem gm_X6_extent : g_M yX6_extent cX6_extent 3 (some .int) 2 := ⟨tw_3_182, tw_1_5, by decide +kernel, Or.inl (by decide +kernel)⟩
set_option maxHeartbeats 4000000 in
set_option maxRecDepth 100000 in
theorem c_X6_extent {l : Launch} {E : gE} {G : gG} {n : Nat} {th : Nat} {a1 : Int32} {a2 : Int32} {r : Int32} (h : f_X6_extent G th a1 a2 = some r) : g_Met l yX6_extent cX6_extent 3 (some .int) rm_X6_extent E G n [.ref th, .int a1, .int a2] (some (.int r)) G n := by
  refine g_ofW gm_X6_extent (Nat.le_of_ble_eq_true rfl) ?_
  intro p e s m below meth c ls X hl hI
  have hx := X.1
  have hb := X.2.1
  have X : g_X E G n p s m _ meth c cX6_extent 3 RX6 "extent" (some .int) := X
  have hl : lv_has ls 3 [(0, .ref th), (1, .int a1), (2, .int a2)] := hl
  unfold f_X6_extent at h
  refine lv_iload_n hx hb dX6_extent_0 rfl (lv_at hl 2 rfl) ?_
  refine lv_aload_n hx hb dX6_extent_1 rfl (lv_at hl 0 rfl) ?_
  obtain ⟨g1, eg1, h⟩ := gb_s h
  refine g_get X hI (g_fA_s eg1) (C := RX6) (T := TX6) (N := 17) rfl gu_X6 (by decide) tw_3_44 dX6_extent_2 ?_
  refine lv_iload_n hx hb dX6_extent_5 rfl (lv_at hl 1 rfl) ?_
  obtain ⟨v2, ev2, h⟩ := gb_s h
  refine g_iald X hI ev2 dX6_extent_6 ?_
  refine lv_icmp_ge (tgt := 32) hx hb dX6_extent_7 (by decide) (fun c => ?_) (fun c => ?_)
  · have h := g_t _ c h
    refine lv_iconst (v := 1) hx hb dX6_extent_32 (by decide) ?_
    have h := Option.some.inj h
    subst h
    exact g_iret X hI dX6_extent_33
  · have h := g_f _ c h
    refine lv_aload_n hx hb dX6_extent_10 rfl (lv_at hl 0 rfl) ?_
    obtain ⟨g3, eg3, h⟩ := gb_s h
    refine g_get X hI (g_fA_s eg3) (C := RX6) (T := TX6) (N := 17) rfl gu_X6 (by decide) tw_3_45 dX6_extent_11 ?_
    refine lv_iconst (v := 3) hx hb dX6_extent_14 (by decide) ?_
    refine lv_iload_n hx hb dX6_extent_15 rfl (lv_at hl 1 rfl) ?_
    refine lv_imul (x := 3) (y := a1) hx hb dX6_extent_16 ?_
    refine lv_aload_n hx hb dX6_extent_17 rfl (lv_at hl 0 rfl) ?_
    obtain ⟨g4, eg4, h⟩ := gb_s h
    refine g_get X hI (g_fA_s eg4) (C := RX6) (T := TX6) (N := 17) rfl gu_X6 (by decide) tw_3_44 dX6_extent_18 ?_
    refine lv_iload_n hx hb dX6_extent_21 rfl (lv_at hl 1 rfl) ?_
    obtain ⟨v5, ev5, h⟩ := gb_s h
    refine g_iald X hI ev5 dX6_extent_22 ?_
    refine lv_iadd (x := ((3 : Int32) * a1)) (y := v5) hx hb dX6_extent_23 ?_
    refine lv_iconst (v := 1) hx hb dX6_extent_24 (by decide) ?_
    refine lv_isub (x := (((3 : Int32) * a1) + v5)) (y := 1) hx hb dX6_extent_25 ?_
    refine lv_iload_n hx hb dX6_extent_26 rfl (lv_at hl 2 rfl) ?_
    refine lv_isub (x := ((((3 : Int32) * a1) + v5) - 1)) (y := a2) hx hb dX6_extent_27 ?_
    obtain ⟨v6, ev6, h⟩ := gb_s h
    refine g_iald X hI ev6 dX6_extent_28 ?_
    refine lv_goto (tgt := 33) hx hb dX6_extent_29 (by decide) ?_
    have h := Option.some.inj h
    subst h
    exact g_iret X hI dX6_extent_33
abbrev rm_X6_begin : Room := { frames := 1, cells := 0, slots := 0, locals := 22 }
def f_X6_begin_12 : Nat → gG → Nat → Int32 → Int32 → Option gG
  | 0, _, _, _, _ => none
  | fu + 1, G, x0, x1, x2 =>
    if (3 : Int32) ≤ x2 then
      gb (g_fA G x0 5 4) fun g1 =>
      gb (g_il G g1 x1) fun v2 =>
      gb (g_sI G x0 5 14 v2) fun G3 =>
      some G3
    else
    gb (g_fA G x0 5 12) fun g4 =>
    gck (g_isO G x0 5) <|
    gb (f_X6_extent G x0 x1 x2) fun r5 =>
    gb (g_is G g4 x2 r5) fun G6 =>
    gl (x2 + 1 : Int32) fun v7 =>
    f_X6_begin_12 fu G6 x0 x1 v7
set_option maxHeartbeats 4000000 in
set_option maxRecDepth 100000 in
theorem b_X6_begin_12 {p : Program} {l : Launch} {e : Env} {s : State} {m : MethodId} {args : Array Value} {below : List Frame} {meth : Method} {c : Code} {E : gE} {G0 : gG} {n0 : Nat} (X : g_X E G0 n0 p s m args meth c cX6_begin 3 RX6 "begin" none) {n : Nat} {Gr : gG} (fu : Nat) : ∀ {G : gG} {H : Heap} {locs : List Loc} (_ : g_I E (g_A G0 n0) G n s.heap H locs) {x0 : Nat} {x1 : Int32} {x2 : Int32} (_ : f_X6_begin_12 fu G x0 x1 x2 = some Gr) {ls : Array Slot} (_ : lv_has ls 3 [(0, .ref x0), (1, .int x1), (2, .int x2)]), W p l e rm_X6_begin s m args below meth c H locs 0 0 (MQ below (g_Q E G0 n0 none Gr n) args s rm_X6_begin.cells rm_X6_begin.slots (g_A G0 n0)) (F0 m 12 ls []) := by
  have hx := X.1
  have hb := X.2.1
  induction fu with
  | zero =>
    intro G H locs hI x0 x1 x2 h ls hl
    rw [f_X6_begin_12] at h
    cases h
  | succ fu ih =>
    intro G H locs hI x0 x1 x2 h ls hl
    rw [f_X6_begin_12] at h
    refine lv_iload_n hx hb dX6_begin_12 rfl (lv_at hl 2 rfl) ?_
    refine lv_iconst (v := 3) hx hb dX6_begin_13 (by decide) ?_
    refine lv_icmp_ge (tgt := 35) hx hb dX6_begin_14 (by decide) (fun c => ?_) (fun c => ?_)
    · have h := g_t _ c h
      refine lv_aload_n hx hb dX6_begin_35 rfl (lv_at hl 0 rfl) ?_
      refine lv_aload_n hx hb dX6_begin_36 rfl (lv_at hl 0 rfl) ?_
      obtain ⟨g1, eg1, h⟩ := gb_s h
      refine g_get X hI (g_fA_s eg1) (C := RX6) (T := TX6) (N := 17) rfl gu_X6 (by decide) tw_3_46 dX6_begin_37 ?_
      refine lv_iload_n hx hb dX6_begin_40 rfl (lv_at hl 1 rfl) ?_
      obtain ⟨v2, ev2, h⟩ := gb_s h
      refine g_iald X hI ev2 dX6_begin_41 ?_
      obtain ⟨G3, eG3, h⟩ := gb_s h
      refine g_put X hI (k := 14) (v := .int v2) (G' := G3) eG3 (C := RX6) (T := TX6) (N := 17) rfl gu_X6 tyX6 tyX6_ok nmX6 (by decide) tw_3_56 rfl rfl rfl dX6_begin_42 (fun H locs hI => ?_)
      have h := Option.some.inj h
      subst h
      exact g_vret X hI dX6_begin_45
    · have h := g_f _ c h
      refine lv_aload_n hx hb dX6_begin_17 rfl (lv_at hl 0 rfl) ?_
      obtain ⟨g4, eg4, h⟩ := gb_s h
      refine g_get X hI (g_fA_s eg4) (C := RX6) (T := TX6) (N := 17) rfl gu_X6 (by decide) tw_3_54 dX6_begin_18 ?_
      refine lv_iload_n hx hb dX6_begin_21 rfl (lv_at hl 2 rfl) ?_
      refine lv_aload_n hx hb dX6_begin_22 rfl (lv_at hl 0 rfl) ?_
      refine lv_iload_n hx hb dX6_begin_23 rfl (lv_at hl 1 rfl) ?_
      refine lv_iload_n hx hb dX6_begin_24 rfl (lv_at hl 2 rfl) ?_
      obtain ⟨cO, h⟩ := gck_s h
      obtain ⟨r5, er5, h⟩ := gb_s h
      refine g_callV X hI (q := (RX6, TX6, 17)) (b := x0) (av := [.int x1, .int x2]) cO rfl (c_X6_extent er5) gm_X6_extent tw_3_179 tw_3_181 tw_p_26 ⟨by decide, by decide⟩ hl.1 (rest := [.int x2, .ref g4]) rfl (Nat.le_of_ble_eq_true rfl) dX6_begin_25 ⟨by decide, by decide⟩ (st1 := [.int r5, .int x2, .ref g4]) rfl (cells' := 0) (slots' := 0) rfl rfl (fun H locs hI => ?_)
      obtain ⟨G6, eG6, h⟩ := gb_s h
      refine g_iast X hI (G' := G6) eG6 dX6_begin_28 (fun H locs hI => ?_)
      obtain ⟨v7, ev7, h⟩ := gl_s h
      refine lv_iinc (v := v7) (lv' := [(2, .int v7), (0, .ref x0), (1, .int x1)]) hx hb dX6_begin_29 hl (k := 2) rfl (by rw [← ev7]; rfl) (by decide) rfl (fun ls hl => ?_)
      refine lv_goto (tgt := 12) hx hb dX6_begin_32 (by decide) ?_
      exact ih hI h (lv_sub hl [1, 2, 0] rfl)
def f_X6_begin (G : gG) (th : Nat) (a1 : Int32) : Option gG :=
  gb (g_fA G th 5 2) fun g1 =>
  gb (g_il G g1 a1) fun v2 =>
  gb (g_sI G th 5 13 v2) fun G3 =>
  f_X6_begin_12 5000 G3 th a1 0
theorem gm_X6_begin : g_M yX6_begin cX6_begin 3 none 1 := ⟨tw_3_178, tw_1_5, by decide +kernel, Or.inl (by decide +kernel)⟩
set_option maxHeartbeats 4000000 in
set_option maxRecDepth 100000 in
theorem c_X6_begin {l : Launch} {E : gE} {G : gG} {n : Nat} {th : Nat} {a1 : Int32} {Gr : gG} (h : f_X6_begin G th a1 = some Gr) : g_Met l yX6_begin cX6_begin 3 none rm_X6_begin E G n [.ref th, .int a1] none Gr n := by
  refine g_ofW gm_X6_begin (Nat.le_of_ble_eq_true rfl) ?_
  intro p e s m below meth c ls X hl hI
  have hx := X.1
  have hb := X.2.1
  have X : g_X E G n p s m _ meth c cX6_begin 3 RX6 "begin" none := X
  have hl : lv_has ls 3 [(0, .ref th), (1, .int a1)] := hl
  unfold f_X6_begin at h
  refine lv_aload_n hx hb dX6_begin_0 rfl (lv_at hl 0 rfl) ?_
  refine lv_aload_n hx hb dX6_begin_1 rfl (lv_at hl 0 rfl) ?_
  obtain ⟨g1, eg1, h⟩ := gb_s h
  refine g_get X hI (g_fA_s eg1) (C := RX6) (T := TX6) (N := 17) rfl gu_X6 (by decide) tw_3_44 dX6_begin_2 ?_
  refine lv_iload_n hx hb dX6_begin_5 rfl (lv_at hl 1 rfl) ?_
  obtain ⟨v2, ev2, h⟩ := gb_s h
  refine g_iald X hI ev2 dX6_begin_6 ?_
  obtain ⟨G3, eG3, h⟩ := gb_s h
  refine g_put X hI (k := 13) (v := .int v2) (G' := G3) eG3 (C := RX6) (T := TX6) (N := 17) rfl gu_X6 tyX6 tyX6_ok nmX6 (by decide) tw_3_55 rfl rfl rfl dX6_begin_7 (fun H locs hI => ?_)
  refine lv_iconst (v := 0) hx hb dX6_begin_10 (by decide) ?_
  refine lv_istore_n (lv' := [(2, .int 0), (0, .ref th), (1, .int a1)]) hx hb dX6_begin_11 rfl hl (by decide) rfl (fun ls hl => ?_)
  exact b_X6_begin_12 X 5000 hI h (lv_sub hl [1, 2, 0] rfl)
abbrev rm_X6_spreadWith : Room := { frames := 1, cells := 0, slots := 0, locals := 22 }
def f_X6_spreadWith_124 (k89 : gG → Nat → Int32 → Int32 → Int32 → Option (Int32 × gG)) (G : gG) (x0 : Nat) (x1 : Int32) (x2 : Int32) (x3 : Int32) (s0 : Int32) (s1 : Int32) (s2 : Nat) : Option (Int32 × gG) :=
  gb (g_is G s2 s1 s0) fun G1 =>
  gb (g_fI G1 x0 5 14) fun v2 =>
  gb (g_fA G1 x0 5 12) fun g3 =>
  gb (g_il G1 g3 x3) fun v4 =>
  gb (g_sI G1 x0 5 14 (v2 * v4)) fun G5 =>
  gl (x3 + 1 : Int32) fun v6 =>
  k89 G5 x0 x1 x2 v6
set_option maxHeartbeats 4000000 in
set_option maxRecDepth 100000 in
theorem b_X6_spreadWith_124 {p : Program} {l : Launch} {e : Env} {s : State} {m : MethodId} {args : Array Value} {below : List Frame} {meth : Method} {c : Code} {E : gE} {G0 : gG} {n0 : Nat} (X : g_X E G0 n0 p s m args meth c cX6_spreadWith 5 RX6 "spreadWith" (some .int)) {G : gG} {n : Nat} {r : Int32} {Gr : gG} {k89 : gG → Nat → Int32 → Int32 → Int32 → Option (Int32 × gG)} (hk89 : ∀ {G : gG} {H : Heap} {locs : List Loc} (_ : g_I E (g_A G0 n0) G n s.heap H locs) {x0 : Nat} {x1 : Int32} {x2 : Int32} {x3 : Int32}  (_ : k89 G x0 x1 x2 x3 = some (r, Gr)) {ls : Array Slot} (_ : lv_has ls 5 [(0, .ref x0), (1, .int x1), (2, .int x2), (3, .int x3)]), W p l e rm_X6_spreadWith s m args below meth c H locs 0 0 (MQ below (g_Q E G0 n0 (some (.int r)) Gr n) args s rm_X6_spreadWith.cells rm_X6_spreadWith.slots (g_A G0 n0)) (F0 m 89 ls [])) {H : Heap} {locs : List Loc} (hI : g_I E (g_A G0 n0) G n s.heap H locs) {x0 : Nat} {x1 : Int32} {x2 : Int32} {x3 : Int32} {s0 : Int32} {s1 : Int32} {s2 : Nat} (h : f_X6_spreadWith_124 k89 G x0 x1 x2 x3 s0 s1 s2 = some (r, Gr)) {ls : Array Slot} (hl : lv_has ls 5 [(0, .ref x0), (1, .int x1), (2, .int x2), (3, .int x3)]) : W p l e rm_X6_spreadWith s m args below meth c H locs 0 0 (MQ below (g_Q E G0 n0 (some (.int r)) Gr n) args s rm_X6_spreadWith.cells rm_X6_spreadWith.slots (g_A G0 n0)) (F0 m 124 ls [.int s0, .int s1, .ref s2]) := by
  have hx := X.1
  have hb := X.2.1
  unfold f_X6_spreadWith_124 at h
  obtain ⟨G1, eG1, h⟩ := gb_s h
  refine g_iast X hI (G' := G1) eG1 dX6_spreadWith_124 (fun H locs hI => ?_)
  refine lv_aload_n hx hb dX6_spreadWith_125 rfl (lv_at hl 0 rfl) ?_
  refine lv_dup hx hb dX6_spreadWith_126 rfl ?_
  obtain ⟨v2, ev2, h⟩ := gb_s h
  refine g_get X hI (g_fI_s ev2) (C := RX6) (T := TX6) (N := 17) rfl gu_X6 (by decide) tw_3_56 dX6_spreadWith_127 ?_
  refine lv_aload_n hx hb dX6_spreadWith_130 rfl (lv_at hl 0 rfl) ?_
  obtain ⟨g3, eg3, h⟩ := gb_s h
  refine g_get X hI (g_fA_s eg3) (C := RX6) (T := TX6) (N := 17) rfl gu_X6 (by decide) tw_3_54 dX6_spreadWith_131 ?_
  refine lv_iload_n hx hb dX6_spreadWith_134 rfl (lv_at hl 3 rfl) ?_
  obtain ⟨v4, ev4, h⟩ := gb_s h
  refine g_iald X hI ev4 dX6_spreadWith_135 ?_
  refine lv_imul (x := v2) (y := v4) hx hb dX6_spreadWith_136 ?_
  obtain ⟨G5, eG5, h⟩ := gb_s h
  refine g_put X hI (k := 14) (v := .int (v2 * v4)) (G' := G5) eG5 (C := RX6) (T := TX6) (N := 17) rfl gu_X6 tyX6 tyX6_ok nmX6 (by decide) tw_3_56 rfl rfl rfl dX6_spreadWith_137 (fun H locs hI => ?_)
  obtain ⟨v6, ev6, h⟩ := gl_s h
  refine lv_iinc (v := v6) (lv' := [(3, .int v6), (0, .ref x0), (1, .int x1), (2, .int x2)]) hx hb dX6_spreadWith_140 hl (k := 3) rfl (by rw [← ev6]; rfl) (by decide) rfl (fun ls hl => ?_)
  refine lv_goto (tgt := 89) hx hb dX6_spreadWith_143 (by decide) ?_
  exact hk89 hI h (lv_sub hl [1, 2, 3, 0] rfl)
def f_X6_spreadWith_89 : Nat → gG → Nat → Int32 → Int32 → Int32 → Option (Int32 × gG)
  | 0, _, _, _, _, _ => none
  | fu + 1, G, x0, x1, x2, x3 =>
    if x2 ≤ x3 then
      some ((-1), G)
    else
    gb (g_fA G x0 5 12) fun g1 =>
    gb (g_fA G x0 5 12) fun g2 =>
    gb (g_il G g2 x3) fun v3 =>
    if v3 = 1 then
      gck (g_isO G x0 5) <|
      gb (f_X6_extent G x0 x1 x3) fun r6 =>
      f_X6_spreadWith_124 (f_X6_spreadWith_89 fu) G x0 x1 x2 x3 r6 x3 g1
    else
    gb (g_fA G x0 5 12) fun g4 =>
    gb (g_il G g4 x3) fun v5 =>
    f_X6_spreadWith_124 (f_X6_spreadWith_89 fu) G x0 x1 x2 x3 v5 x3 g1
set_option maxHeartbeats 4000000 in
set_option maxRecDepth 100000 in
theorem b_X6_spreadWith_89 {p : Program} {l : Launch} {e : Env} {s : State} {m : MethodId} {args : Array Value} {below : List Frame} {meth : Method} {c : Code} {E : gE} {G0 : gG} {n0 : Nat} (X : g_X E G0 n0 p s m args meth c cX6_spreadWith 5 RX6 "spreadWith" (some .int)) {n : Nat} {r : Int32} {Gr : gG} (fu : Nat) : ∀ {G : gG} {H : Heap} {locs : List Loc} (_ : g_I E (g_A G0 n0) G n s.heap H locs) {x0 : Nat} {x1 : Int32} {x2 : Int32} {x3 : Int32} (_ : f_X6_spreadWith_89 fu G x0 x1 x2 x3 = some (r, Gr)) {ls : Array Slot} (_ : lv_has ls 5 [(0, .ref x0), (1, .int x1), (2, .int x2), (3, .int x3)]), W p l e rm_X6_spreadWith s m args below meth c H locs 0 0 (MQ below (g_Q E G0 n0 (some (.int r)) Gr n) args s rm_X6_spreadWith.cells rm_X6_spreadWith.slots (g_A G0 n0)) (F0 m 89 ls []) := by
  have hx := X.1
  have hb := X.2.1
  induction fu with
  | zero =>
    intro G H locs hI x0 x1 x2 x3 h ls hl
    rw [f_X6_spreadWith_89] at h
    cases h
  | succ fu ih =>
    intro G H locs hI x0 x1 x2 x3 h ls hl
    rw [f_X6_spreadWith_89] at h
    refine lv_iload_n hx hb dX6_spreadWith_89 rfl (lv_at hl 3 rfl) ?_
    refine lv_iload_n hx hb dX6_spreadWith_90 rfl (lv_at hl 2 rfl) ?_
    refine lv_icmp_ge (tgt := 146) hx hb dX6_spreadWith_91 (by decide) (fun c => ?_) (fun c => ?_)
    · have h := g_t _ c h
      refine lv_iconst (v := (-1)) hx hb dX6_spreadWith_146 (by decide) ?_
      obtain ⟨h, h2⟩ := g_sp2 h
      subst h
      subst h2
      exact g_iret X hI dX6_spreadWith_147
    · have h := g_f _ c h
      refine lv_aload_n hx hb dX6_spreadWith_94 rfl (lv_at hl 0 rfl) ?_
      obtain ⟨g1, eg1, h⟩ := gb_s h
      refine g_get X hI (g_fA_s eg1) (C := RX6) (T := TX6) (N := 17) rfl gu_X6 (by decide) tw_3_54 dX6_spreadWith_95 ?_
      refine lv_iload_n hx hb dX6_spreadWith_98 rfl (lv_at hl 3 rfl) ?_
      refine lv_aload_n hx hb dX6_spreadWith_99 rfl (lv_at hl 0 rfl) ?_
      obtain ⟨g2, eg2, h⟩ := gb_s h
      refine g_get X hI (g_fA_s eg2) (C := RX6) (T := TX6) (N := 17) rfl gu_X6 (by decide) tw_3_54 dX6_spreadWith_100 ?_
      refine lv_iload_n hx hb dX6_spreadWith_103 rfl (lv_at hl 3 rfl) ?_
      obtain ⟨v3, ev3, h⟩ := gb_s h
      refine g_iald X hI ev3 dX6_spreadWith_104 ?_
      refine lv_iconst (v := 1) hx hb dX6_spreadWith_105 (by decide) ?_
      refine lv_icmp_ne (tgt := 118) hx hb dX6_spreadWith_106 (by decide) (fun c => ?_) (fun c => ?_)
      · have h := g_f _ c h
        refine lv_aload_n hx hb dX6_spreadWith_118 rfl (lv_at hl 0 rfl) ?_
        obtain ⟨g4, eg4, h⟩ := gb_s h
        refine g_get X hI (g_fA_s eg4) (C := RX6) (T := TX6) (N := 17) rfl gu_X6 (by decide) tw_3_54 dX6_spreadWith_119 ?_
        refine lv_iload_n hx hb dX6_spreadWith_122 rfl (lv_at hl 3 rfl) ?_
        obtain ⟨v5, ev5, h⟩ := gb_s h
        refine g_iald X hI ev5 dX6_spreadWith_123 ?_
        exact b_X6_spreadWith_124 X ih hI h (lv_sub hl [0, 1, 2, 3] rfl)
      · have h := g_t _ c h
        refine lv_aload_n hx hb dX6_spreadWith_109 rfl (lv_at hl 0 rfl) ?_
        refine lv_iload_n hx hb dX6_spreadWith_110 rfl (lv_at hl 1 rfl) ?_
        refine lv_iload_n hx hb dX6_spreadWith_111 rfl (lv_at hl 3 rfl) ?_
        obtain ⟨cO, h⟩ := gck_s h
        obtain ⟨r6, er6, h⟩ := gb_s h
        refine g_callV X hI (q := (RX6, TX6, 17)) (b := x0) (av := [.int x1, .int x3]) cO rfl (c_X6_extent er6) gm_X6_extent tw_3_179 tw_3_181 tw_p_26 ⟨by decide, by decide⟩ hl.1 (rest := [.int x3, .ref g1]) rfl (Nat.le_of_ble_eq_true rfl) dX6_spreadWith_112 ⟨by decide, by decide⟩ (st1 := [.int r6, .int x3, .ref g1]) rfl (cells' := 0) (slots' := 0) rfl rfl (fun H locs hI => ?_)
        refine lv_goto (tgt := 124) hx hb dX6_spreadWith_115 (by decide) ?_
        exact b_X6_spreadWith_124 X ih hI h (lv_sub hl [0, 1, 2, 3] rfl)
def f_X6_spreadWith_71 (k29 : gG → Nat → Int32 → Int32 → Int32 → Option (Int32 × gG)) (G : gG) (x0 : Nat) (x1 : Int32) (x2 : Int32) (x3 : Int32) : Option (Int32 × gG) :=
  gl (x3 + 1 : Int32) fun v1 =>
  k29 G x0 x1 x2 v1
set_option maxHeartbeats 4000000 in
set_option maxRecDepth 100000 in
theorem b_X6_spreadWith_71 {p : Program} {l : Launch} {e : Env} {s : State} {m : MethodId} {args : Array Value} {below : List Frame} {meth : Method} {c : Code} {E : gE} {G0 : gG} {n0 : Nat} (X : g_X E G0 n0 p s m args meth c cX6_spreadWith 5 RX6 "spreadWith" (some .int)) {G : gG} {n : Nat} {r : Int32} {Gr : gG} {k29 : gG → Nat → Int32 → Int32 → Int32 → Option (Int32 × gG)} (hk29 : ∀ {G : gG} {H : Heap} {locs : List Loc} (_ : g_I E (g_A G0 n0) G n s.heap H locs) {x0 : Nat} {x1 : Int32} {x2 : Int32} {x3 : Int32}  (_ : k29 G x0 x1 x2 x3 = some (r, Gr)) {ls : Array Slot} (_ : lv_has ls 5 [(0, .ref x0), (1, .int x1), (2, .int x2), (3, .int x3)]), W p l e rm_X6_spreadWith s m args below meth c H locs 0 0 (MQ below (g_Q E G0 n0 (some (.int r)) Gr n) args s rm_X6_spreadWith.cells rm_X6_spreadWith.slots (g_A G0 n0)) (F0 m 29 ls [])) {H : Heap} {locs : List Loc} (hI : g_I E (g_A G0 n0) G n s.heap H locs) {x0 : Nat} {x1 : Int32} {x2 : Int32} {x3 : Int32} (h : f_X6_spreadWith_71 k29 G x0 x1 x2 x3 = some (r, Gr)) {ls : Array Slot} (hl : lv_has ls 5 [(0, .ref x0), (1, .int x1), (2, .int x2), (3, .int x3)]) : W p l e rm_X6_spreadWith s m args below meth c H locs 0 0 (MQ below (g_Q E G0 n0 (some (.int r)) Gr n) args s rm_X6_spreadWith.cells rm_X6_spreadWith.slots (g_A G0 n0)) (F0 m 71 ls []) := by
  have hx := X.1
  have hb := X.2.1
  unfold f_X6_spreadWith_71 at h
  obtain ⟨v1, ev1, h⟩ := gl_s h
  refine lv_iinc (v := v1) (lv' := [(3, .int v1), (0, .ref x0), (1, .int x1), (2, .int x2)]) hx hb dX6_spreadWith_71 hl (k := 3) rfl (by rw [← ev1]; rfl) (by decide) rfl (fun ls hl => ?_)
  refine lv_goto (tgt := 29) hx hb dX6_spreadWith_74 (by decide) ?_
  exact hk29 hI h (lv_sub hl [1, 2, 3, 0] rfl)
def f_X6_spreadWith_29 : Nat → gG → Nat → Int32 → Int32 → Int32 → Option (Int32 × gG)
  | 0, _, _, _, _, _ => none
  | fu + 1, G, x0, x1, x2, x3 =>
    if x2 ≤ x3 then
      gb (g_sI G x0 5 13 x2) fun G1 =>
      gb (g_sI G1 x0 5 14 1) fun G2 =>
      f_X6_spreadWith_89 5000 G2 x0 x1 x2 0
    else
    gck (g_isO G x0 5) <|
    gb (f_X6_extent G x0 x1 x3) fun r3 =>
    gb (g_fA G x0 5 12) fun g4 =>
    gb (g_il G g4 x3) fun v5 =>
    if v5 = r3 then
      f_X6_spreadWith_71 (f_X6_spreadWith_29 fu) G x0 x1 x2 x3
    else
    gb (g_fA G x0 5 12) fun g6 =>
    gb (g_il G g6 x3) fun v7 =>
    if v7 = 1 then
      f_X6_spreadWith_71 (f_X6_spreadWith_29 fu) G x0 x1 x2 x3
    else
    if r3 = 1 then
      f_X6_spreadWith_71 (f_X6_spreadWith_29 fu) G x0 x1 x2 x3
    else
    some (x3, G)
set_option maxHeartbeats 4000000 in
set_option maxRecDepth 100000 in
theorem b_X6_spreadWith_29 {p : Program} {l : Launch} {e : Env} {s : State} {m : MethodId} {args : Array Value} {below : List Frame} {meth : Method} {c : Code} {E : gE} {G0 : gG} {n0 : Nat} (X : g_X E G0 n0 p s m args meth c cX6_spreadWith 5 RX6 "spreadWith" (some .int)) {n : Nat} {r : Int32} {Gr : gG} (fu : Nat) : ∀ {G : gG} {H : Heap} {locs : List Loc} (_ : g_I E (g_A G0 n0) G n s.heap H locs) {x0 : Nat} {x1 : Int32} {x2 : Int32} {x3 : Int32} (_ : f_X6_spreadWith_29 fu G x0 x1 x2 x3 = some (r, Gr)) {ls : Array Slot} (_ : lv_has ls 5 [(0, .ref x0), (1, .int x1), (2, .int x2), (3, .int x3)]), W p l e rm_X6_spreadWith s m args below meth c H locs 0 0 (MQ below (g_Q E G0 n0 (some (.int r)) Gr n) args s rm_X6_spreadWith.cells rm_X6_spreadWith.slots (g_A G0 n0)) (F0 m 29 ls []) := by
  have hx := X.1
  have hb := X.2.1
  induction fu with
  | zero =>
    intro G H locs hI x0 x1 x2 x3 h ls hl
    rw [f_X6_spreadWith_29] at h
    cases h
  | succ fu ih =>
    intro G H locs hI x0 x1 x2 x3 h ls hl
    rw [f_X6_spreadWith_29] at h
    refine lv_iload_n hx hb dX6_spreadWith_29 rfl (lv_at hl 3 rfl) ?_
    refine lv_iload_n hx hb dX6_spreadWith_30 rfl (lv_at hl 2 rfl) ?_
    refine lv_icmp_ge (tgt := 77) hx hb dX6_spreadWith_31 (by decide) (fun c => ?_) (fun c => ?_)
    · have h := g_t _ c h
      refine lv_aload_n hx hb dX6_spreadWith_77 rfl (lv_at hl 0 rfl) ?_
      refine lv_iload_n hx hb dX6_spreadWith_78 rfl (lv_at hl 2 rfl) ?_
      obtain ⟨G1, eG1, h⟩ := gb_s h
      refine g_put X hI (k := 13) (v := .int x2) (G' := G1) eG1 (C := RX6) (T := TX6) (N := 17) rfl gu_X6 tyX6 tyX6_ok nmX6 (by decide) tw_3_55 rfl rfl rfl dX6_spreadWith_79 (fun H locs hI => ?_)
      refine lv_aload_n hx hb dX6_spreadWith_82 rfl (lv_at hl 0 rfl) ?_
      refine lv_iconst (v := 1) hx hb dX6_spreadWith_83 (by decide) ?_
      obtain ⟨G2, eG2, h⟩ := gb_s h
      refine g_put X hI (k := 14) (v := .int 1) (G' := G2) eG2 (C := RX6) (T := TX6) (N := 17) rfl gu_X6 tyX6 tyX6_ok nmX6 (by decide) tw_3_56 rfl rfl rfl dX6_spreadWith_84 (fun H locs hI => ?_)
      refine lv_iconst (v := 0) hx hb dX6_spreadWith_87 (by decide) ?_
      refine lv_istore_n (lv' := [(3, .int 0), (0, .ref x0), (1, .int x1), (2, .int x2)]) hx hb dX6_spreadWith_88 rfl hl (by decide) rfl (fun ls hl => ?_)
      exact b_X6_spreadWith_89 X 5000 hI h (lv_sub hl [1, 2, 3, 0] rfl)
    · have h := g_f _ c h
      refine lv_aload_n hx hb dX6_spreadWith_34 rfl (lv_at hl 0 rfl) ?_
      refine lv_iload_n hx hb dX6_spreadWith_35 rfl (lv_at hl 1 rfl) ?_
      refine lv_iload_n hx hb dX6_spreadWith_36 rfl (lv_at hl 3 rfl) ?_
      obtain ⟨cO, h⟩ := gck_s h
      obtain ⟨r3, er3, h⟩ := gb_s h
      refine g_callV X hI (q := (RX6, TX6, 17)) (b := x0) (av := [.int x1, .int x3]) cO rfl (c_X6_extent er3) gm_X6_extent tw_3_179 tw_3_181 tw_p_26 ⟨by decide, by decide⟩ hl.1 (rest := []) rfl (Nat.le_of_ble_eq_true rfl) dX6_spreadWith_37 ⟨by decide, by decide⟩ (st1 := [.int r3]) rfl (cells' := 0) (slots' := 0) rfl rfl (fun H locs hI => ?_)
      refine lv_istore (lv' := [(4, .int r3), (0, .ref x0), (1, .int x1), (2, .int x2), (3, .int x3)]) hx hb dX6_spreadWith_40 hl (by decide) rfl (fun ls hl => ?_)
      refine lv_aload_n hx hb dX6_spreadWith_42 rfl (lv_at hl 1 rfl) ?_
      obtain ⟨g4, eg4, h⟩ := gb_s h
      refine g_get X hI (g_fA_s eg4) (C := RX6) (T := TX6) (N := 17) rfl gu_X6 (by decide) tw_3_54 dX6_spreadWith_43 ?_
      refine lv_iload_n hx hb dX6_spreadWith_46 rfl (lv_at hl 4 rfl) ?_
      obtain ⟨v5, ev5, h⟩ := gb_s h
      refine g_iald X hI ev5 dX6_spreadWith_47 ?_
      refine lv_iload hx hb dX6_spreadWith_48 (lv_at hl 0 rfl) ?_
      refine lv_icmp_eq (tgt := 71) hx hb dX6_spreadWith_50 (by decide) (fun c => ?_) (fun c => ?_)
      · have h := g_t _ c h
        exact b_X6_spreadWith_71 X ih hI h (lv_sub hl [1, 2, 3, 4] rfl)
      · have h := g_f _ c h
        refine lv_aload_n hx hb dX6_spreadWith_53 rfl (lv_at hl 1 rfl) ?_
        obtain ⟨g6, eg6, h⟩ := gb_s h
        refine g_get X hI (g_fA_s eg6) (C := RX6) (T := TX6) (N := 17) rfl gu_X6 (by decide) tw_3_54 dX6_spreadWith_54 ?_
        refine lv_iload_n hx hb dX6_spreadWith_57 rfl (lv_at hl 4 rfl) ?_
        obtain ⟨v7, ev7, h⟩ := gb_s h
        refine g_iald X hI ev7 dX6_spreadWith_58 ?_
        refine lv_iconst (v := 1) hx hb dX6_spreadWith_59 (by decide) ?_
        refine lv_icmp_eq (tgt := 71) hx hb dX6_spreadWith_60 (by decide) (fun c => ?_) (fun c => ?_)
        · have h := g_t _ c h
          exact b_X6_spreadWith_71 X ih hI h (lv_sub hl [1, 2, 3, 4] rfl)
        · have h := g_f _ c h
          refine lv_iload hx hb dX6_spreadWith_63 (lv_at hl 0 rfl) ?_
          refine lv_iconst (v := 1) hx hb dX6_spreadWith_65 (by decide) ?_
          refine lv_icmp_eq (tgt := 71) hx hb dX6_spreadWith_66 (by decide) (fun c => ?_) (fun c => ?_)
          · have h := g_t _ c h
            exact b_X6_spreadWith_71 X ih hI h (lv_sub hl [1, 2, 3, 4] rfl)
          · have h := g_f _ c h
            refine lv_iload_n hx hb dX6_spreadWith_69 rfl (lv_at hl 4 rfl) ?_
            obtain ⟨h, h2⟩ := g_sp2 h
            subst h
            subst h2
            exact g_iret X hI dX6_spreadWith_70
def f_X6_spreadWith_26 (G : gG) (x0 : Nat) (x1 : Int32) (s0 : Int32) : Option (Int32 × gG) :=
  f_X6_spreadWith_29 5000 G x0 x1 s0 0
set_option maxHeartbeats 4000000 in
set_option maxRecDepth 100000 in
theorem b_X6_spreadWith_26 {p : Program} {l : Launch} {e : Env} {s : State} {m : MethodId} {args : Array Value} {below : List Frame} {meth : Method} {c : Code} {E : gE} {G0 : gG} {n0 : Nat} (X : g_X E G0 n0 p s m args meth c cX6_spreadWith 5 RX6 "spreadWith" (some .int)) {G : gG} {n : Nat} {r : Int32} {Gr : gG} {H : Heap} {locs : List Loc} (hI : g_I E (g_A G0 n0) G n s.heap H locs) {x0 : Nat} {x1 : Int32} {s0 : Int32} (h : f_X6_spreadWith_26 G x0 x1 s0 = some (r, Gr)) {ls : Array Slot} (hl : lv_has ls 5 [(0, .ref x0), (1, .int x1)]) : W p l e rm_X6_spreadWith s m args below meth c H locs 0 0 (MQ below (g_Q E G0 n0 (some (.int r)) Gr n) args s rm_X6_spreadWith.cells rm_X6_spreadWith.slots (g_A G0 n0)) (F0 m 26 ls [.int s0]) := by
  have hx := X.1
  have hb := X.2.1
  unfold f_X6_spreadWith_26 at h
  refine lv_istore_n (lv' := [(2, .int s0), (0, .ref x0), (1, .int x1)]) hx hb dX6_spreadWith_26 rfl hl (by decide) rfl (fun ls hl => ?_)
  refine lv_iconst (v := 0) hx hb dX6_spreadWith_27 (by decide) ?_
  refine lv_istore_n (lv' := [(3, .int 0), (2, .int s0), (0, .ref x0), (1, .int x1)]) hx hb dX6_spreadWith_28 rfl hl (by decide) rfl (fun ls hl => ?_)
  exact b_X6_spreadWith_29 X 5000 hI h (lv_sub hl [2, 3, 1, 0] rfl)
def f_X6_spreadWith (G : gG) (th : Nat) (a1 : Int32) : Option (Int32 × gG) :=
  gb (g_fI G th 5 13) fun v1 =>
  gb (g_fA G th 5 2) fun g2 =>
  gb (g_il G g2 a1) fun v3 =>
  if v1 ≤ v3 then
    gb (g_fA G th 5 2) fun g4 =>
    gb (g_il G g4 a1) fun v5 =>
    f_X6_spreadWith_26 G th a1 v5
  else
  gb (g_fI G th 5 13) fun v6 =>
  f_X6_spreadWith_26 G th a1 v6
theorem gm_X6_spreadWith : g_M yX6_spreadWith cX6_spreadWith 5 (some .int) 1 := ⟨tw_3_186, tw_1_5, by decide +kernel, Or.inl (by decide +kernel)⟩
set_option maxHeartbeats 4000000 in
set_option maxRecDepth 100000 in
theorem c_X6_spreadWith {l : Launch} {E : gE} {G : gG} {n : Nat} {th : Nat} {a1 : Int32} {r : Int32} {Gr : gG} (h : f_X6_spreadWith G th a1 = some (r, Gr)) : g_Met l yX6_spreadWith cX6_spreadWith 5 (some .int) rm_X6_spreadWith E G n [.ref th, .int a1] (some (.int r)) Gr n := by
  refine g_ofW gm_X6_spreadWith (Nat.le_of_ble_eq_true rfl) ?_
  intro p e s m below meth c ls X hl hI
  have hx := X.1
  have hb := X.2.1
  have X : g_X E G n p s m _ meth c cX6_spreadWith 5 RX6 "spreadWith" (some .int) := X
  have hl : lv_has ls 5 [(0, .ref th), (1, .int a1)] := hl
  unfold f_X6_spreadWith at h
  refine lv_aload_n hx hb dX6_spreadWith_0 rfl (lv_at hl 0 rfl) ?_
  obtain ⟨v1, ev1, h⟩ := gb_s h
  refine g_get X hI (g_fI_s ev1) (C := RX6) (T := TX6) (N := 17) rfl gu_X6 (by decide) tw_3_55 dX6_spreadWith_1 ?_
  refine lv_aload_n hx hb dX6_spreadWith_4 rfl (lv_at hl 0 rfl) ?_
  obtain ⟨g2, eg2, h⟩ := gb_s h
  refine g_get X hI (g_fA_s eg2) (C := RX6) (T := TX6) (N := 17) rfl gu_X6 (by decide) tw_3_44 dX6_spreadWith_5 ?_
  refine lv_iload_n hx hb dX6_spreadWith_8 rfl (lv_at hl 1 rfl) ?_
  obtain ⟨v3, ev3, h⟩ := gb_s h
  refine g_iald X hI ev3 dX6_spreadWith_9 ?_
  refine lv_icmp_le (tgt := 20) hx hb dX6_spreadWith_10 (by decide) (fun c => ?_) (fun c => ?_)
  · have h := g_t _ c h
    refine lv_aload_n hx hb dX6_spreadWith_20 rfl (lv_at hl 0 rfl) ?_
    obtain ⟨g4, eg4, h⟩ := gb_s h
    refine g_get X hI (g_fA_s eg4) (C := RX6) (T := TX6) (N := 17) rfl gu_X6 (by decide) tw_3_44 dX6_spreadWith_21 ?_
    refine lv_iload_n hx hb dX6_spreadWith_24 rfl (lv_at hl 1 rfl) ?_
    obtain ⟨v5, ev5, h⟩ := gb_s h
    refine g_iald X hI ev5 dX6_spreadWith_25 ?_
    exact b_X6_spreadWith_26 X hI h (lv_sub hl [0, 1] rfl)
  · have h := g_f _ c h
    refine lv_aload_n hx hb dX6_spreadWith_13 rfl (lv_at hl 0 rfl) ?_
    obtain ⟨v6, ev6, h⟩ := gb_s h
    refine g_get X hI (g_fI_s ev6) (C := RX6) (T := TX6) (N := 17) rfl gu_X6 (by decide) tw_3_55 dX6_spreadWith_14 ?_
    refine lv_goto (tgt := 26) hx hb dX6_spreadWith_17 (by decide) ?_
    exact b_X6_spreadWith_26 X hI h (lv_sub hl [0, 1] rfl)
abbrev rm_X6_at : Room := { frames := 1, cells := 0, slots := 0, locals := 22 }
def f_X6_at_59 (k11 : gG → Nat → Int32 → Int32 → Int32 → Int32 → Int32 → Option Int64) (G : gG) (x0 : Nat) (x1 : Int32) (x3 : Int32) (x4 : Int32) (x6 : Int32) (x7 : Int32) (s0 : Int32) (s1 : Int32) : Option Int64 :=
  gl ((s1 + s0) : Int32) fun v1 =>
  gl ((x4 * x7) : Int32) fun v2 =>
  gb (g_fA G x0 5 12) fun g3 =>
  gb (g_il G g3 x6) fun v4 =>
  gne v4 <|
  gl ((x3 / v4) : Int32) fun v5 =>
  gl (x6 + 1 : Int32) fun v6 =>
  k11 G x0 x1 v5 v2 v1 v6
set_option maxHeartbeats 4000000 in
set_option maxRecDepth 100000 in
theorem b_X6_at_59 {p : Program} {l : Launch} {e : Env} {s : State} {m : MethodId} {args : Array Value} {below : List Frame} {meth : Method} {c : Code} {E : gE} {G0 : gG} {n0 : Nat} (X : g_X E G0 n0 p s m args meth c cX6_at 9 RX6 "at" (some .long)) {G : gG} {n : Nat} {r : Int64} {k11 : gG → Nat → Int32 → Int32 → Int32 → Int32 → Int32 → Option Int64} (hk11 : ∀ {H : Heap} {locs : List Loc} (_ : g_I E (g_A G0 n0) G n s.heap H locs) {x0 : Nat} {x1 : Int32} {x3 : Int32} {x4 : Int32} {x5 : Int32} {x6 : Int32}  (_ : k11 G x0 x1 x3 x4 x5 x6 = some r) {ls : Array Slot} (_ : lv_has ls 9 [(0, .ref x0), (1, .int x1), (3, .int x3), (4, .int x4), (5, .int x5), (6, .int x6)]), W p l e rm_X6_at s m args below meth c H locs 0 0 (MQ below (g_Q E G0 n0 (some (.long r)) G n) args s rm_X6_at.cells rm_X6_at.slots (g_A G0 n0)) (F0 m 11 ls [])) {H : Heap} {locs : List Loc} (hI : g_I E (g_A G0 n0) G n s.heap H locs) {x0 : Nat} {x1 : Int32} {x3 : Int32} {x4 : Int32} {x6 : Int32} {x7 : Int32} {s0 : Int32} {s1 : Int32} (h : f_X6_at_59 k11 G x0 x1 x3 x4 x6 x7 s0 s1 = some r) {ls : Array Slot} (hl : lv_has ls 9 [(0, .ref x0), (1, .int x1), (3, .int x3), (4, .int x4), (6, .int x6), (7, .int x7)]) : W p l e rm_X6_at s m args below meth c H locs 0 0 (MQ below (g_Q E G0 n0 (some (.long r)) G n) args s rm_X6_at.cells rm_X6_at.slots (g_A G0 n0)) (F0 m 59 ls [.int s0, .int s1]) := by
  have hx := X.1
  have hb := X.2.1
  unfold f_X6_at_59 at h
  refine lv_iadd (x := s1) (y := s0) hx hb dX6_at_59 ?_
  obtain ⟨v1, ev1, h⟩ := gl_s h
  refine g_topi ev1 ?_
  refine lv_istore (lv' := [(5, .int v1), (0, .ref x0), (1, .int x1), (3, .int x3), (4, .int x4), (6, .int x6), (7, .int x7)]) hx hb dX6_at_60 hl (by decide) rfl (fun ls hl => ?_)
  refine lv_iload hx hb dX6_at_62 (lv_at hl 4 rfl) ?_
  refine lv_iload hx hb dX6_at_64 (lv_at hl 6 rfl) ?_
  refine lv_imul (x := x4) (y := x7) hx hb dX6_at_66 ?_
  obtain ⟨v2, ev2, h⟩ := gl_s h
  refine g_topi ev2 ?_
  refine lv_istore (lv' := [(4, .int v2), (5, .int v1), (0, .ref x0), (1, .int x1), (3, .int x3), (6, .int x6), (7, .int x7)]) hx hb dX6_at_67 hl (by decide) rfl (fun ls hl => ?_)
  refine lv_iload_n hx hb dX6_at_69 rfl (lv_at hl 4 rfl) ?_
  refine lv_aload_n hx hb dX6_at_70 rfl (lv_at hl 2 rfl) ?_
  obtain ⟨g3, eg3, h⟩ := gb_s h
  refine g_get X hI (g_fA_s eg3) (C := RX6) (T := TX6) (N := 17) rfl gu_X6 (by decide) tw_3_54 dX6_at_71 ?_
  refine lv_iload hx hb dX6_at_74 (lv_at hl 5 rfl) ?_
  obtain ⟨v4, ev4, h⟩ := gb_s h
  refine g_iald X hI ev4 dX6_at_76 ?_
  obtain ⟨cz, h⟩ := gne_s h
  refine lv_idiv hx hb dX6_at_77 cz ?_
  obtain ⟨v5, ev5, h⟩ := gl_s h
  refine g_topi ev5 ?_
  refine lv_istore_n (lv' := [(3, .int v5), (4, .int v2), (5, .int v1), (0, .ref x0), (1, .int x1), (6, .int x6), (7, .int x7)]) hx hb dX6_at_78 rfl hl (by decide) rfl (fun ls hl => ?_)
  obtain ⟨v6, ev6, h⟩ := gl_s h
  refine lv_iinc (v := v6) (lv' := [(6, .int v6), (3, .int v5), (4, .int v2), (5, .int v1), (0, .ref x0), (1, .int x1), (7, .int x7)]) hx hb dX6_at_79 hl (k := 5) rfl (by rw [← ev6]; rfl) (by decide) rfl (fun ls hl => ?_)
  refine lv_goto (tgt := 11) hx hb dX6_at_82 (by decide) ?_
  exact hk11 hI h (lv_sub hl [4, 5, 1, 2, 3, 0] rfl)
def f_X6_at_11 : Nat → gG → Nat → Int32 → Int32 → Int32 → Int32 → Int32 → Option Int64
  | 0, _, _, _, _, _, _, _ => none
  | fu + 1, G, x0, x1, x3, x4, x5, x6 =>
    gb (g_fA G x0 5 2) fun g1 =>
    gb (g_il G g1 x1) fun v2 =>
    if v2 ≤ x6 then
      gb (g_fA G x0 5 6) fun g3 =>
      gb (g_ll G g3 (((240 : Int32) * x1) + x5)) fun v4 =>
      some v4
    else
    gck (g_isO G x0 5) <|
    gb (f_X6_extent G x0 x1 x6) fun r5 =>
    gb (g_fA G x0 5 12) fun g6 =>
    gb (g_il G g6 x6) fun v7 =>
    gne v7 <|
    gl ((g_irem x3 v7) : Int32) fun v8 =>
    if r5 = 1 then
      f_X6_at_59 (f_X6_at_11 fu) G x0 x1 x3 x4 x6 r5 0 x5
    else
    f_X6_at_59 (f_X6_at_11 fu) G x0 x1 x3 x4 x6 r5 (v8 * x4) x5
set_option maxHeartbeats 4000000 in
set_option maxRecDepth 100000 in
theorem b_X6_at_11 {p : Program} {l : Launch} {e : Env} {s : State} {m : MethodId} {args : Array Value} {below : List Frame} {meth : Method} {c : Code} {E : gE} {G0 : gG} {n0 : Nat} (X : g_X E G0 n0 p s m args meth c cX6_at 9 RX6 "at" (some .long)) {G : gG} {n : Nat} {r : Int64} (fu : Nat) : ∀ {H : Heap} {locs : List Loc} (_ : g_I E (g_A G0 n0) G n s.heap H locs) {x0 : Nat} {x1 : Int32} {x3 : Int32} {x4 : Int32} {x5 : Int32} {x6 : Int32} (_ : f_X6_at_11 fu G x0 x1 x3 x4 x5 x6 = some r) {ls : Array Slot} (_ : lv_has ls 9 [(0, .ref x0), (1, .int x1), (3, .int x3), (4, .int x4), (5, .int x5), (6, .int x6)]), W p l e rm_X6_at s m args below meth c H locs 0 0 (MQ below (g_Q E G0 n0 (some (.long r)) G n) args s rm_X6_at.cells rm_X6_at.slots (g_A G0 n0)) (F0 m 11 ls []) := by
  have hx := X.1
  have hb := X.2.1
  induction fu with
  | zero =>
    intro H locs hI x0 x1 x3 x4 x5 x6 h ls hl
    rw [f_X6_at_11] at h
    cases h
  | succ fu ih =>
    intro H locs hI x0 x1 x3 x4 x5 x6 h ls hl
    rw [f_X6_at_11] at h
    refine lv_iload hx hb dX6_at_11 (lv_at hl 5 rfl) ?_
    refine lv_aload_n hx hb dX6_at_13 rfl (lv_at hl 0 rfl) ?_
    obtain ⟨g1, eg1, h⟩ := gb_s h
    refine g_get X hI (g_fA_s eg1) (C := RX6) (T := TX6) (N := 17) rfl gu_X6 (by decide) tw_3_44 dX6_at_14 ?_
    refine lv_iload_n hx hb dX6_at_17 rfl (lv_at hl 1 rfl) ?_
    obtain ⟨v2, ev2, h⟩ := gb_s h
    refine g_iald X hI ev2 dX6_at_18 ?_
    refine lv_icmp_ge (tgt := 85) hx hb dX6_at_19 (by decide) (fun c => ?_) (fun c => ?_)
    · have h := g_t _ c h
      refine lv_aload_n hx hb dX6_at_85 rfl (lv_at hl 0 rfl) ?_
      obtain ⟨g3, eg3, h⟩ := gb_s h
      refine g_get X hI (g_fA_s eg3) (C := RX6) (T := TX6) (N := 17) rfl gu_X6 (by decide) tw_3_48 dX6_at_86 ?_
      refine lv_sipush (v := 240) hx hb dX6_at_89 (by decide) ?_
      refine lv_iload_n hx hb dX6_at_92 rfl (lv_at hl 1 rfl) ?_
      refine lv_imul (x := 240) (y := x1) hx hb dX6_at_93 ?_
      refine lv_iload hx hb dX6_at_94 (lv_at hl 4 rfl) ?_
      refine lv_iadd (x := ((240 : Int32) * x1)) (y := x5) hx hb dX6_at_96 ?_
      obtain ⟨v4, ev4, h⟩ := gb_s h
      refine g_lald X hI ev4 dX6_at_97 ?_
      have h := Option.some.inj h
      subst h
      exact g_lret X hI dX6_at_98
    · have h := g_f _ c h
      refine lv_aload_n hx hb dX6_at_22 rfl (lv_at hl 0 rfl) ?_
      refine lv_iload_n hx hb dX6_at_23 rfl (lv_at hl 1 rfl) ?_
      refine lv_iload hx hb dX6_at_24 (lv_at hl 5 rfl) ?_
      obtain ⟨cO, h⟩ := gck_s h
      obtain ⟨r5, er5, h⟩ := gb_s h
      refine g_callV X hI (q := (RX6, TX6, 17)) (b := x0) (av := [.int x1, .int x6]) cO rfl (c_X6_extent er5) gm_X6_extent tw_3_179 tw_3_181 tw_p_26 ⟨by decide, by decide⟩ hl.1 (rest := []) rfl (Nat.le_of_ble_eq_true rfl) dX6_at_26 ⟨by decide, by decide⟩ (st1 := [.int r5]) rfl (cells' := 0) (slots' := 0) rfl rfl (fun H locs hI => ?_)
      refine lv_istore (lv' := [(7, .int r5), (0, .ref x0), (1, .int x1), (3, .int x3), (4, .int x4), (5, .int x5), (6, .int x6)]) hx hb dX6_at_29 hl (by decide) rfl (fun ls hl => ?_)
      refine lv_iload_n hx hb dX6_at_31 rfl (lv_at hl 3 rfl) ?_
      refine lv_aload_n hx hb dX6_at_32 rfl (lv_at hl 1 rfl) ?_
      obtain ⟨g6, eg6, h⟩ := gb_s h
      refine g_get X hI (g_fA_s eg6) (C := RX6) (T := TX6) (N := 17) rfl gu_X6 (by decide) tw_3_54 dX6_at_33 ?_
      refine lv_iload hx hb dX6_at_36 (lv_at hl 6 rfl) ?_
      obtain ⟨v7, ev7, h⟩ := gb_s h
      refine g_iald X hI ev7 dX6_at_38 ?_
      obtain ⟨cz, h⟩ := gne_s h
      refine lv_irem hx hb dX6_at_39 cz ?_
      obtain ⟨v8, ev8, h⟩ := gl_s h
      refine g_topi ev8 ?_
      refine lv_istore (lv' := [(8, .int v8), (7, .int r5), (0, .ref x0), (1, .int x1), (3, .int x3), (4, .int x4), (5, .int x5), (6, .int x6)]) hx hb dX6_at_40 hl (by decide) rfl (fun ls hl => ?_)
      refine lv_iload hx hb dX6_at_42 (lv_at hl 6 rfl) ?_
      refine lv_iload hx hb dX6_at_44 (lv_at hl 1 rfl) ?_
      refine lv_iconst (v := 1) hx hb dX6_at_46 (by decide) ?_
      refine lv_icmp_ne (tgt := 54) hx hb dX6_at_47 (by decide) (fun c => ?_) (fun c => ?_)
      · have h := g_f _ c h
        refine lv_iload hx hb dX6_at_54 (lv_at hl 0 rfl) ?_
        refine lv_iload hx hb dX6_at_56 (lv_at hl 5 rfl) ?_
        refine lv_imul (x := v8) (y := x4) hx hb dX6_at_58 ?_
        exact b_X6_at_59 X ih hI h (lv_sub hl [2, 3, 4, 5, 7, 1] rfl)
      · have h := g_t _ c h
        refine lv_iconst (v := 0) hx hb dX6_at_50 (by decide) ?_
        refine lv_goto (tgt := 59) hx hb dX6_at_51 (by decide) ?_
        exact b_X6_at_59 X ih hI h (lv_sub hl [2, 3, 4, 5, 7, 1] rfl)
def f_X6_at (G : gG) (th : Nat) (a1 : Int32) (a2 : Int32) : Option Int64 :=
  f_X6_at_11 5000 G th a1 a2 1 0 0
theorem gm_X6_at : g_M yX6_at cX6_at 9 (some .long) 2 := ⟨tw_3_194, tw_1_5, by decide +kernel, Or.inl (by decide +kernel)⟩
set_option maxHeartbeats 4000000 in
set_option maxRecDepth 100000 in
theorem c_X6_at {l : Launch} {E : gE} {G : gG} {n : Nat} {th : Nat} {a1 : Int32} {a2 : Int32} {r : Int64} (h : f_X6_at G th a1 a2 = some r) : g_Met l yX6_at cX6_at 9 (some .long) rm_X6_at E G n [.ref th, .int a1, .int a2] (some (.long r)) G n := by
  refine g_ofW gm_X6_at (Nat.le_of_ble_eq_true rfl) ?_
  intro p e s m below meth c ls X hl hI
  have hx := X.1
  have hb := X.2.1
  have X : g_X E G n p s m _ meth c cX6_at 9 RX6 "at" (some .long) := X
  have hl : lv_has ls 9 [(0, .ref th), (1, .int a1), (2, .int a2)] := hl
  unfold f_X6_at at h
  refine lv_iload_n hx hb dX6_at_0 rfl (lv_at hl 2 rfl) ?_
  refine lv_istore_n (lv' := [(3, .int a2), (0, .ref th), (1, .int a1), (2, .int a2)]) hx hb dX6_at_1 rfl hl (by decide) rfl (fun ls hl => ?_)
  refine lv_iconst (v := 1) hx hb dX6_at_2 (by decide) ?_
  refine lv_istore (lv' := [(4, .int 1), (3, .int a2), (0, .ref th), (1, .int a1), (2, .int a2)]) hx hb dX6_at_3 hl (by decide) rfl (fun ls hl => ?_)
  refine lv_iconst (v := 0) hx hb dX6_at_5 (by decide) ?_
  refine lv_istore (lv' := [(5, .int 0), (4, .int 1), (3, .int a2), (0, .ref th), (1, .int a1), (2, .int a2)]) hx hb dX6_at_6 hl (by decide) rfl (fun ls hl => ?_)
  refine lv_iconst (v := 0) hx hb dX6_at_8 (by decide) ?_
  refine lv_istore (lv' := [(6, .int 0), (5, .int 0), (4, .int 1), (3, .int a2), (0, .ref th), (1, .int a1), (2, .int a2)]) hx hb dX6_at_9 hl (by decide) rfl (fun ls hl => ?_)
  exact b_X6_at_11 X 5000 hI h (lv_sub hl [4, 5, 3, 2, 1, 0] rfl)
abbrev rm_X6_made : Room := { frames := 0, cells := 0, slots := 0, locals := 0 }
def f_X6_made_73 : Nat → gG → Nat → Int32 → Int32 → Option (Int32 × gG)
  | 0, _, _, _, _ => none
  | fu + 1, G, x0, x2, x3 =>
    gb (g_fI G x0 5 14) fun v1 =>
    if v1 ≤ x3 then
      gb (g_fI G x0 5 0) fun v2 =>
      gb (g_sI G x0 5 0 (v2 + 1)) fun G3 =>
      some (x2, G3)
    else
    gb (g_fA G x0 5 6) fun g4 =>
    gb (g_fA G x0 5 7) fun g5 =>
    gb (g_ll G g5 x3) fun v6 =>
    gb (g_ls G g4 (((240 : Int32) * x2) + x3) v6) fun G7 =>
    gl (x3 + 1 : Int32) fun v8 =>
    f_X6_made_73 fu G7 x0 x2 v8
set_option maxHeartbeats 4000000 in
set_option maxRecDepth 100000 in
theorem b_X6_made_73 {p : Program} {l : Launch} {e : Env} {s : State} {m : MethodId} {args : Array Value} {below : List Frame} {meth : Method} {c : Code} {E : gE} {G0 : gG} {n0 : Nat} (X : g_X E G0 n0 p s m args meth c cX6_made 4 RX6 "made" (some .int)) {n : Nat} {r : Int32} {Gr : gG} (fu : Nat) : ∀ {G : gG} {H : Heap} {locs : List Loc} (_ : g_I E (g_A G0 n0) G n s.heap H locs) {x0 : Nat} {x2 : Int32} {x3 : Int32} (_ : f_X6_made_73 fu G x0 x2 x3 = some (r, Gr)) {ls : Array Slot} (_ : lv_has ls 4 [(0, .ref x0), (2, .int x2), (3, .int x3)]), W p l e rm_X6_made s m args below meth c H locs 0 0 (MQ below (g_Q E G0 n0 (some (.int r)) Gr n) args s rm_X6_made.cells rm_X6_made.slots (g_A G0 n0)) (F0 m 73 ls []) := by
  have hx := X.1
  have hb := X.2.1
  induction fu with
  | zero =>
    intro G H locs hI x0 x2 x3 h ls hl
    rw [f_X6_made_73] at h
    cases h
  | succ fu ih =>
    intro G H locs hI x0 x2 x3 h ls hl
    rw [f_X6_made_73] at h
    refine lv_iload_n hx hb dX6_made_73 rfl (lv_at hl 2 rfl) ?_
    refine lv_aload_n hx hb dX6_made_74 rfl (lv_at hl 0 rfl) ?_
    obtain ⟨v1, ev1, h⟩ := gb_s h
    refine g_get X hI (g_fI_s ev1) (C := RX6) (T := TX6) (N := 17) rfl gu_X6 (by decide) tw_3_56 dX6_made_75 ?_
    refine lv_icmp_ge (tgt := 105) hx hb dX6_made_78 (by decide) (fun c => ?_) (fun c => ?_)
    · have h := g_t _ c h
      refine lv_aload_n hx hb dX6_made_105 rfl (lv_at hl 0 rfl) ?_
      refine lv_dup hx hb dX6_made_106 rfl ?_
      obtain ⟨v2, ev2, h⟩ := gb_s h
      refine g_get X hI (g_fI_s ev2) (C := RX6) (T := TX6) (N := 17) rfl gu_X6 (by decide) tw_3_42 dX6_made_107 ?_
      refine lv_iconst (v := 1) hx hb dX6_made_110 (by decide) ?_
      refine lv_iadd (x := v2) (y := 1) hx hb dX6_made_111 ?_
      obtain ⟨G3, eG3, h⟩ := gb_s h
      refine g_put X hI (k := 0) (v := .int (v2 + 1)) (G' := G3) eG3 (C := RX6) (T := TX6) (N := 17) rfl gu_X6 tyX6 tyX6_ok nmX6 (by decide) tw_3_42 rfl rfl rfl dX6_made_112 (fun H locs hI => ?_)
      refine lv_iload_n hx hb dX6_made_115 rfl (lv_at hl 1 rfl) ?_
      obtain ⟨h, h2⟩ := g_sp2 h
      subst h
      subst h2
      exact g_iret X hI dX6_made_116
    · have h := g_f _ c h
      refine lv_aload_n hx hb dX6_made_81 rfl (lv_at hl 0 rfl) ?_
      obtain ⟨g4, eg4, h⟩ := gb_s h
      refine g_get X hI (g_fA_s eg4) (C := RX6) (T := TX6) (N := 17) rfl gu_X6 (by decide) tw_3_48 dX6_made_82 ?_
      refine lv_sipush (v := 240) hx hb dX6_made_85 (by decide) ?_
      refine lv_iload_n hx hb dX6_made_88 rfl (lv_at hl 1 rfl) ?_
      refine lv_imul (x := 240) (y := x2) hx hb dX6_made_89 ?_
      refine lv_iload_n hx hb dX6_made_90 rfl (lv_at hl 2 rfl) ?_
      refine lv_iadd (x := ((240 : Int32) * x2)) (y := x3) hx hb dX6_made_91 ?_
      refine lv_aload_n hx hb dX6_made_92 rfl (lv_at hl 0 rfl) ?_
      obtain ⟨g5, eg5, h⟩ := gb_s h
      refine g_get X hI (g_fA_s eg5) (C := RX6) (T := TX6) (N := 17) rfl gu_X6 (by decide) tw_3_49 dX6_made_93 ?_
      refine lv_iload_n hx hb dX6_made_96 rfl (lv_at hl 2 rfl) ?_
      obtain ⟨v6, ev6, h⟩ := gb_s h
      refine g_lald X hI ev6 dX6_made_97 ?_
      obtain ⟨G7, eG7, h⟩ := gb_s h
      refine g_last X hI (G' := G7) eG7 dX6_made_98 (fun H locs hI => ?_)
      obtain ⟨v8, ev8, h⟩ := gl_s h
      refine lv_iinc (v := v8) (lv' := [(3, .int v8), (0, .ref x0), (2, .int x2)]) hx hb dX6_made_99 hl (k := 2) rfl (by rw [← ev8]; rfl) (by decide) rfl (fun ls hl => ?_)
      refine lv_goto (tgt := 73) hx hb dX6_made_102 (by decide) ?_
      exact ih hI h (lv_sub hl [1, 2, 0] rfl)
def f_X6_made_24 : Nat → gG → Nat → Int32 → Int32 → Option (Int32 × gG)
  | 0, _, _, _, _ => none
  | fu + 1, G, x0, x2, x3 =>
    gb (g_fI G x0 5 13) fun v1 =>
    if v1 ≤ x3 then
      gb (g_fA G x0 5 4) fun g2 =>
      gb (g_fI G x0 5 14) fun v3 =>
      gb (g_is G g2 x2 v3) fun G4 =>
      f_X6_made_73 5000 G4 x0 x2 0
    else
    gb (g_fA G x0 5 3) fun g5 =>
    gb (g_fI G x0 5 13) fun v6 =>
    gb (g_fA G x0 5 12) fun g7 =>
    gb (g_il G g7 x3) fun v8 =>
    gb (g_is G g5 (((((3 : Int32) * x2) + v6) - 1) - x3) v8) fun G9 =>
    gl (x3 + 1 : Int32) fun v10 =>
    f_X6_made_24 fu G9 x0 x2 v10
set_option maxHeartbeats 4000000 in
set_option maxRecDepth 100000 in
theorem b_X6_made_24 {p : Program} {l : Launch} {e : Env} {s : State} {m : MethodId} {args : Array Value} {below : List Frame} {meth : Method} {c : Code} {E : gE} {G0 : gG} {n0 : Nat} (X : g_X E G0 n0 p s m args meth c cX6_made 4 RX6 "made" (some .int)) {n : Nat} {r : Int32} {Gr : gG} (fu : Nat) : ∀ {G : gG} {H : Heap} {locs : List Loc} (_ : g_I E (g_A G0 n0) G n s.heap H locs) {x0 : Nat} {x2 : Int32} {x3 : Int32} (_ : f_X6_made_24 fu G x0 x2 x3 = some (r, Gr)) {ls : Array Slot} (_ : lv_has ls 4 [(0, .ref x0), (2, .int x2), (3, .int x3)]), W p l e rm_X6_made s m args below meth c H locs 0 0 (MQ below (g_Q E G0 n0 (some (.int r)) Gr n) args s rm_X6_made.cells rm_X6_made.slots (g_A G0 n0)) (F0 m 24 ls []) := by
  have hx := X.1
  have hb := X.2.1
  induction fu with
  | zero =>
    intro G H locs hI x0 x2 x3 h ls hl
    rw [f_X6_made_24] at h
    cases h
  | succ fu ih =>
    intro G H locs hI x0 x2 x3 h ls hl
    rw [f_X6_made_24] at h
    refine lv_iload_n hx hb dX6_made_24 rfl (lv_at hl 2 rfl) ?_
    refine lv_aload_n hx hb dX6_made_25 rfl (lv_at hl 0 rfl) ?_
    obtain ⟨v1, ev1, h⟩ := gb_s h
    refine g_get X hI (g_fI_s ev1) (C := RX6) (T := TX6) (N := 17) rfl gu_X6 (by decide) tw_3_55 dX6_made_26 ?_
    refine lv_icmp_ge (tgt := 61) hx hb dX6_made_29 (by decide) (fun c => ?_) (fun c => ?_)
    · have h := g_t _ c h
      refine lv_aload_n hx hb dX6_made_61 rfl (lv_at hl 0 rfl) ?_
      obtain ⟨g2, eg2, h⟩ := gb_s h
      refine g_get X hI (g_fA_s eg2) (C := RX6) (T := TX6) (N := 17) rfl gu_X6 (by decide) tw_3_46 dX6_made_62 ?_
      refine lv_iload_n hx hb dX6_made_65 rfl (lv_at hl 1 rfl) ?_
      refine lv_aload_n hx hb dX6_made_66 rfl (lv_at hl 0 rfl) ?_
      obtain ⟨v3, ev3, h⟩ := gb_s h
      refine g_get X hI (g_fI_s ev3) (C := RX6) (T := TX6) (N := 17) rfl gu_X6 (by decide) tw_3_56 dX6_made_67 ?_
      obtain ⟨G4, eG4, h⟩ := gb_s h
      refine g_iast X hI (G' := G4) eG4 dX6_made_70 (fun H locs hI => ?_)
      refine lv_iconst (v := 0) hx hb dX6_made_71 (by decide) ?_
      refine lv_istore_n (lv' := [(3, .int 0), (0, .ref x0), (2, .int x2)]) hx hb dX6_made_72 rfl hl (by decide) rfl (fun ls hl => ?_)
      exact b_X6_made_73 X 5000 hI h (lv_sub hl [1, 2, 0] rfl)
    · have h := g_f _ c h
      refine lv_aload_n hx hb dX6_made_32 rfl (lv_at hl 0 rfl) ?_
      obtain ⟨g5, eg5, h⟩ := gb_s h
      refine g_get X hI (g_fA_s eg5) (C := RX6) (T := TX6) (N := 17) rfl gu_X6 (by decide) tw_3_45 dX6_made_33 ?_
      refine lv_iconst (v := 3) hx hb dX6_made_36 (by decide) ?_
      refine lv_iload_n hx hb dX6_made_37 rfl (lv_at hl 1 rfl) ?_
      refine lv_imul (x := 3) (y := x2) hx hb dX6_made_38 ?_
      refine lv_aload_n hx hb dX6_made_39 rfl (lv_at hl 0 rfl) ?_
      obtain ⟨v6, ev6, h⟩ := gb_s h
      refine g_get X hI (g_fI_s ev6) (C := RX6) (T := TX6) (N := 17) rfl gu_X6 (by decide) tw_3_55 dX6_made_40 ?_
      refine lv_iadd (x := ((3 : Int32) * x2)) (y := v6) hx hb dX6_made_43 ?_
      refine lv_iconst (v := 1) hx hb dX6_made_44 (by decide) ?_
      refine lv_isub (x := (((3 : Int32) * x2) + v6)) (y := 1) hx hb dX6_made_45 ?_
      refine lv_iload_n hx hb dX6_made_46 rfl (lv_at hl 2 rfl) ?_
      refine lv_isub (x := ((((3 : Int32) * x2) + v6) - 1)) (y := x3) hx hb dX6_made_47 ?_
      refine lv_aload_n hx hb dX6_made_48 rfl (lv_at hl 0 rfl) ?_
      obtain ⟨g7, eg7, h⟩ := gb_s h
      refine g_get X hI (g_fA_s eg7) (C := RX6) (T := TX6) (N := 17) rfl gu_X6 (by decide) tw_3_54 dX6_made_49 ?_
      refine lv_iload_n hx hb dX6_made_52 rfl (lv_at hl 2 rfl) ?_
      obtain ⟨v8, ev8, h⟩ := gb_s h
      refine g_iald X hI ev8 dX6_made_53 ?_
      obtain ⟨G9, eG9, h⟩ := gb_s h
      refine g_iast X hI (G' := G9) eG9 dX6_made_54 (fun H locs hI => ?_)
      obtain ⟨v10, ev10, h⟩ := gl_s h
      refine lv_iinc (v := v10) (lv' := [(3, .int v10), (0, .ref x0), (2, .int x2)]) hx hb dX6_made_55 hl (k := 2) rfl (by rw [← ev10]; rfl) (by decide) rfl (fun ls hl => ?_)
      refine lv_goto (tgt := 24) hx hb dX6_made_58 (by decide) ?_
      exact ih hI h (lv_sub hl [1, 2, 0] rfl)
def f_X6_made (G : gG) (th : Nat) (a1 : Int32) : Option (Int32 × gG) :=
  gb (g_fI G th 5 0) fun v1 =>
  gb (g_fA G th 5 1) fun g2 =>
  gb (g_is G g2 v1 a1) fun G3 =>
  gb (g_fA G3 th 5 2) fun g4 =>
  gb (g_fI G3 th 5 13) fun v5 =>
  gb (g_is G3 g4 v1 v5) fun G6 =>
  f_X6_made_24 5000 G6 th v1 0
theorem gm_X6_made : g_M yX6_made cX6_made 4 (some .int) 1 := ⟨tw_3_106, tw_1_5, by decide +kernel, Or.inl (by decide +kernel)⟩
set_option maxHeartbeats 4000000 in
set_option maxRecDepth 100000 in
theorem c_X6_made {l : Launch} {E : gE} {G : gG} {n : Nat} {th : Nat} {a1 : Int32} {r : Int32} {Gr : gG} (h : f_X6_made G th a1 = some (r, Gr)) : g_Met l yX6_made cX6_made 4 (some .int) rm_X6_made E G n [.ref th, .int a1] (some (.int r)) Gr n := by
  refine g_ofW gm_X6_made (Nat.le_of_ble_eq_true rfl) ?_
  intro p e s m below meth c ls X hl hI
  have hx := X.1
  have hb := X.2.1
  have X : g_X E G n p s m _ meth c cX6_made 4 RX6 "made" (some .int) := X
  have hl : lv_has ls 4 [(0, .ref th), (1, .int a1)] := hl
  unfold f_X6_made at h
  refine lv_aload_n hx hb dX6_made_0 rfl (lv_at hl 0 rfl) ?_
  obtain ⟨v1, ev1, h⟩ := gb_s h
  refine g_get X hI (g_fI_s ev1) (C := RX6) (T := TX6) (N := 17) rfl gu_X6 (by decide) tw_3_42 dX6_made_1 ?_
  refine lv_istore_n (lv' := [(2, .int v1), (0, .ref th), (1, .int a1)]) hx hb dX6_made_4 rfl hl (by decide) rfl (fun ls hl => ?_)
  refine lv_aload_n hx hb dX6_made_5 rfl (lv_at hl 1 rfl) ?_
  obtain ⟨g2, eg2, h⟩ := gb_s h
  refine g_get X hI (g_fA_s eg2) (C := RX6) (T := TX6) (N := 17) rfl gu_X6 (by decide) tw_3_43 dX6_made_6 ?_
  refine lv_iload_n hx hb dX6_made_9 rfl (lv_at hl 0 rfl) ?_
  refine lv_iload_n hx hb dX6_made_10 rfl (lv_at hl 2 rfl) ?_
  obtain ⟨G3, eG3, h⟩ := gb_s h
  refine g_iast X hI (G' := G3) eG3 dX6_made_11 (fun H locs hI => ?_)
  refine lv_aload_n hx hb dX6_made_12 rfl (lv_at hl 1 rfl) ?_
  obtain ⟨g4, eg4, h⟩ := gb_s h
  refine g_get X hI (g_fA_s eg4) (C := RX6) (T := TX6) (N := 17) rfl gu_X6 (by decide) tw_3_44 dX6_made_13 ?_
  refine lv_iload_n hx hb dX6_made_16 rfl (lv_at hl 0 rfl) ?_
  refine lv_aload_n hx hb dX6_made_17 rfl (lv_at hl 1 rfl) ?_
  obtain ⟨v5, ev5, h⟩ := gb_s h
  refine g_get X hI (g_fI_s ev5) (C := RX6) (T := TX6) (N := 17) rfl gu_X6 (by decide) tw_3_55 dX6_made_18 ?_
  obtain ⟨G6, eG6, h⟩ := gb_s h
  refine g_iast X hI (G' := G6) eG6 dX6_made_21 (fun H locs hI => ?_)
  refine lv_iconst (v := 0) hx hb dX6_made_22 (by decide) ?_
  refine lv_istore_n (lv' := [(3, .int 0), (2, .int v1), (0, .ref th), (1, .int a1)]) hx hb dX6_made_23 rfl hl (by decide) rfl (fun ls hl => ?_)
  exact b_X6_made_24 X 5000 hI h (lv_sub hl [2, 1, 0] rfl)
abbrev rm_X6_tensor : Room := { frames := 1, cells := 0, slots := 0, locals := 25 }
def f_X6_tensor (G : gG) (th : Nat) (a1 : Int32) : Option (Int32 × gG) :=
  if (f_X6_in (Int32.toInt64 a1) (0 : Int64) (5 : Int64)) = 0 then
    some ((-1), G)
  else
  gb (g_fI G th 5 0) fun v1 =>
  if v1 = 16 then
    some ((-2), G)
  else
  gb (g_sI G th 5 13 0) fun G2 =>
  gb (g_sI G2 th 5 14 1) fun G3 =>
  gb (g_fA G3 th 5 7) fun g4 =>
  gb (g_ls G3 g4 0 0) fun G5 =>
  gck (g_isO G5 th 5) <|
  gb2 (f_X6_made G5 th a1) fun r6 G7 =>
  some (r6, G7)
theorem gm_X6_tensor : g_M yX6_tensor cX6_tensor 2 (some .int) 1 := ⟨tw_3_98, tw_1_5, by decide +kernel, Or.inl (by decide +kernel)⟩
set_option maxHeartbeats 4000000 in
set_option maxRecDepth 100000 in
theorem c_X6_tensor {l : Launch} {E : gE} {G : gG} {n : Nat} {th : Nat} {a1 : Int32} {r : Int32} {Gr : gG} (h : f_X6_tensor G th a1 = some (r, Gr)) : g_Met l yX6_tensor cX6_tensor 2 (some .int) rm_X6_tensor E G n [.ref th, .int a1] (some (.int r)) Gr n := by
  refine g_ofW gm_X6_tensor (Nat.le_of_ble_eq_true rfl) ?_
  intro p e s m below meth c ls X hl hI
  have hx := X.1
  have hb := X.2.1
  have X : g_X E G n p s m _ meth c cX6_tensor 2 RX6 "tensor" (some .int) := X
  have hl : lv_has ls 2 [(0, .ref th), (1, .int a1)] := hl
  unfold f_X6_tensor at h
  refine lv_iload_n hx hb dX6_tensor_0 rfl (lv_at hl 1 rfl) ?_
  refine lv_i2l (v := (Int32.toInt64 a1)) hx hb dX6_tensor_1 rfl ?_
  refine lv_lconst (v := 0) hx hb dX6_tensor_2 (by decide) ?_
  refine lv_ldc2 (v := 5) hx hb X.2.2.2.1 (X.2.2.2.2.1 _ tw_3_99) dX6_tensor_3 ?_
  refine g_callS X hI (av := [.long (Int32.toInt64 a1), .long 0, .long 5]) (c_X6_in (Int32.toInt64 a1) (0 : Int64) (5 : Int64)) gm_X6_in tw_3_100 tw_3_101 ⟨by decide, by decide⟩ hl.1 (rest := []) rfl (Nat.le_of_ble_eq_true rfl) dX6_tensor_6 ⟨by decide, by decide⟩ (st1 := [.int (f_X6_in (Int32.toInt64 a1) (0 : Int64) (5 : Int64))]) rfl (cells' := 0) (slots' := 0) rfl rfl (fun H locs hI => ?_)
  refine lv_if_ne (tgt := 14) hx hb dX6_tensor_9 (by decide) (fun c => ?_) (fun c => ?_)
  · have h := g_f _ c h
    refine lv_aload_n hx hb dX6_tensor_14 rfl (lv_at hl 0 rfl) ?_
    obtain ⟨v1, ev1, h⟩ := gb_s h
    refine g_get X hI (g_fI_s ev1) (C := RX6) (T := TX6) (N := 17) rfl gu_X6 (by decide) tw_3_42 dX6_tensor_15 ?_
    refine lv_bipush (v := 16) hx hb dX6_tensor_18 (by decide) ?_
    refine lv_icmp_ne (tgt := 26) hx hb dX6_tensor_20 (by decide) (fun c => ?_) (fun c => ?_)
    · have h := g_f _ c h
      refine lv_aload_n hx hb dX6_tensor_26 rfl (lv_at hl 0 rfl) ?_
      refine lv_iconst (v := 0) hx hb dX6_tensor_27 (by decide) ?_
      obtain ⟨G2, eG2, h⟩ := gb_s h
      refine g_put X hI (k := 13) (v := .int 0) (G' := G2) eG2 (C := RX6) (T := TX6) (N := 17) rfl gu_X6 tyX6 tyX6_ok nmX6 (by decide) tw_3_55 rfl rfl rfl dX6_tensor_28 (fun H locs hI => ?_)
      refine lv_aload_n hx hb dX6_tensor_31 rfl (lv_at hl 0 rfl) ?_
      refine lv_iconst (v := 1) hx hb dX6_tensor_32 (by decide) ?_
      obtain ⟨G3, eG3, h⟩ := gb_s h
      refine g_put X hI (k := 14) (v := .int 1) (G' := G3) eG3 (C := RX6) (T := TX6) (N := 17) rfl gu_X6 tyX6 tyX6_ok nmX6 (by decide) tw_3_56 rfl rfl rfl dX6_tensor_33 (fun H locs hI => ?_)
      refine lv_aload_n hx hb dX6_tensor_36 rfl (lv_at hl 0 rfl) ?_
      obtain ⟨g4, eg4, h⟩ := gb_s h
      refine g_get X hI (g_fA_s eg4) (C := RX6) (T := TX6) (N := 17) rfl gu_X6 (by decide) tw_3_49 dX6_tensor_37 ?_
      refine lv_iconst (v := 0) hx hb dX6_tensor_40 (by decide) ?_
      refine lv_lconst (v := 0) hx hb dX6_tensor_41 (by decide) ?_
      obtain ⟨G5, eG5, h⟩ := gb_s h
      refine g_last X hI (G' := G5) eG5 dX6_tensor_42 (fun H locs hI => ?_)
      refine lv_aload_n hx hb dX6_tensor_43 rfl (lv_at hl 0 rfl) ?_
      refine lv_iload_n hx hb dX6_tensor_44 rfl (lv_at hl 1 rfl) ?_
      obtain ⟨cO, h⟩ := gck_s h
      obtain ⟨r6, G7, er6, h⟩ := gb2_s h
      refine g_callV X hI (q := (RX6, TX6, 17)) (b := th) (av := [.int a1]) cO rfl (c_X6_made er6) gm_X6_made tw_3_103 tw_3_105 tw_p_20 ⟨by decide, by decide⟩ hl.1 (rest := []) rfl (Nat.le_of_ble_eq_true rfl) dX6_tensor_45 ⟨by decide, by decide⟩ (st1 := [.int r6]) rfl (cells' := 0) (slots' := 0) rfl rfl (fun H locs hI => ?_)
      obtain ⟨h, h2⟩ := g_sp2 h
      subst h
      subst h2
      exact g_iret X hI dX6_tensor_48
    · have h := g_t _ c h
      refine lv_bipush (v := (-2)) hx hb dX6_tensor_23 (by decide) ?_
      obtain ⟨h, h2⟩ := g_sp2 h
      subst h
      subst h2
      exact g_iret X hI dX6_tensor_25
  · have h := g_t _ c h
    refine lv_iconst (v := (-1)) hx hb dX6_tensor_12 (by decide) ?_
    obtain ⟨h, h2⟩ := g_sp2 h
    subst h
    subst h2
    exact g_iret X hI dX6_tensor_13
abbrev rm_X6_shaped : Room := { frames := 1, cells := 0, slots := 0, locals := 25 }
def f_X6_shaped_216 : Nat → gG → Nat → Int32 → Int32 → Int32 → Option (Int32 × gG)
  | 0, _, _, _, _, _ => none
  | fu + 1, G, x0, x1, x6, x7 =>
    if x6 ≤ x7 then
      gck (g_isO G x0 5) <|
      gb2 (f_X6_made G x0 x1) fun r1 G2 =>
      some (r1, G2)
    else
    gb (g_fA G x0 5 7) fun g3 =>
    gb (g_ls G g3 x7 0) fun G4 =>
    gl (x7 + 1 : Int32) fun v5 =>
    f_X6_shaped_216 fu G4 x0 x1 x6 v5
set_option maxHeartbeats 4000000 in
set_option maxRecDepth 100000 in
theorem b_X6_shaped_216 {p : Program} {l : Launch} {e : Env} {s : State} {m : MethodId} {args : Array Value} {below : List Frame} {meth : Method} {c : Code} {E : gE} {G0 : gG} {n0 : Nat} (X : g_X E G0 n0 p s m args meth c cX6_shaped 8 RX6 "shaped" (some .int)) {n : Nat} {r : Int32} {Gr : gG} (fu : Nat) : ∀ {G : gG} {H : Heap} {locs : List Loc} (_ : g_I E (g_A G0 n0) G n s.heap H locs) {x0 : Nat} {x1 : Int32} {x6 : Int32} {x7 : Int32} (_ : f_X6_shaped_216 fu G x0 x1 x6 x7 = some (r, Gr)) {ls : Array Slot} (_ : lv_has ls 8 [(0, .ref x0), (1, .int x1), (6, .int x6), (7, .int x7)]), W p l e rm_X6_shaped s m args below meth c H locs 0 0 (MQ below (g_Q E G0 n0 (some (.int r)) Gr n) args s rm_X6_shaped.cells rm_X6_shaped.slots (g_A G0 n0)) (F0 m 216 ls []) := by
  have hx := X.1
  have hb := X.2.1
  induction fu with
  | zero =>
    intro G H locs hI x0 x1 x6 x7 h ls hl
    rw [f_X6_shaped_216] at h
    cases h
  | succ fu ih =>
    intro G H locs hI x0 x1 x6 x7 h ls hl
    rw [f_X6_shaped_216] at h
    refine lv_iload hx hb dX6_shaped_216 (lv_at hl 3 rfl) ?_
    refine lv_iload hx hb dX6_shaped_218 (lv_at hl 2 rfl) ?_
    refine lv_icmp_ge (tgt := 237) hx hb dX6_shaped_220 (by decide) (fun c => ?_) (fun c => ?_)
    · have h := g_t _ c h
      refine lv_aload_n hx hb dX6_shaped_237 rfl (lv_at hl 0 rfl) ?_
      refine lv_iload_n hx hb dX6_shaped_238 rfl (lv_at hl 1 rfl) ?_
      obtain ⟨cO, h⟩ := gck_s h
      obtain ⟨r1, G2, er1, h⟩ := gb2_s h
      refine g_callV X hI (q := (RX6, TX6, 17)) (b := x0) (av := [.int x1]) cO rfl (c_X6_made er1) gm_X6_made tw_3_103 tw_3_105 tw_p_20 ⟨by decide, by decide⟩ hl.1 (rest := []) rfl (Nat.le_of_ble_eq_true rfl) dX6_shaped_239 ⟨by decide, by decide⟩ (st1 := [.int r1]) rfl (cells' := 0) (slots' := 0) rfl rfl (fun H locs hI => ?_)
      obtain ⟨h, h2⟩ := g_sp2 h
      subst h
      subst h2
      exact g_iret X hI dX6_shaped_242
    · have h := g_f _ c h
      refine lv_aload_n hx hb dX6_shaped_223 rfl (lv_at hl 0 rfl) ?_
      obtain ⟨g3, eg3, h⟩ := gb_s h
      refine g_get X hI (g_fA_s eg3) (C := RX6) (T := TX6) (N := 17) rfl gu_X6 (by decide) tw_3_49 dX6_shaped_224 ?_
      refine lv_iload hx hb dX6_shaped_227 (lv_at hl 3 rfl) ?_
      refine lv_lconst (v := 0) hx hb dX6_shaped_229 (by decide) ?_
      obtain ⟨G4, eG4, h⟩ := gb_s h
      refine g_last X hI (G' := G4) eG4 dX6_shaped_230 (fun H locs hI => ?_)
      obtain ⟨v5, ev5, h⟩ := gl_s h
      refine lv_iinc (v := v5) (lv' := [(7, .int v5), (0, .ref x0), (1, .int x1), (6, .int x6)]) hx hb dX6_shaped_231 hl (k := 3) rfl (by rw [← ev5]; rfl) (by decide) rfl (fun ls hl => ?_)
      refine lv_goto (tgt := 216) hx hb dX6_shaped_234 (by decide) ?_
      exact ih hI h (lv_sub hl [1, 2, 3, 0] rfl)
def f_X6_shaped_207 (G : gG) (x0 : Nat) (x1 : Int32) (x6 : Int32) : Option (Int32 × gG) :=
  gb (g_sI G x0 5 14 x6) fun G1 =>
  f_X6_shaped_216 5000 G1 x0 x1 x6 0
set_option maxHeartbeats 4000000 in
set_option maxRecDepth 100000 in
theorem b_X6_shaped_207 {p : Program} {l : Launch} {e : Env} {s : State} {m : MethodId} {args : Array Value} {below : List Frame} {meth : Method} {c : Code} {E : gE} {G0 : gG} {n0 : Nat} (X : g_X E G0 n0 p s m args meth c cX6_shaped 8 RX6 "shaped" (some .int)) {G : gG} {n : Nat} {r : Int32} {Gr : gG} {H : Heap} {locs : List Loc} (hI : g_I E (g_A G0 n0) G n s.heap H locs) {x0 : Nat} {x1 : Int32} {x6 : Int32} (h : f_X6_shaped_207 G x0 x1 x6 = some (r, Gr)) {ls : Array Slot} (hl : lv_has ls 8 [(0, .ref x0), (1, .int x1), (6, .int x6)]) : W p l e rm_X6_shaped s m args below meth c H locs 0 0 (MQ below (g_Q E G0 n0 (some (.int r)) Gr n) args s rm_X6_shaped.cells rm_X6_shaped.slots (g_A G0 n0)) (F0 m 207 ls []) := by
  have hx := X.1
  have hb := X.2.1
  unfold f_X6_shaped_207 at h
  refine lv_aload_n hx hb dX6_shaped_207 rfl (lv_at hl 0 rfl) ?_
  refine lv_iload hx hb dX6_shaped_208 (lv_at hl 2 rfl) ?_
  obtain ⟨G1, eG1, h⟩ := gb_s h
  refine g_put X hI (k := 14) (v := .int x6) (G' := G1) eG1 (C := RX6) (T := TX6) (N := 17) rfl gu_X6 tyX6 tyX6_ok nmX6 (by decide) tw_3_56 rfl rfl rfl dX6_shaped_210 (fun H locs hI => ?_)
  refine lv_iconst (v := 0) hx hb dX6_shaped_213 (by decide) ?_
  refine lv_istore (lv' := [(7, .int 0), (0, .ref x0), (1, .int x1), (6, .int x6)]) hx hb dX6_shaped_214 hl (by decide) rfl (fun ls hl => ?_)
  exact b_X6_shaped_216 X 5000 hI h (lv_sub hl [1, 2, 3, 0] rfl)
def f_X6_shaped_193 (G : gG) (x0 : Nat) (x1 : Int32) (x4 : Int32) (x5 : Int32) (x6 : Int32) : Option (Int32 × gG) :=
  if x5 ≤ 2 then
    f_X6_shaped_207 G x0 x1 x6
  else
  gb (g_fA G x0 5 12) fun g1 =>
  gb (g_is G g1 0 x4) fun G2 =>
  f_X6_shaped_207 G2 x0 x1 x6
set_option maxHeartbeats 4000000 in
set_option maxRecDepth 100000 in
theorem b_X6_shaped_193 {p : Program} {l : Launch} {e : Env} {s : State} {m : MethodId} {args : Array Value} {below : List Frame} {meth : Method} {c : Code} {E : gE} {G0 : gG} {n0 : Nat} (X : g_X E G0 n0 p s m args meth c cX6_shaped 8 RX6 "shaped" (some .int)) {G : gG} {n : Nat} {r : Int32} {Gr : gG} {H : Heap} {locs : List Loc} (hI : g_I E (g_A G0 n0) G n s.heap H locs) {x0 : Nat} {x1 : Int32} {x4 : Int32} {x5 : Int32} {x6 : Int32} (h : f_X6_shaped_193 G x0 x1 x4 x5 x6 = some (r, Gr)) {ls : Array Slot} (hl : lv_has ls 8 [(0, .ref x0), (1, .int x1), (4, .int x4), (5, .int x5), (6, .int x6)]) : W p l e rm_X6_shaped s m args below meth c H locs 0 0 (MQ below (g_Q E G0 n0 (some (.int r)) Gr n) args s rm_X6_shaped.cells rm_X6_shaped.slots (g_A G0 n0)) (F0 m 193 ls []) := by
  have hx := X.1
  have hb := X.2.1
  unfold f_X6_shaped_193 at h
  refine lv_iload hx hb dX6_shaped_193 (lv_at hl 3 rfl) ?_
  refine lv_iconst (v := 2) hx hb dX6_shaped_195 (by decide) ?_
  refine lv_icmp_le (tgt := 207) hx hb dX6_shaped_196 (by decide) (fun c => ?_) (fun c => ?_)
  · have h := g_t _ c h
    exact b_X6_shaped_207 X hI h (lv_sub hl [0, 1, 4] rfl)
  · have h := g_f _ c h
    refine lv_aload_n hx hb dX6_shaped_199 rfl (lv_at hl 0 rfl) ?_
    obtain ⟨g1, eg1, h⟩ := gb_s h
    refine g_get X hI (g_fA_s eg1) (C := RX6) (T := TX6) (N := 17) rfl gu_X6 (by decide) tw_3_54 dX6_shaped_200 ?_
    refine lv_iconst (v := 0) hx hb dX6_shaped_203 (by decide) ?_
    refine lv_iload hx hb dX6_shaped_204 (lv_at hl 2 rfl) ?_
    obtain ⟨G2, eG2, h⟩ := gb_s h
    refine g_iast X hI (G' := G2) eG2 dX6_shaped_206 (fun H locs hI => ?_)
    exact b_X6_shaped_207 X hI h (lv_sub hl [0, 1, 4] rfl)
def f_X6_shaped_141 (G : gG) (x0 : Nat) (x1 : Int32) (x2 : Int32) (x3 : Int32) (x4 : Int32) (x5 : Int32) (s0 : Int32) (s1 : Int32) : Option (Int32 × gG) :=
  gl ((s1 * s0) : Int32) fun v1 =>
  if v1 ≤ 240 then
    gb (g_sI G x0 5 13 x5) fun G2 =>
    gb (g_fA G2 x0 5 12) fun g3 =>
    gb (g_is G2 g3 (x5 - 1) x2) fun G4 =>
    if x5 ≤ 1 then
      f_X6_shaped_193 G4 x0 x1 x4 x5 v1
    else
    gb (g_fA G4 x0 5 12) fun g5 =>
    gb (g_is G4 g5 (x5 - 2) x3) fun G6 =>
    f_X6_shaped_193 G6 x0 x1 x4 x5 v1
  else
  gck (g_isO G x0 5) <|
  gb2 (f_X6_fails G x0 (6 : Int32) (-3 : Int32)) fun r7 G8 =>
  some (r7, G8)
set_option maxHeartbeats 4000000 in
set_option maxRecDepth 100000 in
theorem b_X6_shaped_141 {p : Program} {l : Launch} {e : Env} {s : State} {m : MethodId} {args : Array Value} {below : List Frame} {meth : Method} {c : Code} {E : gE} {G0 : gG} {n0 : Nat} (X : g_X E G0 n0 p s m args meth c cX6_shaped 8 RX6 "shaped" (some .int)) {G : gG} {n : Nat} {r : Int32} {Gr : gG} {H : Heap} {locs : List Loc} (hI : g_I E (g_A G0 n0) G n s.heap H locs) {x0 : Nat} {x1 : Int32} {x2 : Int32} {x3 : Int32} {x4 : Int32} {x5 : Int32} {s0 : Int32} {s1 : Int32} (h : f_X6_shaped_141 G x0 x1 x2 x3 x4 x5 s0 s1 = some (r, Gr)) {ls : Array Slot} (hl : lv_has ls 8 [(0, .ref x0), (1, .int x1), (2, .int x2), (3, .int x3), (4, .int x4), (5, .int x5)]) : W p l e rm_X6_shaped s m args below meth c H locs 0 0 (MQ below (g_Q E G0 n0 (some (.int r)) Gr n) args s rm_X6_shaped.cells rm_X6_shaped.slots (g_A G0 n0)) (F0 m 141 ls [.int s0, .int s1]) := by
  have hx := X.1
  have hb := X.2.1
  unfold f_X6_shaped_141 at h
  refine lv_imul (x := s1) (y := s0) hx hb dX6_shaped_141 ?_
  obtain ⟨v1, ev1, h⟩ := gl_s h
  refine g_topi ev1 ?_
  refine lv_istore (lv' := [(6, .int v1), (0, .ref x0), (1, .int x1), (2, .int x2), (3, .int x3), (4, .int x4), (5, .int x5)]) hx hb dX6_shaped_142 hl (by decide) rfl (fun ls hl => ?_)
  refine lv_iload hx hb dX6_shaped_144 (lv_at hl 0 rfl) ?_
  refine lv_sipush (v := 240) hx hb dX6_shaped_146 (by decide) ?_
  refine lv_icmp_le (tgt := 161) hx hb dX6_shaped_149 (by decide) (fun c => ?_) (fun c => ?_)
  · have h := g_t _ c h
    refine lv_aload_n hx hb dX6_shaped_161 rfl (lv_at hl 1 rfl) ?_
    refine lv_iload hx hb dX6_shaped_162 (lv_at hl 6 rfl) ?_
    obtain ⟨G2, eG2, h⟩ := gb_s h
    refine g_put X hI (k := 13) (v := .int x5) (G' := G2) eG2 (C := RX6) (T := TX6) (N := 17) rfl gu_X6 tyX6 tyX6_ok nmX6 (by decide) tw_3_55 rfl rfl rfl dX6_shaped_164 (fun H locs hI => ?_)
    refine lv_aload_n hx hb dX6_shaped_167 rfl (lv_at hl 1 rfl) ?_
    obtain ⟨g3, eg3, h⟩ := gb_s h
    refine g_get X hI (g_fA_s eg3) (C := RX6) (T := TX6) (N := 17) rfl gu_X6 (by decide) tw_3_54 dX6_shaped_168 ?_
    refine lv_iload hx hb dX6_shaped_171 (lv_at hl 6 rfl) ?_
    refine lv_iconst (v := 1) hx hb dX6_shaped_173 (by decide) ?_
    refine lv_isub (x := x5) (y := 1) hx hb dX6_shaped_174 ?_
    refine lv_iload_n hx hb dX6_shaped_175 rfl (lv_at hl 3 rfl) ?_
    obtain ⟨G4, eG4, h⟩ := gb_s h
    refine g_iast X hI (G' := G4) eG4 dX6_shaped_176 (fun H locs hI => ?_)
    refine lv_iload hx hb dX6_shaped_177 (lv_at hl 6 rfl) ?_
    refine lv_iconst (v := 1) hx hb dX6_shaped_179 (by decide) ?_
    refine lv_icmp_le (tgt := 193) hx hb dX6_shaped_180 (by decide) (fun c => ?_) (fun c => ?_)
    · have h := g_t _ c h
      exact b_X6_shaped_193 X hI h (lv_sub hl [1, 2, 5, 6, 0] rfl)
    · have h := g_f _ c h
      refine lv_aload_n hx hb dX6_shaped_183 rfl (lv_at hl 1 rfl) ?_
      obtain ⟨g5, eg5, h⟩ := gb_s h
      refine g_get X hI (g_fA_s eg5) (C := RX6) (T := TX6) (N := 17) rfl gu_X6 (by decide) tw_3_54 dX6_shaped_184 ?_
      refine lv_iload hx hb dX6_shaped_187 (lv_at hl 6 rfl) ?_
      refine lv_iconst (v := 2) hx hb dX6_shaped_189 (by decide) ?_
      refine lv_isub (x := x5) (y := 2) hx hb dX6_shaped_190 ?_
      refine lv_iload_n hx hb dX6_shaped_191 rfl (lv_at hl 4 rfl) ?_
      obtain ⟨G6, eG6, h⟩ := gb_s h
      refine g_iast X hI (G' := G6) eG6 dX6_shaped_192 (fun H locs hI => ?_)
      exact b_X6_shaped_193 X hI h (lv_sub hl [1, 2, 5, 6, 0] rfl)
  · have h := g_f _ c h
    refine lv_aload_n hx hb dX6_shaped_152 rfl (lv_at hl 1 rfl) ?_
    refine lv_bipush (v := 6) hx hb dX6_shaped_153 (by decide) ?_
    refine lv_bipush (v := (-3)) hx hb dX6_shaped_155 (by decide) ?_
    obtain ⟨cO, h⟩ := gck_s h
    obtain ⟨r7, G8, er7, h⟩ := gb2_s h
    refine g_callV X hI (q := (RX6, TX6, 17)) (b := x0) (av := [.int 6, .int (-3)]) cO rfl (c_X6_fails er7) gm_X6_fails tw_3_111 tw_3_113 tw_p_21 ⟨by decide, by decide⟩ hl.1 (rest := []) rfl (Nat.le_of_ble_eq_true rfl) dX6_shaped_157 ⟨by decide, by decide⟩ (st1 := [.int r7]) rfl (cells' := 0) (slots' := 0) rfl rfl (fun H locs hI => ?_)
    obtain ⟨h, h2⟩ := g_sp2 h
    subst h
    subst h2
    exact g_iret X hI dX6_shaped_160
def f_X6_shaped_128 (G : gG) (x0 : Nat) (x1 : Int32) (x2 : Int32) (x3 : Int32) (x4 : Int32) (x5 : Int32) (s0 : Int32) (s1 : Int32) : Option (Int32 × gG) :=
  if x5 ≤ 2 then
    f_X6_shaped_141 G x0 x1 x2 x3 x4 x5 1 (s1 * s0)
  else
  f_X6_shaped_141 G x0 x1 x2 x3 x4 x5 x4 (s1 * s0)
set_option maxHeartbeats 4000000 in
set_option maxRecDepth 100000 in
theorem b_X6_shaped_128 {p : Program} {l : Launch} {e : Env} {s : State} {m : MethodId} {args : Array Value} {below : List Frame} {meth : Method} {c : Code} {E : gE} {G0 : gG} {n0 : Nat} (X : g_X E G0 n0 p s m args meth c cX6_shaped 8 RX6 "shaped" (some .int)) {G : gG} {n : Nat} {r : Int32} {Gr : gG} {H : Heap} {locs : List Loc} (hI : g_I E (g_A G0 n0) G n s.heap H locs) {x0 : Nat} {x1 : Int32} {x2 : Int32} {x3 : Int32} {x4 : Int32} {x5 : Int32} {s0 : Int32} {s1 : Int32} (h : f_X6_shaped_128 G x0 x1 x2 x3 x4 x5 s0 s1 = some (r, Gr)) {ls : Array Slot} (hl : lv_has ls 8 [(0, .ref x0), (1, .int x1), (2, .int x2), (3, .int x3), (4, .int x4), (5, .int x5)]) : W p l e rm_X6_shaped s m args below meth c H locs 0 0 (MQ below (g_Q E G0 n0 (some (.int r)) Gr n) args s rm_X6_shaped.cells rm_X6_shaped.slots (g_A G0 n0)) (F0 m 128 ls [.int s0, .int s1]) := by
  have hx := X.1
  have hb := X.2.1
  unfold f_X6_shaped_128 at h
  refine lv_imul (x := s1) (y := s0) hx hb dX6_shaped_128 ?_
  refine lv_iload hx hb dX6_shaped_129 (lv_at hl 5 rfl) ?_
  refine lv_iconst (v := 2) hx hb dX6_shaped_131 (by decide) ?_
  refine lv_icmp_le (tgt := 140) hx hb dX6_shaped_132 (by decide) (fun c => ?_) (fun c => ?_)
  · have h := g_t _ c h
    refine lv_iconst (v := 1) hx hb dX6_shaped_140 (by decide) ?_
    exact b_X6_shaped_141 X hI h (lv_sub hl [0, 1, 2, 3, 4, 5] rfl)
  · have h := g_f _ c h
    refine lv_iload hx hb dX6_shaped_135 (lv_at hl 4 rfl) ?_
    refine lv_goto (tgt := 141) hx hb dX6_shaped_137 (by decide) ?_
    exact b_X6_shaped_141 X hI h (lv_sub hl [0, 1, 2, 3, 4, 5] rfl)
def f_X6_shaped_114 (G : gG) (x0 : Nat) (x1 : Int32) (x2 : Int32) (x3 : Int32) (x4 : Int32) (s0 : Int32) : Option (Int32 × gG) :=
  if s0 ≤ 1 then
    f_X6_shaped_128 G x0 x1 x2 x3 x4 s0 1 x2
  else
  f_X6_shaped_128 G x0 x1 x2 x3 x4 s0 x3 x2
set_option maxHeartbeats 4000000 in
set_option maxRecDepth 100000 in
theorem b_X6_shaped_114 {p : Program} {l : Launch} {e : Env} {s : State} {m : MethodId} {args : Array Value} {below : List Frame} {meth : Method} {c : Code} {E : gE} {G0 : gG} {n0 : Nat} (X : g_X E G0 n0 p s m args meth c cX6_shaped 8 RX6 "shaped" (some .int)) {G : gG} {n : Nat} {r : Int32} {Gr : gG} {H : Heap} {locs : List Loc} (hI : g_I E (g_A G0 n0) G n s.heap H locs) {x0 : Nat} {x1 : Int32} {x2 : Int32} {x3 : Int32} {x4 : Int32} {s0 : Int32} (h : f_X6_shaped_114 G x0 x1 x2 x3 x4 s0 = some (r, Gr)) {ls : Array Slot} (hl : lv_has ls 8 [(0, .ref x0), (1, .int x1), (2, .int x2), (3, .int x3), (4, .int x4)]) : W p l e rm_X6_shaped s m args below meth c H locs 0 0 (MQ below (g_Q E G0 n0 (some (.int r)) Gr n) args s rm_X6_shaped.cells rm_X6_shaped.slots (g_A G0 n0)) (F0 m 114 ls [.int s0]) := by
  have hx := X.1
  have hb := X.2.1
  unfold f_X6_shaped_114 at h
  refine lv_istore (lv' := [(5, .int s0), (0, .ref x0), (1, .int x1), (2, .int x2), (3, .int x3), (4, .int x4)]) hx hb dX6_shaped_114 hl (by decide) rfl (fun ls hl => ?_)
  refine lv_iload_n hx hb dX6_shaped_116 rfl (lv_at hl 3 rfl) ?_
  refine lv_iload hx hb dX6_shaped_117 (lv_at hl 0 rfl) ?_
  refine lv_iconst (v := 1) hx hb dX6_shaped_119 (by decide) ?_
  refine lv_icmp_le (tgt := 127) hx hb dX6_shaped_120 (by decide) (fun c => ?_) (fun c => ?_)
  · have h := g_t _ c h
    refine lv_iconst (v := 1) hx hb dX6_shaped_127 (by decide) ?_
    exact b_X6_shaped_128 X hI h (lv_sub hl [1, 2, 3, 4, 5, 0] rfl)
  · have h := g_f _ c h
    refine lv_iload_n hx hb dX6_shaped_123 rfl (lv_at hl 4 rfl) ?_
    refine lv_goto (tgt := 128) hx hb dX6_shaped_124 (by decide) ?_
    exact b_X6_shaped_128 X hI h (lv_sub hl [1, 2, 3, 4, 5, 0] rfl)
def f_X6_shaped_92 (G : gG) (x0 : Nat) (x1 : Int32) (x2 : Int32) (x3 : Int32) (x4 : Int32) : Option (Int32 × gG) :=
  if x3 = (-3) then
    f_X6_shaped_114 G x0 x1 x2 x3 x4 1
  else
  if x4 = (-3) then
    f_X6_shaped_114 G x0 x1 x2 x3 x4 2
  else
  f_X6_shaped_114 G x0 x1 x2 x3 x4 3
set_option maxHeartbeats 4000000 in
set_option maxRecDepth 100000 in
theorem b_X6_shaped_92 {p : Program} {l : Launch} {e : Env} {s : State} {m : MethodId} {args : Array Value} {below : List Frame} {meth : Method} {c : Code} {E : gE} {G0 : gG} {n0 : Nat} (X : g_X E G0 n0 p s m args meth c cX6_shaped 8 RX6 "shaped" (some .int)) {G : gG} {n : Nat} {r : Int32} {Gr : gG} {H : Heap} {locs : List Loc} (hI : g_I E (g_A G0 n0) G n s.heap H locs) {x0 : Nat} {x1 : Int32} {x2 : Int32} {x3 : Int32} {x4 : Int32} (h : f_X6_shaped_92 G x0 x1 x2 x3 x4 = some (r, Gr)) {ls : Array Slot} (hl : lv_has ls 8 [(0, .ref x0), (1, .int x1), (2, .int x2), (3, .int x3), (4, .int x4)]) : W p l e rm_X6_shaped s m args below meth c H locs 0 0 (MQ below (g_Q E G0 n0 (some (.int r)) Gr n) args s rm_X6_shaped.cells rm_X6_shaped.slots (g_A G0 n0)) (F0 m 92 ls []) := by
  have hx := X.1
  have hb := X.2.1
  unfold f_X6_shaped_92 at h
  refine lv_iload_n hx hb dX6_shaped_92 rfl (lv_at hl 3 rfl) ?_
  refine lv_bipush (v := (-3)) hx hb dX6_shaped_93 (by decide) ?_
  refine lv_icmp_ne (tgt := 102) hx hb dX6_shaped_95 (by decide) (fun c => ?_) (fun c => ?_)
  · have h := g_f _ c h
    refine lv_iload hx hb dX6_shaped_102 (lv_at hl 4 rfl) ?_
    refine lv_bipush (v := (-3)) hx hb dX6_shaped_104 (by decide) ?_
    refine lv_icmp_ne (tgt := 113) hx hb dX6_shaped_106 (by decide) (fun c => ?_) (fun c => ?_)
    · have h := g_f _ c h
      refine lv_iconst (v := 3) hx hb dX6_shaped_113 (by decide) ?_
      exact b_X6_shaped_114 X hI h (lv_sub hl [0, 1, 2, 3, 4] rfl)
    · have h := g_t _ c h
      refine lv_iconst (v := 2) hx hb dX6_shaped_109 (by decide) ?_
      refine lv_goto (tgt := 114) hx hb dX6_shaped_110 (by decide) ?_
      exact b_X6_shaped_114 X hI h (lv_sub hl [0, 1, 2, 3, 4] rfl)
  · have h := g_t _ c h
    refine lv_iconst (v := 1) hx hb dX6_shaped_98 (by decide) ?_
    refine lv_goto (tgt := 114) hx hb dX6_shaped_99 (by decide) ?_
    exact b_X6_shaped_114 X hI h (lv_sub hl [0, 1, 2, 3, 4] rfl)
def f_X6_shaped_84 (G : gG) (x0 : Nat) : Option (Int32 × gG) :=
  gck (g_isO G x0 5) <|
  gb2 (f_X6_fails G x0 (3 : Int32) (-3 : Int32)) fun r1 G2 =>
  some (r1, G2)
set_option maxHeartbeats 4000000 in
set_option maxRecDepth 100000 in
theorem b_X6_shaped_84 {p : Program} {l : Launch} {e : Env} {s : State} {m : MethodId} {args : Array Value} {below : List Frame} {meth : Method} {c : Code} {E : gE} {G0 : gG} {n0 : Nat} (X : g_X E G0 n0 p s m args meth c cX6_shaped 8 RX6 "shaped" (some .int)) {G : gG} {n : Nat} {r : Int32} {Gr : gG} {H : Heap} {locs : List Loc} (hI : g_I E (g_A G0 n0) G n s.heap H locs) {x0 : Nat} (h : f_X6_shaped_84 G x0 = some (r, Gr)) {ls : Array Slot} (hl : lv_has ls 8 [(0, .ref x0)]) : W p l e rm_X6_shaped s m args below meth c H locs 0 0 (MQ below (g_Q E G0 n0 (some (.int r)) Gr n) args s rm_X6_shaped.cells rm_X6_shaped.slots (g_A G0 n0)) (F0 m 84 ls []) := by
  have hx := X.1
  have hb := X.2.1
  unfold f_X6_shaped_84 at h
  refine lv_aload_n hx hb dX6_shaped_84 rfl (lv_at hl 0 rfl) ?_
  refine lv_iconst (v := 3) hx hb dX6_shaped_85 (by decide) ?_
  refine lv_bipush (v := (-3)) hx hb dX6_shaped_86 (by decide) ?_
  obtain ⟨cO, h⟩ := gck_s h
  obtain ⟨r1, G2, er1, h⟩ := gb2_s h
  refine g_callV X hI (q := (RX6, TX6, 17)) (b := x0) (av := [.int 3, .int (-3)]) cO rfl (c_X6_fails er1) gm_X6_fails tw_3_111 tw_3_113 tw_p_21 ⟨by decide, by decide⟩ hl.1 (rest := []) rfl (Nat.le_of_ble_eq_true rfl) dX6_shaped_88 ⟨by decide, by decide⟩ (st1 := [.int r1]) rfl (cells' := 0) (slots' := 0) rfl rfl (fun H locs hI => ?_)
  obtain ⟨h, h2⟩ := g_sp2 h
  subst h
  subst h2
  exact g_iret X hI dX6_shaped_91
def f_X6_shaped_72 (G : gG) (x0 : Nat) (x1 : Int32) (x2 : Int32) (x3 : Int32) (x4 : Int32) : Option (Int32 × gG) :=
  if (0 : Int32) ≤ x4 then
    f_X6_shaped_92 G x0 x1 x2 x3 x4
  else
  if x4 = (-3) then
    f_X6_shaped_92 G x0 x1 x2 x3 x4
  else
  f_X6_shaped_84 G x0
set_option maxHeartbeats 4000000 in
set_option maxRecDepth 100000 in
theorem b_X6_shaped_72 {p : Program} {l : Launch} {e : Env} {s : State} {m : MethodId} {args : Array Value} {below : List Frame} {meth : Method} {c : Code} {E : gE} {G0 : gG} {n0 : Nat} (X : g_X E G0 n0 p s m args meth c cX6_shaped 8 RX6 "shaped" (some .int)) {G : gG} {n : Nat} {r : Int32} {Gr : gG} {H : Heap} {locs : List Loc} (hI : g_I E (g_A G0 n0) G n s.heap H locs) {x0 : Nat} {x1 : Int32} {x2 : Int32} {x3 : Int32} {x4 : Int32} (h : f_X6_shaped_72 G x0 x1 x2 x3 x4 = some (r, Gr)) {ls : Array Slot} (hl : lv_has ls 8 [(0, .ref x0), (1, .int x1), (2, .int x2), (3, .int x3), (4, .int x4)]) : W p l e rm_X6_shaped s m args below meth c H locs 0 0 (MQ below (g_Q E G0 n0 (some (.int r)) Gr n) args s rm_X6_shaped.cells rm_X6_shaped.slots (g_A G0 n0)) (F0 m 72 ls []) := by
  have hx := X.1
  have hb := X.2.1
  unfold f_X6_shaped_72 at h
  refine lv_iload hx hb dX6_shaped_72 (lv_at hl 4 rfl) ?_
  refine lv_if_ge (tgt := 92) hx hb dX6_shaped_74 (by decide) (fun c => ?_) (fun c => ?_)
  · have h := g_t _ c h
    exact b_X6_shaped_92 X hI h (lv_sub hl [0, 1, 2, 3, 4] rfl)
  · have h := g_f _ c h
    refine lv_iload hx hb dX6_shaped_77 (lv_at hl 4 rfl) ?_
    refine lv_bipush (v := (-3)) hx hb dX6_shaped_79 (by decide) ?_
    refine lv_icmp_eq (tgt := 92) hx hb dX6_shaped_81 (by decide) (fun c => ?_) (fun c => ?_)
    · have h := g_t _ c h
      exact b_X6_shaped_92 X hI h (lv_sub hl [0, 1, 2, 3, 4] rfl)
    · have h := g_f _ c h
      exact b_X6_shaped_84 X hI h (lv_sub hl [0] rfl)
def f_X6_shaped_46 (G : gG) (x0 : Nat) (x1 : Int32) (x2 : Int32) (x3 : Int32) (x4 : Int32) : Option (Int32 × gG) :=
  gb (g_fI G x0 5 0) fun v1 =>
  if v1 = 16 then
    some ((-2), G)
  else
  if x2 < 0 then
    f_X6_shaped_84 G x0
  else
  if (0 : Int32) ≤ x3 then
    f_X6_shaped_72 G x0 x1 x2 x3 x4
  else
  if x3 = (-3) then
    f_X6_shaped_72 G x0 x1 x2 x3 x4
  else
  f_X6_shaped_84 G x0
set_option maxHeartbeats 4000000 in
set_option maxRecDepth 100000 in
theorem b_X6_shaped_46 {p : Program} {l : Launch} {e : Env} {s : State} {m : MethodId} {args : Array Value} {below : List Frame} {meth : Method} {c : Code} {E : gE} {G0 : gG} {n0 : Nat} (X : g_X E G0 n0 p s m args meth c cX6_shaped 8 RX6 "shaped" (some .int)) {G : gG} {n : Nat} {r : Int32} {Gr : gG} {H : Heap} {locs : List Loc} (hI : g_I E (g_A G0 n0) G n s.heap H locs) {x0 : Nat} {x1 : Int32} {x2 : Int32} {x3 : Int32} {x4 : Int32} (h : f_X6_shaped_46 G x0 x1 x2 x3 x4 = some (r, Gr)) {ls : Array Slot} (hl : lv_has ls 8 [(0, .ref x0), (1, .int x1), (2, .int x2), (3, .int x3), (4, .int x4)]) : W p l e rm_X6_shaped s m args below meth c H locs 0 0 (MQ below (g_Q E G0 n0 (some (.int r)) Gr n) args s rm_X6_shaped.cells rm_X6_shaped.slots (g_A G0 n0)) (F0 m 46 ls []) := by
  have hx := X.1
  have hb := X.2.1
  unfold f_X6_shaped_46 at h
  refine lv_aload_n hx hb dX6_shaped_46 rfl (lv_at hl 0 rfl) ?_
  obtain ⟨v1, ev1, h⟩ := gb_s h
  refine g_get X hI (g_fI_s ev1) (C := RX6) (T := TX6) (N := 17) rfl gu_X6 (by decide) tw_3_42 dX6_shaped_47 ?_
  refine lv_bipush (v := 16) hx hb dX6_shaped_50 (by decide) ?_
  refine lv_icmp_ne (tgt := 58) hx hb dX6_shaped_52 (by decide) (fun c => ?_) (fun c => ?_)
  · have h := g_f _ c h
    refine lv_iload_n hx hb dX6_shaped_58 rfl (lv_at hl 2 rfl) ?_
    refine lv_if_lt (tgt := 84) hx hb dX6_shaped_59 (by decide) (fun c => ?_) (fun c => ?_)
    · have h := g_t _ c h
      exact b_X6_shaped_84 X hI h (lv_sub hl [0] rfl)
    · have h := g_f _ c h
      refine lv_iload_n hx hb dX6_shaped_62 rfl (lv_at hl 3 rfl) ?_
      refine lv_if_ge (tgt := 72) hx hb dX6_shaped_63 (by decide) (fun c => ?_) (fun c => ?_)
      · have h := g_t _ c h
        exact b_X6_shaped_72 X hI h (lv_sub hl [0, 1, 2, 3, 4] rfl)
      · have h := g_f _ c h
        refine lv_iload_n hx hb dX6_shaped_66 rfl (lv_at hl 3 rfl) ?_
        refine lv_bipush (v := (-3)) hx hb dX6_shaped_67 (by decide) ?_
        refine lv_icmp_ne (tgt := 84) hx hb dX6_shaped_69 (by decide) (fun c => ?_) (fun c => ?_)
        · have h := g_f _ c h
          exact b_X6_shaped_84 X hI h (lv_sub hl [0] rfl)
        · have h := g_t _ c h
          exact b_X6_shaped_72 X hI h (lv_sub hl [0, 1, 2, 3, 4] rfl)
  · have h := g_t _ c h
    refine lv_bipush (v := (-2)) hx hb dX6_shaped_55 (by decide) ?_
    obtain ⟨h, h2⟩ := g_sp2 h
    subst h
    subst h2
    exact g_iret X hI dX6_shaped_57
def f_X6_shaped (G : gG) (th : Nat) (a1 : Int32) (a2 : Int32) (a3 : Int32) (a4 : Int32) : Option (Int32 × gG) :=
  if (f_X6_in (Int32.toInt64 a1) (0 : Int64) (5 : Int64)) = 0 then
    some ((-1), G)
  else
  if (60 : Int32) < a2 then
    some ((-1), G)
  else
  if (60 : Int32) < a3 then
    some ((-1), G)
  else
  if (60 : Int32) < a4 then
    some ((-1), G)
  else
  if a3 = (-3) then
    if a4 = (-3) then
      f_X6_shaped_46 G th a1 a2 a3 a4
    else
    some ((-1), G)
  else
  f_X6_shaped_46 G th a1 a2 a3 a4
theorem gm_X6_shaped : g_M yX6_shaped cX6_shaped 8 (some .int) 4 := ⟨tw_3_110, tw_1_5, by decide +kernel, Or.inl (by decide +kernel)⟩
set_option maxHeartbeats 4000000 in
set_option maxRecDepth 100000 in
theorem c_X6_shaped {l : Launch} {E : gE} {G : gG} {n : Nat} {th : Nat} {a1 : Int32} {a2 : Int32} {a3 : Int32} {a4 : Int32} {r : Int32} {Gr : gG} (h : f_X6_shaped G th a1 a2 a3 a4 = some (r, Gr)) : g_Met l yX6_shaped cX6_shaped 8 (some .int) rm_X6_shaped E G n [.ref th, .int a1, .int a2, .int a3, .int a4] (some (.int r)) Gr n := by
  refine g_ofW gm_X6_shaped (Nat.le_of_ble_eq_true rfl) ?_
  intro p e s m below meth c ls X hl hI
  have hx := X.1
  have hb := X.2.1
  have X : g_X E G n p s m _ meth c cX6_shaped 8 RX6 "shaped" (some .int) := X
  have hl : lv_has ls 8 [(0, .ref th), (1, .int a1), (2, .int a2), (3, .int a3), (4, .int a4)] := hl
  unfold f_X6_shaped at h
  refine lv_iload_n hx hb dX6_shaped_0 rfl (lv_at hl 1 rfl) ?_
  refine lv_i2l (v := (Int32.toInt64 a1)) hx hb dX6_shaped_1 rfl ?_
  refine lv_lconst (v := 0) hx hb dX6_shaped_2 (by decide) ?_
  refine lv_ldc2 (v := 5) hx hb X.2.2.2.1 (X.2.2.2.2.1 _ tw_3_99) dX6_shaped_3 ?_
  refine g_callS X hI (av := [.long (Int32.toInt64 a1), .long 0, .long 5]) (c_X6_in (Int32.toInt64 a1) (0 : Int64) (5 : Int64)) gm_X6_in tw_3_100 tw_3_101 ⟨by decide, by decide⟩ hl.1 (rest := []) rfl (Nat.le_of_ble_eq_true rfl) dX6_shaped_6 ⟨by decide, by decide⟩ (st1 := [.int (f_X6_in (Int32.toInt64 a1) (0 : Int64) (5 : Int64))]) rfl (cells' := 0) (slots' := 0) rfl rfl (fun H locs hI => ?_)
  refine lv_if_eq (tgt := 44) hx hb dX6_shaped_9 (by decide) (fun c => ?_) (fun c => ?_)
  · have h := g_t _ c h
    refine lv_iconst (v := (-1)) hx hb dX6_shaped_44 (by decide) ?_
    obtain ⟨h, h2⟩ := g_sp2 h
    subst h
    subst h2
    exact g_iret X hI dX6_shaped_45
  · have h := g_f _ c h
    refine lv_iload_n hx hb dX6_shaped_12 rfl (lv_at hl 2 rfl) ?_
    refine lv_bipush (v := 60) hx hb dX6_shaped_13 (by decide) ?_
    refine lv_icmp_gt (tgt := 44) hx hb dX6_shaped_15 (by decide) (fun c => ?_) (fun c => ?_)
    · have h := g_t _ c h
      refine lv_iconst (v := (-1)) hx hb dX6_shaped_44 (by decide) ?_
      obtain ⟨h, h2⟩ := g_sp2 h
      subst h
      subst h2
      exact g_iret X hI dX6_shaped_45
    · have h := g_f _ c h
      refine lv_iload_n hx hb dX6_shaped_18 rfl (lv_at hl 3 rfl) ?_
      refine lv_bipush (v := 60) hx hb dX6_shaped_19 (by decide) ?_
      refine lv_icmp_gt (tgt := 44) hx hb dX6_shaped_21 (by decide) (fun c => ?_) (fun c => ?_)
      · have h := g_t _ c h
        refine lv_iconst (v := (-1)) hx hb dX6_shaped_44 (by decide) ?_
        obtain ⟨h, h2⟩ := g_sp2 h
        subst h
        subst h2
        exact g_iret X hI dX6_shaped_45
      · have h := g_f _ c h
        refine lv_iload hx hb dX6_shaped_24 (lv_at hl 4 rfl) ?_
        refine lv_bipush (v := 60) hx hb dX6_shaped_26 (by decide) ?_
        refine lv_icmp_gt (tgt := 44) hx hb dX6_shaped_28 (by decide) (fun c => ?_) (fun c => ?_)
        · have h := g_t _ c h
          refine lv_iconst (v := (-1)) hx hb dX6_shaped_44 (by decide) ?_
          obtain ⟨h, h2⟩ := g_sp2 h
          subst h
          subst h2
          exact g_iret X hI dX6_shaped_45
        · have h := g_f _ c h
          refine lv_iload_n hx hb dX6_shaped_31 rfl (lv_at hl 3 rfl) ?_
          refine lv_bipush (v := (-3)) hx hb dX6_shaped_32 (by decide) ?_
          refine lv_icmp_ne (tgt := 46) hx hb dX6_shaped_34 (by decide) (fun c => ?_) (fun c => ?_)
          · have h := g_f _ c h
            exact b_X6_shaped_46 X hI h (lv_sub hl [0, 1, 2, 3, 4] rfl)
          · have h := g_t _ c h
            refine lv_iload hx hb dX6_shaped_37 (lv_at hl 4 rfl) ?_
            refine lv_bipush (v := (-3)) hx hb dX6_shaped_39 (by decide) ?_
            refine lv_icmp_eq (tgt := 46) hx hb dX6_shaped_41 (by decide) (fun c => ?_) (fun c => ?_)
            · have h := g_t _ c h
              exact b_X6_shaped_46 X hI h (lv_sub hl [0, 1, 2, 3, 4] rfl)
            · have h := g_f _ c h
              refine lv_iconst (v := (-1)) hx hb dX6_shaped_44 (by decide) ?_
              obtain ⟨h, h2⟩ := g_sp2 h
              subst h
              subst h2
              exact g_iret X hI dX6_shaped_45
abbrev rm_X6_free : Room := { frames := 2, cells := 0, slots := 0, locals := 46 }
def f_X6_free (G : gG) (th : Nat) (a1 : Int32) : Option (Int32 × gG) :=
  gck (g_isO G th 5) <|
  gb (f_X6_isTensor G th a1) fun r1 =>
  if r1 = 0 then
    some ((-1), G)
  else
  gb (g_fA G th 5 5) fun g2 =>
  gb (g_zl G g2 a1) fun v3 =>
  if v3 = 0 then
    gb (g_fA G th 5 5) fun g4 =>
    gb (g_zs G g4 a1 1) fun G5 =>
    some (1, G5)
  else
  gck (g_isO G th 5) <|
  gb2 (f_X6_fails G th (1 : Int32) (-3 : Int32)) fun r6 G7 =>
  some (r6, G7)
theorem gm_X6_free : g_M yX6_free cX6_free 2 (some .int) 1 := ⟨tw_3_118, tw_1_5, by decide +kernel, Or.inl (by decide +kernel)⟩
set_option maxHeartbeats 4000000 in
set_option maxRecDepth 100000 in
theorem c_X6_free {l : Launch} {E : gE} {G : gG} {n : Nat} {th : Nat} {a1 : Int32} {r : Int32} {Gr : gG} (h : f_X6_free G th a1 = some (r, Gr)) : g_Met l yX6_free cX6_free 2 (some .int) rm_X6_free E G n [.ref th, .int a1] (some (.int r)) Gr n := by
  refine g_ofW gm_X6_free (Nat.le_of_ble_eq_true rfl) ?_
  intro p e s m below meth c ls X hl hI
  have hx := X.1
  have hb := X.2.1
  have X : g_X E G n p s m _ meth c cX6_free 2 RX6 "free" (some .int) := X
  have hl : lv_has ls 2 [(0, .ref th), (1, .int a1)] := hl
  unfold f_X6_free at h
  refine lv_aload_n hx hb dX6_free_0 rfl (lv_at hl 0 rfl) ?_
  refine lv_iload_n hx hb dX6_free_1 rfl (lv_at hl 1 rfl) ?_
  obtain ⟨cO, h⟩ := gck_s h
  obtain ⟨r1, er1, h⟩ := gb_s h
  refine g_callV X hI (q := (RX6, TX6, 17)) (b := th) (av := [.int a1]) cO rfl (c_X6_isTensor er1) gm_X6_isTensor tw_3_119 tw_3_121 tw_p_22 ⟨by decide, by decide⟩ hl.1 (rest := []) rfl (Nat.le_of_ble_eq_true rfl) dX6_free_2 ⟨by decide, by decide⟩ (st1 := [.int r1]) rfl (cells' := 0) (slots' := 0) rfl rfl (fun H locs hI => ?_)
  refine lv_if_ne (tgt := 10) hx hb dX6_free_5 (by decide) (fun c => ?_) (fun c => ?_)
  · have h := g_f _ c h
    refine lv_aload_n hx hb dX6_free_10 rfl (lv_at hl 0 rfl) ?_
    obtain ⟨g2, eg2, h⟩ := gb_s h
    refine g_get X hI (g_fA_s eg2) (C := RX6) (T := TX6) (N := 17) rfl gu_X6 (by decide) tw_3_47 dX6_free_11 ?_
    refine lv_iload_n hx hb dX6_free_14 rfl (lv_at hl 1 rfl) ?_
    obtain ⟨v3, ev3, h⟩ := gb_s h
    refine g_zald X hI ev3 dX6_free_15 ?_
    refine lv_if_eq (tgt := 27) hx hb dX6_free_16 (by decide) (fun c => ?_) (fun c => ?_)
    · have h := g_t _ c h
      refine lv_aload_n hx hb dX6_free_27 rfl (lv_at hl 0 rfl) ?_
      obtain ⟨g4, eg4, h⟩ := gb_s h
      refine g_get X hI (g_fA_s eg4) (C := RX6) (T := TX6) (N := 17) rfl gu_X6 (by decide) tw_3_47 dX6_free_28 ?_
      refine lv_iload_n hx hb dX6_free_31 rfl (lv_at hl 1 rfl) ?_
      refine lv_iconst (v := 1) hx hb dX6_free_32 (by decide) ?_
      obtain ⟨G5, eG5, h⟩ := gb_s h
      refine g_zast X hI (G' := G5) eG5 dX6_free_33 (fun H locs hI => ?_)
      refine lv_iconst (v := 1) hx hb dX6_free_34 (by decide) ?_
      obtain ⟨h, h2⟩ := g_sp2 h
      subst h
      subst h2
      exact g_iret X hI dX6_free_35
    · have h := g_f _ c h
      refine lv_aload_n hx hb dX6_free_19 rfl (lv_at hl 0 rfl) ?_
      refine lv_iconst (v := 1) hx hb dX6_free_20 (by decide) ?_
      refine lv_bipush (v := (-3)) hx hb dX6_free_21 (by decide) ?_
      obtain ⟨cO, h⟩ := gck_s h
      obtain ⟨r6, G7, er6, h⟩ := gb2_s h
      refine g_callV X hI (q := (RX6, TX6, 17)) (b := th) (av := [.int 1, .int (-3)]) cO rfl (c_X6_fails er6) gm_X6_fails tw_3_111 tw_3_113 tw_p_21 ⟨by decide, by decide⟩ hl.1 (rest := []) rfl (Nat.le_of_ble_eq_true rfl) dX6_free_23 ⟨by decide, by decide⟩ (st1 := [.int r6]) rfl (cells' := 0) (slots' := 0) rfl rfl (fun H locs hI => ?_)
      obtain ⟨h, h2⟩ := g_sp2 h
      subst h
      subst h2
      exact g_iret X hI dX6_free_26
  · have h := g_t _ c h
    refine lv_iconst (v := (-1)) hx hb dX6_free_8 (by decide) ?_
    obtain ⟨h, h2⟩ := g_sp2 h
    subst h
    subst h2
    exact g_iret X hI dX6_free_9
abbrev rm_X6_setting : Room := { frames := 1, cells := 0, slots := 0, locals := 25 }
def f_X6_setting (G : gG) (th : Nat) (a1 : Int32) : Option (Int32 × gG) :=
  if (f_X6_in (Int32.toInt64 a1) (0 : Int64) (1 : Int64)) = 0 then
    some ((-1), G)
  else
  gb (g_fI G th 5 8) fun v1 =>
  gb (g_sI G th 5 8 a1) fun G2 =>
  some (v1, G2)
theorem gm_X6_setting : g_M yX6_setting cX6_setting 3 (some .int) 1 := ⟨tw_3_126, tw_1_5, by decide +kernel, Or.inl (by decide +kernel)⟩
set_option maxHeartbeats 4000000 in
set_option maxRecDepth 100000 in
theorem c_X6_setting {l : Launch} {E : gE} {G : gG} {n : Nat} {th : Nat} {a1 : Int32} {r : Int32} {Gr : gG} (h : f_X6_setting G th a1 = some (r, Gr)) : g_Met l yX6_setting cX6_setting 3 (some .int) rm_X6_setting E G n [.ref th, .int a1] (some (.int r)) Gr n := by
  refine g_ofW gm_X6_setting (Nat.le_of_ble_eq_true rfl) ?_
  intro p e s m below meth c ls X hl hI
  have hx := X.1
  have hb := X.2.1
  have X : g_X E G n p s m _ meth c cX6_setting 3 RX6 "setting" (some .int) := X
  have hl : lv_has ls 3 [(0, .ref th), (1, .int a1)] := hl
  unfold f_X6_setting at h
  refine lv_iload_n hx hb dX6_setting_0 rfl (lv_at hl 1 rfl) ?_
  refine lv_i2l (v := (Int32.toInt64 a1)) hx hb dX6_setting_1 rfl ?_
  refine lv_lconst (v := 0) hx hb dX6_setting_2 (by decide) ?_
  refine lv_lconst (v := 1) hx hb dX6_setting_3 (by decide) ?_
  refine g_callS X hI (av := [.long (Int32.toInt64 a1), .long 0, .long 1]) (c_X6_in (Int32.toInt64 a1) (0 : Int64) (1 : Int64)) gm_X6_in tw_3_100 tw_3_101 ⟨by decide, by decide⟩ hl.1 (rest := []) rfl (Nat.le_of_ble_eq_true rfl) dX6_setting_4 ⟨by decide, by decide⟩ (st1 := [.int (f_X6_in (Int32.toInt64 a1) (0 : Int64) (1 : Int64))]) rfl (cells' := 0) (slots' := 0) rfl rfl (fun H locs hI => ?_)
  refine lv_if_ne (tgt := 12) hx hb dX6_setting_7 (by decide) (fun c => ?_) (fun c => ?_)
  · have h := g_f _ c h
    refine lv_aload_n hx hb dX6_setting_12 rfl (lv_at hl 0 rfl) ?_
    obtain ⟨v1, ev1, h⟩ := gb_s h
    refine g_get X hI (g_fI_s ev1) (C := RX6) (T := TX6) (N := 17) rfl gu_X6 (by decide) tw_3_50 dX6_setting_13 ?_
    refine lv_istore_n (lv' := [(2, .int v1), (0, .ref th), (1, .int a1)]) hx hb dX6_setting_16 rfl hl (by decide) rfl (fun ls hl => ?_)
    refine lv_aload_n hx hb dX6_setting_17 rfl (lv_at hl 1 rfl) ?_
    refine lv_iload_n hx hb dX6_setting_18 rfl (lv_at hl 2 rfl) ?_
    obtain ⟨G2, eG2, h⟩ := gb_s h
    refine g_put X hI (k := 8) (v := .int a1) (G' := G2) eG2 (C := RX6) (T := TX6) (N := 17) rfl gu_X6 tyX6 tyX6_ok nmX6 (by decide) tw_3_50 rfl rfl rfl dX6_setting_19 (fun H locs hI => ?_)
    refine lv_iload_n hx hb dX6_setting_22 rfl (lv_at hl 0 rfl) ?_
    obtain ⟨h, h2⟩ := g_sp2 h
    subst h
    subst h2
    exact g_iret X hI dX6_setting_23
  · have h := g_t _ c h
    refine lv_iconst (v := (-1)) hx hb dX6_setting_10 (by decide) ?_
    obtain ⟨h, h2⟩ := g_sp2 h
    subst h
    subst h2
    exact g_iret X hI dX6_setting_11
abbrev rm_X6_item : Room := { frames := 2, cells := 0, slots := 0, locals := 46 }
def f_X6_item (G : gG) (th : Nat) (a1 : Int32) (a2 : Int32) (a3 : Int64) : Option (Int32 × gG) :=
  gck (g_isO G th 5) <|
  gb (f_X6_isTensor G th a1) fun r1 =>
  if r1 = 0 then
    some ((-1), G)
  else
  gb (g_fA G th 5 5) fun g2 =>
  gb (g_zl G g2 a1) fun v3 =>
  if v3 = 0 then
    gb (g_fA G th 5 4) fun g4 =>
    gb (g_il G g4 a1) fun v5 =>
    if (f_X6_in (Int32.toInt64 a2) (0 : Int64) (Int32.toInt64 (v5 - 1))) = 0 then
      gck (g_isO G th 5) <|
      gb2 (f_X6_fails G th (2 : Int32) (-3 : Int32)) fun r10 G11 =>
      some (r10, G11)
    else
    gb (g_fA G th 5 6) fun g6 =>
    gb (g_fA G th 5 1) fun g7 =>
    gb (g_il G g7 a1) fun v8 =>
    gb (g_ls G g6 (((240 : Int32) * a1) + a2) (f_X6_kept a3 v8)) fun G9 =>
    some (1, G9)
  else
  gck (g_isO G th 5) <|
  gb2 (f_X6_fails G th (1 : Int32) (-3 : Int32)) fun r12 G13 =>
  some (r12, G13)
theorem gm_X6_item : g_M yX6_item cX6_item 5 (some .int) 3 := ⟨tw_3_130, tw_1_5, by decide +kernel, Or.inl (by decide +kernel)⟩
set_option maxHeartbeats 4000000 in
set_option maxRecDepth 100000 in
theorem c_X6_item {l : Launch} {E : gE} {G : gG} {n : Nat} {th : Nat} {a1 : Int32} {a2 : Int32} {a3 : Int64} {r : Int32} {Gr : gG} (h : f_X6_item G th a1 a2 a3 = some (r, Gr)) : g_Met l yX6_item cX6_item 5 (some .int) rm_X6_item E G n [.ref th, .int a1, .int a2, .long a3] (some (.int r)) Gr n := by
  refine g_ofW gm_X6_item (Nat.le_of_ble_eq_true rfl) ?_
  intro p e s m below meth c ls X hl hI
  have hx := X.1
  have hb := X.2.1
  have X : g_X E G n p s m _ meth c cX6_item 5 RX6 "item" (some .int) := X
  have hl : lv_has ls 5 [(0, .ref th), (1, .int a1), (2, .int a2), (3, .long a3)] := hl
  unfold f_X6_item at h
  refine lv_aload_n hx hb dX6_item_0 rfl (lv_at hl 0 rfl) ?_
  refine lv_iload_n hx hb dX6_item_1 rfl (lv_at hl 1 rfl) ?_
  obtain ⟨cO, h⟩ := gck_s h
  obtain ⟨r1, er1, h⟩ := gb_s h
  refine g_callV X hI (q := (RX6, TX6, 17)) (b := th) (av := [.int a1]) cO rfl (c_X6_isTensor er1) gm_X6_isTensor tw_3_119 tw_3_121 tw_p_22 ⟨by decide, by decide⟩ hl.1 (rest := []) rfl (Nat.le_of_ble_eq_true rfl) dX6_item_2 ⟨by decide, by decide⟩ (st1 := [.int r1]) rfl (cells' := 0) (slots' := 0) rfl rfl (fun H locs hI => ?_)
  refine lv_if_ne (tgt := 10) hx hb dX6_item_5 (by decide) (fun c => ?_) (fun c => ?_)
  · have h := g_f _ c h
    refine lv_aload_n hx hb dX6_item_10 rfl (lv_at hl 0 rfl) ?_
    obtain ⟨g2, eg2, h⟩ := gb_s h
    refine g_get X hI (g_fA_s eg2) (C := RX6) (T := TX6) (N := 17) rfl gu_X6 (by decide) tw_3_47 dX6_item_11 ?_
    refine lv_iload_n hx hb dX6_item_14 rfl (lv_at hl 1 rfl) ?_
    obtain ⟨v3, ev3, h⟩ := gb_s h
    refine g_zald X hI ev3 dX6_item_15 ?_
    refine lv_if_eq (tgt := 27) hx hb dX6_item_16 (by decide) (fun c => ?_) (fun c => ?_)
    · have h := g_t _ c h
      refine lv_iload_n hx hb dX6_item_27 rfl (lv_at hl 2 rfl) ?_
      refine lv_i2l (v := (Int32.toInt64 a2)) hx hb dX6_item_28 rfl ?_
      refine lv_lconst (v := 0) hx hb dX6_item_29 (by decide) ?_
      refine lv_aload_n hx hb dX6_item_30 rfl (lv_at hl 0 rfl) ?_
      obtain ⟨g4, eg4, h⟩ := gb_s h
      refine g_get X hI (g_fA_s eg4) (C := RX6) (T := TX6) (N := 17) rfl gu_X6 (by decide) tw_3_46 dX6_item_31 ?_
      refine lv_iload_n hx hb dX6_item_34 rfl (lv_at hl 1 rfl) ?_
      obtain ⟨v5, ev5, h⟩ := gb_s h
      refine g_iald X hI ev5 dX6_item_35 ?_
      refine lv_iconst (v := 1) hx hb dX6_item_36 (by decide) ?_
      refine lv_isub (x := v5) (y := 1) hx hb dX6_item_37 ?_
      refine lv_i2l (v := (Int32.toInt64 (v5 - 1))) hx hb dX6_item_38 rfl ?_
      refine g_callS X hI (av := [.long (Int32.toInt64 a2), .long 0, .long (Int32.toInt64 (v5 - 1))]) (c_X6_in (Int32.toInt64 a2) (0 : Int64) (Int32.toInt64 (v5 - 1))) gm_X6_in tw_3_100 tw_3_101 ⟨by decide, by decide⟩ hl.1 (rest := []) rfl (Nat.le_of_ble_eq_true rfl) dX6_item_39 ⟨by decide, by decide⟩ (st1 := [.int (f_X6_in (Int32.toInt64 a2) (0 : Int64) (Int32.toInt64 (v5 - 1)))]) rfl (cells' := 0) (slots' := 0) rfl rfl (fun H locs hI => ?_)
      refine lv_if_ne (tgt := 53) hx hb dX6_item_42 (by decide) (fun c => ?_) (fun c => ?_)
      · have h := g_f _ c h
        refine lv_aload_n hx hb dX6_item_53 rfl (lv_at hl 0 rfl) ?_
        obtain ⟨g6, eg6, h⟩ := gb_s h
        refine g_get X hI (g_fA_s eg6) (C := RX6) (T := TX6) (N := 17) rfl gu_X6 (by decide) tw_3_48 dX6_item_54 ?_
        refine lv_sipush (v := 240) hx hb dX6_item_57 (by decide) ?_
        refine lv_iload_n hx hb dX6_item_60 rfl (lv_at hl 1 rfl) ?_
        refine lv_imul (x := 240) (y := a1) hx hb dX6_item_61 ?_
        refine lv_iload_n hx hb dX6_item_62 rfl (lv_at hl 2 rfl) ?_
        refine lv_iadd (x := ((240 : Int32) * a1)) (y := a2) hx hb dX6_item_63 ?_
        refine lv_lload_n hx hb dX6_item_64 rfl (lv_at hl 3 rfl) ?_
        refine lv_aload_n hx hb dX6_item_65 rfl (lv_at hl 0 rfl) ?_
        obtain ⟨g7, eg7, h⟩ := gb_s h
        refine g_get X hI (g_fA_s eg7) (C := RX6) (T := TX6) (N := 17) rfl gu_X6 (by decide) tw_3_43 dX6_item_66 ?_
        refine lv_iload_n hx hb dX6_item_69 rfl (lv_at hl 1 rfl) ?_
        obtain ⟨v8, ev8, h⟩ := gb_s h
        refine g_iald X hI ev8 dX6_item_70 ?_
        refine g_callS X hI (av := [.long a3, .int v8]) (c_X6_kept a3 v8) gm_X6_kept tw_3_131 tw_3_132 ⟨by decide, by decide⟩ hl.1 (rest := [.int (((240 : Int32) * a1) + a2), .ref g6]) rfl (Nat.le_of_ble_eq_true rfl) dX6_item_71 ⟨by decide, by decide⟩ (st1 := [.long (f_X6_kept a3 v8), .int (((240 : Int32) * a1) + a2), .ref g6]) rfl (cells' := 0) (slots' := 0) rfl rfl (fun H locs hI => ?_)
        obtain ⟨G9, eG9, h⟩ := gb_s h
        refine g_last X hI (G' := G9) eG9 dX6_item_74 (fun H locs hI => ?_)
        refine lv_iconst (v := 1) hx hb dX6_item_75 (by decide) ?_
        obtain ⟨h, h2⟩ := g_sp2 h
        subst h
        subst h2
        exact g_iret X hI dX6_item_76
      · have h := g_t _ c h
        refine lv_aload_n hx hb dX6_item_45 rfl (lv_at hl 0 rfl) ?_
        refine lv_iconst (v := 2) hx hb dX6_item_46 (by decide) ?_
        refine lv_bipush (v := (-3)) hx hb dX6_item_47 (by decide) ?_
        obtain ⟨cO, h⟩ := gck_s h
        obtain ⟨r10, G11, er10, h⟩ := gb2_s h
        refine g_callV X hI (q := (RX6, TX6, 17)) (b := th) (av := [.int 2, .int (-3)]) cO rfl (c_X6_fails er10) gm_X6_fails tw_3_111 tw_3_113 tw_p_21 ⟨by decide, by decide⟩ hl.1 (rest := []) rfl (Nat.le_of_ble_eq_true rfl) dX6_item_49 ⟨by decide, by decide⟩ (st1 := [.int r10]) rfl (cells' := 0) (slots' := 0) rfl rfl (fun H locs hI => ?_)
        obtain ⟨h, h2⟩ := g_sp2 h
        subst h
        subst h2
        exact g_iret X hI dX6_item_52
    · have h := g_f _ c h
      refine lv_aload_n hx hb dX6_item_19 rfl (lv_at hl 0 rfl) ?_
      refine lv_iconst (v := 1) hx hb dX6_item_20 (by decide) ?_
      refine lv_bipush (v := (-3)) hx hb dX6_item_21 (by decide) ?_
      obtain ⟨cO, h⟩ := gck_s h
      obtain ⟨r12, G13, er12, h⟩ := gb2_s h
      refine g_callV X hI (q := (RX6, TX6, 17)) (b := th) (av := [.int 1, .int (-3)]) cO rfl (c_X6_fails er12) gm_X6_fails tw_3_111 tw_3_113 tw_p_21 ⟨by decide, by decide⟩ hl.1 (rest := []) rfl (Nat.le_of_ble_eq_true rfl) dX6_item_23 ⟨by decide, by decide⟩ (st1 := [.int r12]) rfl (cells' := 0) (slots' := 0) rfl rfl (fun H locs hI => ?_)
      obtain ⟨h, h2⟩ := g_sp2 h
      subst h
      subst h2
      exact g_iret X hI dX6_item_26
  · have h := g_t _ c h
    refine lv_iconst (v := (-1)) hx hb dX6_item_8 (by decide) ?_
    obtain ⟨h, h2⟩ := g_sp2 h
    subst h
    subst h2
    exact g_iret X hI dX6_item_9
abbrev rm_X6_bits : Room := { frames := 2, cells := 0, slots := 0, locals := 46 }
def f_X6_bits (G : gG) (th : Nat) (a1 : Int32) (a2 : Int32) (a3 : Int32) : Option (Int64 × gG) :=
  gck (g_isO G th 5) <|
  gb (f_X6_isTensor G th a1) fun r1 =>
  if r1 = 0 then
    some ((-1), G)
  else
  if (f_X6_in (Int32.toInt64 a3) (0 : Int64) (5 : Int64)) = 0 then
    some ((-1), G)
  else
  gb (g_fA G th 5 5) fun g2 =>
  gb (g_zl G g2 a1) fun v3 =>
  if v3 = 0 then
    gb (g_fA G th 5 1) fun g4 =>
    gb (g_il G g4 a1) fun v5 =>
    if v5 = a3 then
      gb (g_fA G th 5 4) fun g6 =>
      gb (g_il G g6 a1) fun v7 =>
      if (f_X6_in (Int32.toInt64 a2) (0 : Int64) (Int32.toInt64 (v7 - 1))) = 0 then
        gck (g_isO G th 5) <|
        gb2 (f_X6_fails G th (2 : Int32) (-3 : Int32)) fun r8 G9 =>
        some ((Int32.toInt64 r8), G9)
      else
      gb (g_fA G th 5 6) fun g10 =>
      gb (g_ll G g10 (((240 : Int32) * a1) + a2)) fun v11 =>
      some (v11, G)
    else
    gck (g_isO G th 5) <|
    gb2 (f_X6_fails G th (4 : Int32) (-3 : Int32)) fun r12 G13 =>
    some ((Int32.toInt64 r12), G13)
  else
  gck (g_isO G th 5) <|
  gb2 (f_X6_fails G th (1 : Int32) (-3 : Int32)) fun r14 G15 =>
  some ((Int32.toInt64 r14), G15)
theorem gm_X6_bits : g_M yX6_bits cX6_bits 4 (some .long) 3 := ⟨tw_3_146, tw_1_5, by decide +kernel, Or.inl (by decide +kernel)⟩
set_option maxHeartbeats 4000000 in
set_option maxRecDepth 100000 in
theorem c_X6_bits {l : Launch} {E : gE} {G : gG} {n : Nat} {th : Nat} {a1 : Int32} {a2 : Int32} {a3 : Int32} {r : Int64} {Gr : gG} (h : f_X6_bits G th a1 a2 a3 = some (r, Gr)) : g_Met l yX6_bits cX6_bits 4 (some .long) rm_X6_bits E G n [.ref th, .int a1, .int a2, .int a3] (some (.long r)) Gr n := by
  refine g_ofW gm_X6_bits (Nat.le_of_ble_eq_true rfl) ?_
  intro p e s m below meth c ls X hl hI
  have hx := X.1
  have hb := X.2.1
  have X : g_X E G n p s m _ meth c cX6_bits 4 RX6 "bits" (some .long) := X
  have hl : lv_has ls 4 [(0, .ref th), (1, .int a1), (2, .int a2), (3, .int a3)] := hl
  unfold f_X6_bits at h
  refine lv_aload_n hx hb dX6_bits_0 rfl (lv_at hl 0 rfl) ?_
  refine lv_iload_n hx hb dX6_bits_1 rfl (lv_at hl 1 rfl) ?_
  obtain ⟨cO, h⟩ := gck_s h
  obtain ⟨r1, er1, h⟩ := gb_s h
  refine g_callV X hI (q := (RX6, TX6, 17)) (b := th) (av := [.int a1]) cO rfl (c_X6_isTensor er1) gm_X6_isTensor tw_3_119 tw_3_121 tw_p_22 ⟨by decide, by decide⟩ hl.1 (rest := []) rfl (Nat.le_of_ble_eq_true rfl) dX6_bits_2 ⟨by decide, by decide⟩ (st1 := [.int r1]) rfl (cells' := 0) (slots' := 0) rfl rfl (fun H locs hI => ?_)
  refine lv_if_eq (tgt := 20) hx hb dX6_bits_5 (by decide) (fun c => ?_) (fun c => ?_)
  · have h := g_t _ c h
    refine lv_ldc2 (v := (-1)) hx hb X.2.2.2.1 (X.2.2.2.2.1 _ tw_3_147) dX6_bits_20 ?_
    obtain ⟨h, h2⟩ := g_sp2 h
    subst h
    subst h2
    exact g_lret X hI dX6_bits_23
  · have h := g_f _ c h
    refine lv_iload_n hx hb dX6_bits_8 rfl (lv_at hl 3 rfl) ?_
    refine lv_i2l (v := (Int32.toInt64 a3)) hx hb dX6_bits_9 rfl ?_
    refine lv_lconst (v := 0) hx hb dX6_bits_10 (by decide) ?_
    refine lv_ldc2 (v := 5) hx hb X.2.2.2.1 (X.2.2.2.2.1 _ tw_3_99) dX6_bits_11 ?_
    refine g_callS X hI (av := [.long (Int32.toInt64 a3), .long 0, .long 5]) (c_X6_in (Int32.toInt64 a3) (0 : Int64) (5 : Int64)) gm_X6_in tw_3_100 tw_3_101 ⟨by decide, by decide⟩ hl.1 (rest := []) rfl (Nat.le_of_ble_eq_true rfl) dX6_bits_14 ⟨by decide, by decide⟩ (st1 := [.int (f_X6_in (Int32.toInt64 a3) (0 : Int64) (5 : Int64))]) rfl (cells' := 0) (slots' := 0) rfl rfl (fun H locs hI => ?_)
    refine lv_if_ne (tgt := 24) hx hb dX6_bits_17 (by decide) (fun c => ?_) (fun c => ?_)
    · have h := g_f _ c h
      refine lv_aload_n hx hb dX6_bits_24 rfl (lv_at hl 0 rfl) ?_
      obtain ⟨g2, eg2, h⟩ := gb_s h
      refine g_get X hI (g_fA_s eg2) (C := RX6) (T := TX6) (N := 17) rfl gu_X6 (by decide) tw_3_47 dX6_bits_25 ?_
      refine lv_iload_n hx hb dX6_bits_28 rfl (lv_at hl 1 rfl) ?_
      obtain ⟨v3, ev3, h⟩ := gb_s h
      refine g_zald X hI ev3 dX6_bits_29 ?_
      refine lv_if_eq (tgt := 42) hx hb dX6_bits_30 (by decide) (fun c => ?_) (fun c => ?_)
      · have h := g_t _ c h
        refine lv_aload_n hx hb dX6_bits_42 rfl (lv_at hl 0 rfl) ?_
        obtain ⟨g4, eg4, h⟩ := gb_s h
        refine g_get X hI (g_fA_s eg4) (C := RX6) (T := TX6) (N := 17) rfl gu_X6 (by decide) tw_3_43 dX6_bits_43 ?_
        refine lv_iload_n hx hb dX6_bits_46 rfl (lv_at hl 1 rfl) ?_
        obtain ⟨v5, ev5, h⟩ := gb_s h
        refine g_iald X hI ev5 dX6_bits_47 ?_
        refine lv_iload_n hx hb dX6_bits_48 rfl (lv_at hl 3 rfl) ?_
        refine lv_icmp_eq (tgt := 61) hx hb dX6_bits_49 (by decide) (fun c => ?_) (fun c => ?_)
        · have h := g_t _ c h
          refine lv_iload_n hx hb dX6_bits_61 rfl (lv_at hl 2 rfl) ?_
          refine lv_i2l (v := (Int32.toInt64 a2)) hx hb dX6_bits_62 rfl ?_
          refine lv_lconst (v := 0) hx hb dX6_bits_63 (by decide) ?_
          refine lv_aload_n hx hb dX6_bits_64 rfl (lv_at hl 0 rfl) ?_
          obtain ⟨g6, eg6, h⟩ := gb_s h
          refine g_get X hI (g_fA_s eg6) (C := RX6) (T := TX6) (N := 17) rfl gu_X6 (by decide) tw_3_46 dX6_bits_65 ?_
          refine lv_iload_n hx hb dX6_bits_68 rfl (lv_at hl 1 rfl) ?_
          obtain ⟨v7, ev7, h⟩ := gb_s h
          refine g_iald X hI ev7 dX6_bits_69 ?_
          refine lv_iconst (v := 1) hx hb dX6_bits_70 (by decide) ?_
          refine lv_isub (x := v7) (y := 1) hx hb dX6_bits_71 ?_
          refine lv_i2l (v := (Int32.toInt64 (v7 - 1))) hx hb dX6_bits_72 rfl ?_
          refine g_callS X hI (av := [.long (Int32.toInt64 a2), .long 0, .long (Int32.toInt64 (v7 - 1))]) (c_X6_in (Int32.toInt64 a2) (0 : Int64) (Int32.toInt64 (v7 - 1))) gm_X6_in tw_3_100 tw_3_101 ⟨by decide, by decide⟩ hl.1 (rest := []) rfl (Nat.le_of_ble_eq_true rfl) dX6_bits_73 ⟨by decide, by decide⟩ (st1 := [.int (f_X6_in (Int32.toInt64 a2) (0 : Int64) (Int32.toInt64 (v7 - 1)))]) rfl (cells' := 0) (slots' := 0) rfl rfl (fun H locs hI => ?_)
          refine lv_if_eq (tgt := 94) hx hb dX6_bits_76 (by decide) (fun c => ?_) (fun c => ?_)
          · have h := g_t _ c h
            refine lv_aload_n hx hb dX6_bits_94 rfl (lv_at hl 0 rfl) ?_
            refine lv_iconst (v := 2) hx hb dX6_bits_95 (by decide) ?_
            refine lv_bipush (v := (-3)) hx hb dX6_bits_96 (by decide) ?_
            obtain ⟨cO, h⟩ := gck_s h
            obtain ⟨r8, G9, er8, h⟩ := gb2_s h
            refine g_callV X hI (q := (RX6, TX6, 17)) (b := th) (av := [.int 2, .int (-3)]) cO rfl (c_X6_fails er8) gm_X6_fails tw_3_111 tw_3_113 tw_p_21 ⟨by decide, by decide⟩ hl.1 (rest := []) rfl (Nat.le_of_ble_eq_true rfl) dX6_bits_98 ⟨by decide, by decide⟩ (st1 := [.int r8]) rfl (cells' := 0) (slots' := 0) rfl rfl (fun H locs hI => ?_)
            refine lv_i2l (v := (Int32.toInt64 r8)) hx hb dX6_bits_101 rfl ?_
            obtain ⟨h, h2⟩ := g_sp2 h
            subst h
            subst h2
            exact g_lret X hI dX6_bits_102
          · have h := g_f _ c h
            refine lv_aload_n hx hb dX6_bits_79 rfl (lv_at hl 0 rfl) ?_
            obtain ⟨g10, eg10, h⟩ := gb_s h
            refine g_get X hI (g_fA_s eg10) (C := RX6) (T := TX6) (N := 17) rfl gu_X6 (by decide) tw_3_48 dX6_bits_80 ?_
            refine lv_sipush (v := 240) hx hb dX6_bits_83 (by decide) ?_
            refine lv_iload_n hx hb dX6_bits_86 rfl (lv_at hl 1 rfl) ?_
            refine lv_imul (x := 240) (y := a1) hx hb dX6_bits_87 ?_
            refine lv_iload_n hx hb dX6_bits_88 rfl (lv_at hl 2 rfl) ?_
            refine lv_iadd (x := ((240 : Int32) * a1)) (y := a2) hx hb dX6_bits_89 ?_
            obtain ⟨v11, ev11, h⟩ := gb_s h
            refine g_lald X hI ev11 dX6_bits_90 ?_
            refine lv_goto (tgt := 102) hx hb dX6_bits_91 (by decide) ?_
            obtain ⟨h, h2⟩ := g_sp2 h
            subst h
            subst h2
            exact g_lret X hI dX6_bits_102
        · have h := g_f _ c h
          refine lv_aload_n hx hb dX6_bits_52 rfl (lv_at hl 0 rfl) ?_
          refine lv_iconst (v := 4) hx hb dX6_bits_53 (by decide) ?_
          refine lv_bipush (v := (-3)) hx hb dX6_bits_54 (by decide) ?_
          obtain ⟨cO, h⟩ := gck_s h
          obtain ⟨r12, G13, er12, h⟩ := gb2_s h
          refine g_callV X hI (q := (RX6, TX6, 17)) (b := th) (av := [.int 4, .int (-3)]) cO rfl (c_X6_fails er12) gm_X6_fails tw_3_111 tw_3_113 tw_p_21 ⟨by decide, by decide⟩ hl.1 (rest := []) rfl (Nat.le_of_ble_eq_true rfl) dX6_bits_56 ⟨by decide, by decide⟩ (st1 := [.int r12]) rfl (cells' := 0) (slots' := 0) rfl rfl (fun H locs hI => ?_)
          refine lv_i2l (v := (Int32.toInt64 r12)) hx hb dX6_bits_59 rfl ?_
          obtain ⟨h, h2⟩ := g_sp2 h
          subst h
          subst h2
          exact g_lret X hI dX6_bits_60
      · have h := g_f _ c h
        refine lv_aload_n hx hb dX6_bits_33 rfl (lv_at hl 0 rfl) ?_
        refine lv_iconst (v := 1) hx hb dX6_bits_34 (by decide) ?_
        refine lv_bipush (v := (-3)) hx hb dX6_bits_35 (by decide) ?_
        obtain ⟨cO, h⟩ := gck_s h
        obtain ⟨r14, G15, er14, h⟩ := gb2_s h
        refine g_callV X hI (q := (RX6, TX6, 17)) (b := th) (av := [.int 1, .int (-3)]) cO rfl (c_X6_fails er14) gm_X6_fails tw_3_111 tw_3_113 tw_p_21 ⟨by decide, by decide⟩ hl.1 (rest := []) rfl (Nat.le_of_ble_eq_true rfl) dX6_bits_37 ⟨by decide, by decide⟩ (st1 := [.int r14]) rfl (cells' := 0) (slots' := 0) rfl rfl (fun H locs hI => ?_)
        refine lv_i2l (v := (Int32.toInt64 r14)) hx hb dX6_bits_40 rfl ?_
        obtain ⟨h, h2⟩ := g_sp2 h
        subst h
        subst h2
        exact g_lret X hI dX6_bits_41
    · have h := g_t _ c h
      refine lv_ldc2 (v := (-1)) hx hb X.2.2.2.1 (X.2.2.2.2.1 _ tw_3_147) dX6_bits_20 ?_
      obtain ⟨h, h2⟩ := g_sp2 h
      subst h
      subst h2
      exact g_lret X hI dX6_bits_23
abbrev rm_X6_index : Room := { frames := 2, cells := 0, slots := 0, locals := 46 }
def f_X6_index_65 (k33 : gG → Nat → Int32 → Int32 → Int32 → Int32 → Int32 → Int32 → Option (Int32 × gG)) (G : gG) (x0 : Nat) (x1 : Int32) (x2 : Int32) (x3 : Int32) (x4 : Int32) (x5 : Int32) (x6 : Int32) (s0 : Int32) : Option (Int32 × gG) :=
  gb (g_fA G x0 5 3) fun g1 =>
  gb (g_il G g1 (((3 : Int32) * x1) + x6)) fun v2 =>
  if (f_X6_in (Int32.toInt64 s0) (0 : Int64) (Int32.toInt64 (v2 - 1))) = 0 then
    gck (g_isO G x0 5) <|
    gb2 (f_X6_fails G x0 (2 : Int32) (-3 : Int32)) fun r5 G6 =>
    some (r5, G6)
  else
  gl (((x5 * v2) + s0) : Int32) fun v3 =>
  gl (x6 + 1 : Int32) fun v4 =>
  k33 G x0 x1 x2 x3 x4 v3 v4
set_option maxHeartbeats 4000000 in
set_option maxRecDepth 100000 in
theorem b_X6_index_65 {p : Program} {l : Launch} {e : Env} {s : State} {m : MethodId} {args : Array Value} {below : List Frame} {meth : Method} {c : Code} {E : gE} {G0 : gG} {n0 : Nat} (X : g_X E G0 n0 p s m args meth c cX6_index 9 RX6 "index" (some .int)) {G : gG} {n : Nat} {r : Int32} {Gr : gG} {k33 : gG → Nat → Int32 → Int32 → Int32 → Int32 → Int32 → Int32 → Option (Int32 × gG)} (hk33 : ∀ {G : gG} {H : Heap} {locs : List Loc} (_ : g_I E (g_A G0 n0) G n s.heap H locs) {x0 : Nat} {x1 : Int32} {x2 : Int32} {x3 : Int32} {x4 : Int32} {x5 : Int32} {x6 : Int32}  (_ : k33 G x0 x1 x2 x3 x4 x5 x6 = some (r, Gr)) {ls : Array Slot} (_ : lv_has ls 9 [(0, .ref x0), (1, .int x1), (2, .int x2), (3, .int x3), (4, .int x4), (5, .int x5), (6, .int x6)]), W p l e rm_X6_index s m args below meth c H locs 0 0 (MQ below (g_Q E G0 n0 (some (.int r)) Gr n) args s rm_X6_index.cells rm_X6_index.slots (g_A G0 n0)) (F0 m 33 ls [])) {H : Heap} {locs : List Loc} (hI : g_I E (g_A G0 n0) G n s.heap H locs) {x0 : Nat} {x1 : Int32} {x2 : Int32} {x3 : Int32} {x4 : Int32} {x5 : Int32} {x6 : Int32} {s0 : Int32} (h : f_X6_index_65 k33 G x0 x1 x2 x3 x4 x5 x6 s0 = some (r, Gr)) {ls : Array Slot} (hl : lv_has ls 9 [(0, .ref x0), (1, .int x1), (2, .int x2), (3, .int x3), (4, .int x4), (5, .int x5), (6, .int x6)]) : W p l e rm_X6_index s m args below meth c H locs 0 0 (MQ below (g_Q E G0 n0 (some (.int r)) Gr n) args s rm_X6_index.cells rm_X6_index.slots (g_A G0 n0)) (F0 m 65 ls [.int s0]) := by
  have hx := X.1
  have hb := X.2.1
  unfold f_X6_index_65 at h
  refine lv_istore (lv' := [(7, .int s0), (0, .ref x0), (1, .int x1), (2, .int x2), (3, .int x3), (4, .int x4), (5, .int x5), (6, .int x6)]) hx hb dX6_index_65 hl (by decide) rfl (fun ls hl => ?_)
  refine lv_aload_n hx hb dX6_index_67 rfl (lv_at hl 1 rfl) ?_
  obtain ⟨g1, eg1, h⟩ := gb_s h
  refine g_get X hI (g_fA_s eg1) (C := RX6) (T := TX6) (N := 17) rfl gu_X6 (by decide) tw_3_45 dX6_index_68 ?_
  refine lv_iconst (v := 3) hx hb dX6_index_71 (by decide) ?_
  refine lv_iload_n hx hb dX6_index_72 rfl (lv_at hl 2 rfl) ?_
  refine lv_imul (x := 3) (y := x1) hx hb dX6_index_73 ?_
  refine lv_iload hx hb dX6_index_74 (lv_at hl 7 rfl) ?_
  refine lv_iadd (x := ((3 : Int32) * x1)) (y := x6) hx hb dX6_index_76 ?_
  obtain ⟨v2, ev2, h⟩ := gb_s h
  refine g_iald X hI ev2 dX6_index_77 ?_
  refine lv_istore (lv' := [(8, .int v2), (7, .int s0), (0, .ref x0), (1, .int x1), (2, .int x2), (3, .int x3), (4, .int x4), (5, .int x5), (6, .int x6)]) hx hb dX6_index_78 hl (by decide) rfl (fun ls hl => ?_)
  refine lv_iload hx hb dX6_index_80 (lv_at hl 1 rfl) ?_
  refine lv_i2l (v := (Int32.toInt64 s0)) hx hb dX6_index_82 rfl ?_
  refine lv_lconst (v := 0) hx hb dX6_index_83 (by decide) ?_
  refine lv_iload hx hb dX6_index_84 (lv_at hl 0 rfl) ?_
  refine lv_iconst (v := 1) hx hb dX6_index_86 (by decide) ?_
  refine lv_isub (x := v2) (y := 1) hx hb dX6_index_87 ?_
  refine lv_i2l (v := (Int32.toInt64 (v2 - 1))) hx hb dX6_index_88 rfl ?_
  refine g_callS X hI (av := [.long (Int32.toInt64 s0), .long 0, .long (Int32.toInt64 (v2 - 1))]) (c_X6_in (Int32.toInt64 s0) (0 : Int64) (Int32.toInt64 (v2 - 1))) gm_X6_in tw_3_100 tw_3_101 ⟨by decide, by decide⟩ hl.1 (rest := []) rfl (Nat.le_of_ble_eq_true rfl) dX6_index_89 ⟨by decide, by decide⟩ (st1 := [.int (f_X6_in (Int32.toInt64 s0) (0 : Int64) (Int32.toInt64 (v2 - 1)))]) rfl (cells' := 0) (slots' := 0) rfl rfl (fun H locs hI => ?_)
  refine lv_if_ne (tgt := 103) hx hb dX6_index_92 (by decide) (fun c => ?_) (fun c => ?_)
  · have h := g_f _ c h
    refine lv_iload hx hb dX6_index_103 (lv_at hl 7 rfl) ?_
    refine lv_iload hx hb dX6_index_105 (lv_at hl 0 rfl) ?_
    refine lv_imul (x := x5) (y := v2) hx hb dX6_index_107 ?_
    refine lv_iload hx hb dX6_index_108 (lv_at hl 1 rfl) ?_
    refine lv_iadd (x := (x5 * v2)) (y := s0) hx hb dX6_index_110 ?_
    obtain ⟨v3, ev3, h⟩ := gl_s h
    refine g_topi ev3 ?_
    refine lv_istore (lv' := [(5, .int v3), (8, .int v2), (7, .int s0), (0, .ref x0), (1, .int x1), (2, .int x2), (3, .int x3), (4, .int x4), (6, .int x6)]) hx hb dX6_index_111 hl (by decide) rfl (fun ls hl => ?_)
    obtain ⟨v4, ev4, h⟩ := gl_s h
    refine lv_iinc (v := v4) (lv' := [(6, .int v4), (5, .int v3), (8, .int v2), (7, .int s0), (0, .ref x0), (1, .int x1), (2, .int x2), (3, .int x3), (4, .int x4)]) hx hb dX6_index_113 hl (k := 8) rfl (by rw [← ev4]; rfl) (by decide) rfl (fun ls hl => ?_)
    refine lv_goto (tgt := 33) hx hb dX6_index_116 (by decide) ?_
    exact hk33 hI h (lv_sub hl [4, 5, 6, 7, 8, 1, 0] rfl)
  · have h := g_t _ c h
    refine lv_aload_n hx hb dX6_index_95 rfl (lv_at hl 2 rfl) ?_
    refine lv_iconst (v := 2) hx hb dX6_index_96 (by decide) ?_
    refine lv_bipush (v := (-3)) hx hb dX6_index_97 (by decide) ?_
    obtain ⟨cO, h⟩ := gck_s h
    obtain ⟨r5, G6, er5, h⟩ := gb2_s h
    refine g_callV X hI (q := (RX6, TX6, 17)) (b := x0) (av := [.int 2, .int (-3)]) cO rfl (c_X6_fails er5) gm_X6_fails tw_3_111 tw_3_113 tw_p_21 ⟨by decide, by decide⟩ hl.1 (rest := []) rfl (Nat.le_of_ble_eq_true rfl) dX6_index_99 ⟨by decide, by decide⟩ (st1 := [.int r5]) rfl (cells' := 0) (slots' := 0) rfl rfl (fun H locs hI => ?_)
    obtain ⟨h, h2⟩ := g_sp2 h
    subst h
    subst h2
    exact g_iret X hI dX6_index_102
def f_X6_index_33 : Nat → gG → Nat → Int32 → Int32 → Int32 → Int32 → Int32 → Int32 → Option (Int32 × gG)
  | 0, _, _, _, _, _, _, _, _ => none
  | fu + 1, G, x0, x1, x2, x3, x4, x5, x6 =>
    gb (g_fA G x0 5 2) fun g1 =>
    gb (g_il G g1 x1) fun v2 =>
    if v2 ≤ x6 then
      some (x5, G)
    else
    if x6 = 0 then
      f_X6_index_65 (f_X6_index_33 fu) G x0 x1 x2 x3 x4 x5 x6 x2
    else
    if x6 = 1 then
      f_X6_index_65 (f_X6_index_33 fu) G x0 x1 x2 x3 x4 x5 x6 x3
    else
    f_X6_index_65 (f_X6_index_33 fu) G x0 x1 x2 x3 x4 x5 x6 x4
set_option maxHeartbeats 4000000 in
set_option maxRecDepth 100000 in
theorem b_X6_index_33 {p : Program} {l : Launch} {e : Env} {s : State} {m : MethodId} {args : Array Value} {below : List Frame} {meth : Method} {c : Code} {E : gE} {G0 : gG} {n0 : Nat} (X : g_X E G0 n0 p s m args meth c cX6_index 9 RX6 "index" (some .int)) {n : Nat} {r : Int32} {Gr : gG} (fu : Nat) : ∀ {G : gG} {H : Heap} {locs : List Loc} (_ : g_I E (g_A G0 n0) G n s.heap H locs) {x0 : Nat} {x1 : Int32} {x2 : Int32} {x3 : Int32} {x4 : Int32} {x5 : Int32} {x6 : Int32} (_ : f_X6_index_33 fu G x0 x1 x2 x3 x4 x5 x6 = some (r, Gr)) {ls : Array Slot} (_ : lv_has ls 9 [(0, .ref x0), (1, .int x1), (2, .int x2), (3, .int x3), (4, .int x4), (5, .int x5), (6, .int x6)]), W p l e rm_X6_index s m args below meth c H locs 0 0 (MQ below (g_Q E G0 n0 (some (.int r)) Gr n) args s rm_X6_index.cells rm_X6_index.slots (g_A G0 n0)) (F0 m 33 ls []) := by
  have hx := X.1
  have hb := X.2.1
  induction fu with
  | zero =>
    intro G H locs hI x0 x1 x2 x3 x4 x5 x6 h ls hl
    rw [f_X6_index_33] at h
    cases h
  | succ fu ih =>
    intro G H locs hI x0 x1 x2 x3 x4 x5 x6 h ls hl
    rw [f_X6_index_33] at h
    refine lv_iload hx hb dX6_index_33 (lv_at hl 6 rfl) ?_
    refine lv_aload_n hx hb dX6_index_35 rfl (lv_at hl 0 rfl) ?_
    obtain ⟨g1, eg1, h⟩ := gb_s h
    refine g_get X hI (g_fA_s eg1) (C := RX6) (T := TX6) (N := 17) rfl gu_X6 (by decide) tw_3_44 dX6_index_36 ?_
    refine lv_iload_n hx hb dX6_index_39 rfl (lv_at hl 1 rfl) ?_
    obtain ⟨v2, ev2, h⟩ := gb_s h
    refine g_iald X hI ev2 dX6_index_40 ?_
    refine lv_icmp_ge (tgt := 119) hx hb dX6_index_41 (by decide) (fun c => ?_) (fun c => ?_)
    · have h := g_t _ c h
      refine lv_iload hx hb dX6_index_119 (lv_at hl 5 rfl) ?_
      obtain ⟨h, h2⟩ := g_sp2 h
      subst h
      subst h2
      exact g_iret X hI dX6_index_121
    · have h := g_f _ c h
      refine lv_iload hx hb dX6_index_44 (lv_at hl 6 rfl) ?_
      refine lv_if_ne (tgt := 53) hx hb dX6_index_46 (by decide) (fun c => ?_) (fun c => ?_)
      · have h := g_f _ c h
        refine lv_iload hx hb dX6_index_53 (lv_at hl 6 rfl) ?_
        refine lv_iconst (v := 1) hx hb dX6_index_55 (by decide) ?_
        refine lv_icmp_ne (tgt := 63) hx hb dX6_index_56 (by decide) (fun c => ?_) (fun c => ?_)
        · have h := g_f _ c h
          refine lv_iload hx hb dX6_index_63 (lv_at hl 4 rfl) ?_
          exact b_X6_index_65 X ih hI h (lv_sub hl [0, 1, 2, 3, 4, 5, 6] rfl)
        · have h := g_t _ c h
          refine lv_iload_n hx hb dX6_index_59 rfl (lv_at hl 3 rfl) ?_
          refine lv_goto (tgt := 65) hx hb dX6_index_60 (by decide) ?_
          exact b_X6_index_65 X ih hI h (lv_sub hl [0, 1, 2, 3, 4, 5, 6] rfl)
      · have h := g_t _ c h
        refine lv_iload_n hx hb dX6_index_49 rfl (lv_at hl 2 rfl) ?_
        refine lv_goto (tgt := 65) hx hb dX6_index_50 (by decide) ?_
        exact b_X6_index_65 X ih hI h (lv_sub hl [0, 1, 2, 3, 4, 5, 6] rfl)
def f_X6_index (G : gG) (th : Nat) (a1 : Int32) (a2 : Int32) (a3 : Int32) (a4 : Int32) : Option (Int32 × gG) :=
  gck (g_isO G th 5) <|
  gb (f_X6_isTensor G th a1) fun r1 =>
  if r1 = 0 then
    some ((-1), G)
  else
  gb (g_fA G th 5 5) fun g2 =>
  gb (g_zl G g2 a1) fun v3 =>
  if v3 = 0 then
    f_X6_index_33 5000 G th a1 a2 a3 a4 0 0
  else
  gck (g_isO G th 5) <|
  gb2 (f_X6_fails G th (1 : Int32) (-3 : Int32)) fun r4 G5 =>
  some (r4, G5)
theorem gm_X6_index : g_M yX6_index cX6_index 9 (some .int) 4 := ⟨tw_3_151, tw_1_5, by decide +kernel, Or.inl (by decide +kernel)⟩
set_option maxHeartbeats 4000000 in
set_option maxRecDepth 100000 in
theorem c_X6_index {l : Launch} {E : gE} {G : gG} {n : Nat} {th : Nat} {a1 : Int32} {a2 : Int32} {a3 : Int32} {a4 : Int32} {r : Int32} {Gr : gG} (h : f_X6_index G th a1 a2 a3 a4 = some (r, Gr)) : g_Met l yX6_index cX6_index 9 (some .int) rm_X6_index E G n [.ref th, .int a1, .int a2, .int a3, .int a4] (some (.int r)) Gr n := by
  refine g_ofW gm_X6_index (Nat.le_of_ble_eq_true rfl) ?_
  intro p e s m below meth c ls X hl hI
  have hx := X.1
  have hb := X.2.1
  have X : g_X E G n p s m _ meth c cX6_index 9 RX6 "index" (some .int) := X
  have hl : lv_has ls 9 [(0, .ref th), (1, .int a1), (2, .int a2), (3, .int a3), (4, .int a4)] := hl
  unfold f_X6_index at h
  refine lv_aload_n hx hb dX6_index_0 rfl (lv_at hl 0 rfl) ?_
  refine lv_iload_n hx hb dX6_index_1 rfl (lv_at hl 1 rfl) ?_
  obtain ⟨cO, h⟩ := gck_s h
  obtain ⟨r1, er1, h⟩ := gb_s h
  refine g_callV X hI (q := (RX6, TX6, 17)) (b := th) (av := [.int a1]) cO rfl (c_X6_isTensor er1) gm_X6_isTensor tw_3_119 tw_3_121 tw_p_22 ⟨by decide, by decide⟩ hl.1 (rest := []) rfl (Nat.le_of_ble_eq_true rfl) dX6_index_2 ⟨by decide, by decide⟩ (st1 := [.int r1]) rfl (cells' := 0) (slots' := 0) rfl rfl (fun H locs hI => ?_)
  refine lv_if_ne (tgt := 10) hx hb dX6_index_5 (by decide) (fun c => ?_) (fun c => ?_)
  · have h := g_f _ c h
    refine lv_aload_n hx hb dX6_index_10 rfl (lv_at hl 0 rfl) ?_
    obtain ⟨g2, eg2, h⟩ := gb_s h
    refine g_get X hI (g_fA_s eg2) (C := RX6) (T := TX6) (N := 17) rfl gu_X6 (by decide) tw_3_47 dX6_index_11 ?_
    refine lv_iload_n hx hb dX6_index_14 rfl (lv_at hl 1 rfl) ?_
    obtain ⟨v3, ev3, h⟩ := gb_s h
    refine g_zald X hI ev3 dX6_index_15 ?_
    refine lv_if_eq (tgt := 27) hx hb dX6_index_16 (by decide) (fun c => ?_) (fun c => ?_)
    · have h := g_t _ c h
      refine lv_iconst (v := 0) hx hb dX6_index_27 (by decide) ?_
      refine lv_istore (lv' := [(5, .int 0), (0, .ref th), (1, .int a1), (2, .int a2), (3, .int a3), (4, .int a4)]) hx hb dX6_index_28 hl (by decide) rfl (fun ls hl => ?_)
      refine lv_iconst (v := 0) hx hb dX6_index_30 (by decide) ?_
      refine lv_istore (lv' := [(6, .int 0), (5, .int 0), (0, .ref th), (1, .int a1), (2, .int a2), (3, .int a3), (4, .int a4)]) hx hb dX6_index_31 hl (by decide) rfl (fun ls hl => ?_)
      exact b_X6_index_33 X 5000 hI h (lv_sub hl [2, 3, 4, 5, 6, 1, 0] rfl)
    · have h := g_f _ c h
      refine lv_aload_n hx hb dX6_index_19 rfl (lv_at hl 0 rfl) ?_
      refine lv_iconst (v := 1) hx hb dX6_index_20 (by decide) ?_
      refine lv_bipush (v := (-3)) hx hb dX6_index_21 (by decide) ?_
      obtain ⟨cO, h⟩ := gck_s h
      obtain ⟨r4, G5, er4, h⟩ := gb2_s h
      refine g_callV X hI (q := (RX6, TX6, 17)) (b := th) (av := [.int 1, .int (-3)]) cO rfl (c_X6_fails er4) gm_X6_fails tw_3_111 tw_3_113 tw_p_21 ⟨by decide, by decide⟩ hl.1 (rest := []) rfl (Nat.le_of_ble_eq_true rfl) dX6_index_23 ⟨by decide, by decide⟩ (st1 := [.int r4]) rfl (cells' := 0) (slots' := 0) rfl rfl (fun H locs hI => ?_)
      obtain ⟨h, h2⟩ := g_sp2 h
      subst h
      subst h2
      exact g_iret X hI dX6_index_26
  · have h := g_t _ c h
    refine lv_iconst (v := (-1)) hx hb dX6_index_8 (by decide) ?_
    obtain ⟨h, h2⟩ := g_sp2 h
    subst h
    subst h2
    exact g_iret X hI dX6_index_9
abbrev rm_X6_of : Room := { frames := 2, cells := 0, slots := 0, locals := 46 }
def f_X6_of (G : gG) (th : Nat) (a1 : Int32) (a2 : Int32) : Option (Int32 × gG) :=
  gck (g_isO G th 5) <|
  gb (f_X6_isTensor G th a1) fun r1 =>
  if r1 = 0 then
    some ((-1), G)
  else
  if (f_X6_in (Int32.toInt64 a2) (0 : Int64) (5 : Int64)) = 0 then
    some ((-1), G)
  else
  gb (g_fA G th 5 5) fun g2 =>
  gb (g_zl G g2 a1) fun v3 =>
  if v3 = 0 then
    if a2 = 0 then
      gb (g_fA G th 5 1) fun g12 =>
      gb (g_il G g12 a1) fun v13 =>
      some (v13, G)
    else
    if a2 = 1 then
      gb (g_fA G th 5 2) fun g10 =>
      gb (g_il G g10 a1) fun v11 =>
      some (v11, G)
    else
    if a2 = 2 then
      gb (g_fA G th 5 4) fun g8 =>
      gb (g_il G g8 a1) fun v9 =>
      some (v9, G)
    else
    gb (g_fA G th 5 2) fun g4 =>
    gb (g_il G g4 a1) fun v5 =>
    if v5 ≤ (a2 - 3) then
      some ((-3), G)
    else
    gb (g_fA G th 5 3) fun g6 =>
    gb (g_il G g6 ((((3 : Int32) * a1) + a2) - 3)) fun v7 =>
    some (v7, G)
  else
  gck (g_isO G th 5) <|
  gb2 (f_X6_fails G th (1 : Int32) (-3 : Int32)) fun r14 G15 =>
  some (r14, G15)
theorem gm_X6_of : g_M yX6_of cX6_of 3 (some .int) 2 := ⟨tw_3_155, tw_1_5, by decide +kernel, Or.inl (by decide +kernel)⟩
set_option maxHeartbeats 4000000 in
set_option maxRecDepth 100000 in
theorem c_X6_of {l : Launch} {E : gE} {G : gG} {n : Nat} {th : Nat} {a1 : Int32} {a2 : Int32} {r : Int32} {Gr : gG} (h : f_X6_of G th a1 a2 = some (r, Gr)) : g_Met l yX6_of cX6_of 3 (some .int) rm_X6_of E G n [.ref th, .int a1, .int a2] (some (.int r)) Gr n := by
  refine g_ofW gm_X6_of (Nat.le_of_ble_eq_true rfl) ?_
  intro p e s m below meth c ls X hl hI
  have hx := X.1
  have hb := X.2.1
  have X : g_X E G n p s m _ meth c cX6_of 3 RX6 "of" (some .int) := X
  have hl : lv_has ls 3 [(0, .ref th), (1, .int a1), (2, .int a2)] := hl
  unfold f_X6_of at h
  refine lv_aload_n hx hb dX6_of_0 rfl (lv_at hl 0 rfl) ?_
  refine lv_iload_n hx hb dX6_of_1 rfl (lv_at hl 1 rfl) ?_
  obtain ⟨cO, h⟩ := gck_s h
  obtain ⟨r1, er1, h⟩ := gb_s h
  refine g_callV X hI (q := (RX6, TX6, 17)) (b := th) (av := [.int a1]) cO rfl (c_X6_isTensor er1) gm_X6_isTensor tw_3_119 tw_3_121 tw_p_22 ⟨by decide, by decide⟩ hl.1 (rest := []) rfl (Nat.le_of_ble_eq_true rfl) dX6_of_2 ⟨by decide, by decide⟩ (st1 := [.int r1]) rfl (cells' := 0) (slots' := 0) rfl rfl (fun H locs hI => ?_)
  refine lv_if_eq (tgt := 20) hx hb dX6_of_5 (by decide) (fun c => ?_) (fun c => ?_)
  · have h := g_t _ c h
    refine lv_iconst (v := (-1)) hx hb dX6_of_20 (by decide) ?_
    obtain ⟨h, h2⟩ := g_sp2 h
    subst h
    subst h2
    exact g_iret X hI dX6_of_21
  · have h := g_f _ c h
    refine lv_iload_n hx hb dX6_of_8 rfl (lv_at hl 2 rfl) ?_
    refine lv_i2l (v := (Int32.toInt64 a2)) hx hb dX6_of_9 rfl ?_
    refine lv_lconst (v := 0) hx hb dX6_of_10 (by decide) ?_
    refine lv_ldc2 (v := 5) hx hb X.2.2.2.1 (X.2.2.2.2.1 _ tw_3_99) dX6_of_11 ?_
    refine g_callS X hI (av := [.long (Int32.toInt64 a2), .long 0, .long 5]) (c_X6_in (Int32.toInt64 a2) (0 : Int64) (5 : Int64)) gm_X6_in tw_3_100 tw_3_101 ⟨by decide, by decide⟩ hl.1 (rest := []) rfl (Nat.le_of_ble_eq_true rfl) dX6_of_14 ⟨by decide, by decide⟩ (st1 := [.int (f_X6_in (Int32.toInt64 a2) (0 : Int64) (5 : Int64))]) rfl (cells' := 0) (slots' := 0) rfl rfl (fun H locs hI => ?_)
    refine lv_if_ne (tgt := 22) hx hb dX6_of_17 (by decide) (fun c => ?_) (fun c => ?_)
    · have h := g_f _ c h
      refine lv_aload_n hx hb dX6_of_22 rfl (lv_at hl 0 rfl) ?_
      obtain ⟨g2, eg2, h⟩ := gb_s h
      refine g_get X hI (g_fA_s eg2) (C := RX6) (T := TX6) (N := 17) rfl gu_X6 (by decide) tw_3_47 dX6_of_23 ?_
      refine lv_iload_n hx hb dX6_of_26 rfl (lv_at hl 1 rfl) ?_
      obtain ⟨v3, ev3, h⟩ := gb_s h
      refine g_zald X hI ev3 dX6_of_27 ?_
      refine lv_if_eq (tgt := 39) hx hb dX6_of_28 (by decide) (fun c => ?_) (fun c => ?_)
      · have h := g_t _ c h
        refine lv_iload_n hx hb dX6_of_39 rfl (lv_at hl 2 rfl) ?_
        refine lv_if_ne (tgt := 52) hx hb dX6_of_40 (by decide) (fun c => ?_) (fun c => ?_)
        · have h := g_f _ c h
          refine lv_iload_n hx hb dX6_of_52 rfl (lv_at hl 2 rfl) ?_
          refine lv_iconst (v := 1) hx hb dX6_of_53 (by decide) ?_
          refine lv_icmp_ne (tgt := 66) hx hb dX6_of_54 (by decide) (fun c => ?_) (fun c => ?_)
          · have h := g_f _ c h
            refine lv_iload_n hx hb dX6_of_66 rfl (lv_at hl 2 rfl) ?_
            refine lv_iconst (v := 2) hx hb dX6_of_67 (by decide) ?_
            refine lv_icmp_ne (tgt := 80) hx hb dX6_of_68 (by decide) (fun c => ?_) (fun c => ?_)
            · have h := g_f _ c h
              refine lv_iload_n hx hb dX6_of_80 rfl (lv_at hl 2 rfl) ?_
              refine lv_iconst (v := 3) hx hb dX6_of_81 (by decide) ?_
              refine lv_isub (x := a2) (y := 3) hx hb dX6_of_82 ?_
              refine lv_aload_n hx hb dX6_of_83 rfl (lv_at hl 0 rfl) ?_
              obtain ⟨g4, eg4, h⟩ := gb_s h
              refine g_get X hI (g_fA_s eg4) (C := RX6) (T := TX6) (N := 17) rfl gu_X6 (by decide) tw_3_44 dX6_of_84 ?_
              refine lv_iload_n hx hb dX6_of_87 rfl (lv_at hl 1 rfl) ?_
              obtain ⟨v5, ev5, h⟩ := gb_s h
              refine g_iald X hI ev5 dX6_of_88 ?_
              refine lv_icmp_ge (tgt := 107) hx hb dX6_of_89 (by decide) (fun c => ?_) (fun c => ?_)
              · have h := g_t _ c h
                refine lv_bipush (v := (-3)) hx hb dX6_of_107 (by decide) ?_
                obtain ⟨h, h2⟩ := g_sp2 h
                subst h
                subst h2
                exact g_iret X hI dX6_of_109
              · have h := g_f _ c h
                refine lv_aload_n hx hb dX6_of_92 rfl (lv_at hl 0 rfl) ?_
                obtain ⟨g6, eg6, h⟩ := gb_s h
                refine g_get X hI (g_fA_s eg6) (C := RX6) (T := TX6) (N := 17) rfl gu_X6 (by decide) tw_3_45 dX6_of_93 ?_
                refine lv_iconst (v := 3) hx hb dX6_of_96 (by decide) ?_
                refine lv_iload_n hx hb dX6_of_97 rfl (lv_at hl 1 rfl) ?_
                refine lv_imul (x := 3) (y := a1) hx hb dX6_of_98 ?_
                refine lv_iload_n hx hb dX6_of_99 rfl (lv_at hl 2 rfl) ?_
                refine lv_iadd (x := ((3 : Int32) * a1)) (y := a2) hx hb dX6_of_100 ?_
                refine lv_iconst (v := 3) hx hb dX6_of_101 (by decide) ?_
                refine lv_isub (x := (((3 : Int32) * a1) + a2)) (y := 3) hx hb dX6_of_102 ?_
                obtain ⟨v7, ev7, h⟩ := gb_s h
                refine g_iald X hI ev7 dX6_of_103 ?_
                refine lv_goto (tgt := 109) hx hb dX6_of_104 (by decide) ?_
                obtain ⟨h, h2⟩ := g_sp2 h
                subst h
                subst h2
                exact g_iret X hI dX6_of_109
            · have h := g_t _ c h
              refine lv_aload_n hx hb dX6_of_71 rfl (lv_at hl 0 rfl) ?_
              obtain ⟨g8, eg8, h⟩ := gb_s h
              refine g_get X hI (g_fA_s eg8) (C := RX6) (T := TX6) (N := 17) rfl gu_X6 (by decide) tw_3_46 dX6_of_72 ?_
              refine lv_iload_n hx hb dX6_of_75 rfl (lv_at hl 1 rfl) ?_
              obtain ⟨v9, ev9, h⟩ := gb_s h
              refine g_iald X hI ev9 dX6_of_76 ?_
              refine lv_goto (tgt := 109) hx hb dX6_of_77 (by decide) ?_
              obtain ⟨h, h2⟩ := g_sp2 h
              subst h
              subst h2
              exact g_iret X hI dX6_of_109
          · have h := g_t _ c h
            refine lv_aload_n hx hb dX6_of_57 rfl (lv_at hl 0 rfl) ?_
            obtain ⟨g10, eg10, h⟩ := gb_s h
            refine g_get X hI (g_fA_s eg10) (C := RX6) (T := TX6) (N := 17) rfl gu_X6 (by decide) tw_3_44 dX6_of_58 ?_
            refine lv_iload_n hx hb dX6_of_61 rfl (lv_at hl 1 rfl) ?_
            obtain ⟨v11, ev11, h⟩ := gb_s h
            refine g_iald X hI ev11 dX6_of_62 ?_
            refine lv_goto (tgt := 109) hx hb dX6_of_63 (by decide) ?_
            obtain ⟨h, h2⟩ := g_sp2 h
            subst h
            subst h2
            exact g_iret X hI dX6_of_109
        · have h := g_t _ c h
          refine lv_aload_n hx hb dX6_of_43 rfl (lv_at hl 0 rfl) ?_
          obtain ⟨g12, eg12, h⟩ := gb_s h
          refine g_get X hI (g_fA_s eg12) (C := RX6) (T := TX6) (N := 17) rfl gu_X6 (by decide) tw_3_43 dX6_of_44 ?_
          refine lv_iload_n hx hb dX6_of_47 rfl (lv_at hl 1 rfl) ?_
          obtain ⟨v13, ev13, h⟩ := gb_s h
          refine g_iald X hI ev13 dX6_of_48 ?_
          refine lv_goto (tgt := 109) hx hb dX6_of_49 (by decide) ?_
          obtain ⟨h, h2⟩ := g_sp2 h
          subst h
          subst h2
          exact g_iret X hI dX6_of_109
      · have h := g_f _ c h
        refine lv_aload_n hx hb dX6_of_31 rfl (lv_at hl 0 rfl) ?_
        refine lv_iconst (v := 1) hx hb dX6_of_32 (by decide) ?_
        refine lv_bipush (v := (-3)) hx hb dX6_of_33 (by decide) ?_
        obtain ⟨cO, h⟩ := gck_s h
        obtain ⟨r14, G15, er14, h⟩ := gb2_s h
        refine g_callV X hI (q := (RX6, TX6, 17)) (b := th) (av := [.int 1, .int (-3)]) cO rfl (c_X6_fails er14) gm_X6_fails tw_3_111 tw_3_113 tw_p_21 ⟨by decide, by decide⟩ hl.1 (rest := []) rfl (Nat.le_of_ble_eq_true rfl) dX6_of_35 ⟨by decide, by decide⟩ (st1 := [.int r14]) rfl (cells' := 0) (slots' := 0) rfl rfl (fun H locs hI => ?_)
        obtain ⟨h, h2⟩ := g_sp2 h
        subst h
        subst h2
        exact g_iret X hI dX6_of_38
    · have h := g_t _ c h
      refine lv_iconst (v := (-1)) hx hb dX6_of_20 (by decide) ?_
      obtain ⟨h, h2⟩ := g_sp2 h
      subst h
      subst h2
      exact g_iret X hI dX6_of_21
abbrev rm_X6_spreads : Room := { frames := 2, cells := 0, slots := 0, locals := 46 }
def f_X6_spreads (G : gG) (th : Nat) (a1 : Int32) (a2 : Int32) : Option (Int32 × gG) :=
  gck (g_isO G th 5) <|
  gb (f_X6_begin G th a1) fun G1 =>
  gck (g_isO G1 th 5) <|
  gb2 (f_X6_spreadWith G1 th a2) fun r2 G3 =>
  if r2 < 0 then
    gb (g_fI G3 th 5 14) fun v4 =>
    if v4 ≤ 240 then
      some (0, G3)
    else
    gck (g_isO G3 th 5) <|
    gb2 (f_X6_fails G3 th (6 : Int32) (-3 : Int32)) fun r5 G6 =>
    some (r5, G6)
  else
  gck (g_isO G3 th 5) <|
  gb2 (f_X6_fails G3 th (6 : Int32) r2) fun r7 G8 =>
  some (r7, G8)
theorem gm_X6_spreads : g_M yX6_spreads cX6_spreads 4 (some .int) 2 := ⟨tw_3_174, tw_1_5, by decide +kernel, Or.inl (by decide +kernel)⟩
set_option maxHeartbeats 4000000 in
set_option maxRecDepth 100000 in
theorem c_X6_spreads {l : Launch} {E : gE} {G : gG} {n : Nat} {th : Nat} {a1 : Int32} {a2 : Int32} {r : Int32} {Gr : gG} (h : f_X6_spreads G th a1 a2 = some (r, Gr)) : g_Met l yX6_spreads cX6_spreads 4 (some .int) rm_X6_spreads E G n [.ref th, .int a1, .int a2] (some (.int r)) Gr n := by
  refine g_ofW gm_X6_spreads (Nat.le_of_ble_eq_true rfl) ?_
  intro p e s m below meth c ls X hl hI
  have hx := X.1
  have hb := X.2.1
  have X : g_X E G n p s m _ meth c cX6_spreads 4 RX6 "spreads" (some .int) := X
  have hl : lv_has ls 4 [(0, .ref th), (1, .int a1), (2, .int a2)] := hl
  unfold f_X6_spreads at h
  refine lv_aload_n hx hb dX6_spreads_0 rfl (lv_at hl 0 rfl) ?_
  refine lv_iload_n hx hb dX6_spreads_1 rfl (lv_at hl 1 rfl) ?_
  obtain ⟨cO, h⟩ := gck_s h
  obtain ⟨G1, eG1, h⟩ := gb_s h
  refine g_callV X hI (q := (RX6, TX6, 17)) (b := th) (av := [.int a1]) cO rfl (c_X6_begin eG1) gm_X6_begin tw_3_175 tw_3_177 tw_p_25 ⟨by decide, by decide⟩ hl.1 (rest := []) rfl (Nat.le_of_ble_eq_true rfl) dX6_spreads_2 ⟨by decide, by decide⟩ (st1 := []) rfl (cells' := 0) (slots' := 0) rfl rfl (fun H locs hI => ?_)
  refine lv_aload_n hx hb dX6_spreads_5 rfl (lv_at hl 0 rfl) ?_
  refine lv_iload_n hx hb dX6_spreads_6 rfl (lv_at hl 2 rfl) ?_
  obtain ⟨cO, h⟩ := gck_s h
  obtain ⟨r2, G3, er2, h⟩ := gb2_s h
  refine g_callV X hI (q := (RX6, TX6, 17)) (b := th) (av := [.int a2]) cO rfl (c_X6_spreadWith er2) gm_X6_spreadWith tw_3_183 tw_3_185 tw_p_27 ⟨by decide, by decide⟩ hl.1 (rest := []) rfl (Nat.le_of_ble_eq_true rfl) dX6_spreads_7 ⟨by decide, by decide⟩ (st1 := [.int r2]) rfl (cells' := 0) (slots' := 0) rfl rfl (fun H locs hI => ?_)
  refine lv_istore_n (lv' := [(3, .int r2), (0, .ref th), (1, .int a1), (2, .int a2)]) hx hb dX6_spreads_10 rfl hl (by decide) rfl (fun ls hl => ?_)
  refine lv_iload_n hx hb dX6_spreads_11 rfl (lv_at hl 0 rfl) ?_
  refine lv_if_lt (tgt := 25) hx hb dX6_spreads_12 (by decide) (fun c => ?_) (fun c => ?_)
  · have h := g_t _ c h
    refine lv_aload_n hx hb dX6_spreads_25 rfl (lv_at hl 1 rfl) ?_
    obtain ⟨v4, ev4, h⟩ := gb_s h
    refine g_get X hI (g_fI_s ev4) (C := RX6) (T := TX6) (N := 17) rfl gu_X6 (by decide) tw_3_56 dX6_spreads_26 ?_
    refine lv_sipush (v := 240) hx hb dX6_spreads_29 (by decide) ?_
    refine lv_icmp_le (tgt := 46) hx hb dX6_spreads_32 (by decide) (fun c => ?_) (fun c => ?_)
    · have h := g_t _ c h
      refine lv_iconst (v := 0) hx hb dX6_spreads_46 (by decide) ?_
      obtain ⟨h, h2⟩ := g_sp2 h
      subst h
      subst h2
      exact g_iret X hI dX6_spreads_47
    · have h := g_f _ c h
      refine lv_aload_n hx hb dX6_spreads_35 rfl (lv_at hl 1 rfl) ?_
      refine lv_bipush (v := 6) hx hb dX6_spreads_36 (by decide) ?_
      refine lv_bipush (v := (-3)) hx hb dX6_spreads_38 (by decide) ?_
      obtain ⟨cO, h⟩ := gck_s h
      obtain ⟨r5, G6, er5, h⟩ := gb2_s h
      refine g_callV X hI (q := (RX6, TX6, 17)) (b := th) (av := [.int 6, .int (-3)]) cO rfl (c_X6_fails er5) gm_X6_fails tw_3_111 tw_3_113 tw_p_21 ⟨by decide, by decide⟩ hl.1 (rest := []) rfl (Nat.le_of_ble_eq_true rfl) dX6_spreads_40 ⟨by decide, by decide⟩ (st1 := [.int r5]) rfl (cells' := 0) (slots' := 0) rfl rfl (fun H locs hI => ?_)
      refine lv_goto (tgt := 47) hx hb dX6_spreads_43 (by decide) ?_
      obtain ⟨h, h2⟩ := g_sp2 h
      subst h
      subst h2
      exact g_iret X hI dX6_spreads_47
  · have h := g_f _ c h
    refine lv_aload_n hx hb dX6_spreads_15 rfl (lv_at hl 1 rfl) ?_
    refine lv_bipush (v := 6) hx hb dX6_spreads_16 (by decide) ?_
    refine lv_iload_n hx hb dX6_spreads_18 rfl (lv_at hl 0 rfl) ?_
    obtain ⟨cO, h⟩ := gck_s h
    obtain ⟨r7, G8, er7, h⟩ := gb2_s h
    refine g_callV X hI (q := (RX6, TX6, 17)) (b := th) (av := [.int 6, .int r2]) cO rfl (c_X6_fails er7) gm_X6_fails tw_3_111 tw_3_113 tw_p_21 ⟨by decide, by decide⟩ hl.1 (rest := []) rfl (Nat.le_of_ble_eq_true rfl) dX6_spreads_19 ⟨by decide, by decide⟩ (st1 := [.int r7]) rfl (cells' := 0) (slots' := 0) rfl rfl (fun H locs hI => ?_)
    refine lv_goto (tgt := 47) hx hb dX6_spreads_22 (by decide) ?_
    obtain ⟨h, h2⟩ := g_sp2 h
    subst h
    subst h2
    exact g_iret X hI dX6_spreads_47
abbrev rm_X6_acts : Room := { frames := 5, cells := 0, slots := 0, locals := 152 }
def f_X6_acts_279 (k55 : gG → Nat → Int32 → Int32 → Int32 → Int32 → Int32 → Option (Int32 × gG)) (G : gG) (x0 : Nat) (x1 : Int32) (x2 : Int32) (x3 : Int32) (x5 : Int32) (x6 : Int32) : Option (Int32 × gG) :=
  gl (x6 + 1 : Int32) fun v1 =>
  k55 G x0 x1 x2 x3 x5 v1
set_option maxHeartbeats 4000000 in
set_option maxRecDepth 100000 in
theorem b_X6_acts_279 {p : Program} {l : Launch} {e : Env} {s : State} {m : MethodId} {args : Array Value} {below : List Frame} {meth : Method} {c : Code} {E : gE} {G0 : gG} {n0 : Nat} (X : g_X E G0 n0 p s m args meth c cX6_acts 11 RX6 "acts" (some .int)) {G : gG} {n : Nat} {r : Int32} {Gr : gG} {k55 : gG → Nat → Int32 → Int32 → Int32 → Int32 → Int32 → Option (Int32 × gG)} (hk55 : ∀ {G : gG} {H : Heap} {locs : List Loc} (_ : g_I E (g_A G0 n0) G n s.heap H locs) {x0 : Nat} {x1 : Int32} {x2 : Int32} {x3 : Int32} {x5 : Int32} {x6 : Int32}  (_ : k55 G x0 x1 x2 x3 x5 x6 = some (r, Gr)) {ls : Array Slot} (_ : lv_has ls 11 [(0, .ref x0), (1, .int x1), (2, .int x2), (3, .int x3), (5, .int x5), (6, .int x6)]), W p l e rm_X6_acts s m args below meth c H locs 0 0 (MQ below (g_Q E G0 n0 (some (.int r)) Gr n) args s rm_X6_acts.cells rm_X6_acts.slots (g_A G0 n0)) (F0 m 55 ls [])) {H : Heap} {locs : List Loc} (hI : g_I E (g_A G0 n0) G n s.heap H locs) {x0 : Nat} {x1 : Int32} {x2 : Int32} {x3 : Int32} {x5 : Int32} {x6 : Int32} (h : f_X6_acts_279 k55 G x0 x1 x2 x3 x5 x6 = some (r, Gr)) {ls : Array Slot} (hl : lv_has ls 11 [(0, .ref x0), (1, .int x1), (2, .int x2), (3, .int x3), (5, .int x5), (6, .int x6)]) : W p l e rm_X6_acts s m args below meth c H locs 0 0 (MQ below (g_Q E G0 n0 (some (.int r)) Gr n) args s rm_X6_acts.cells rm_X6_acts.slots (g_A G0 n0)) (F0 m 279 ls []) := by
  have hx := X.1
  have hb := X.2.1
  unfold f_X6_acts_279 at h
  obtain ⟨v1, ev1, h⟩ := gl_s h
  refine lv_iinc (v := v1) (lv' := [(6, .int v1), (0, .ref x0), (1, .int x1), (2, .int x2), (3, .int x3), (5, .int x5)]) hx hb dX6_acts_279 hl (k := 5) rfl (by rw [← ev1]; rfl) (by decide) rfl (fun ls hl => ?_)
  refine lv_goto (tgt := 55) hx hb dX6_acts_282 (by decide) ?_
  exact hk55 hI h (lv_sub hl [1, 2, 3, 4, 5, 0] rfl)
def f_X6_acts_257 (k55 : gG → Nat → Int32 → Int32 → Int32 → Int32 → Int32 → Option (Int32 × gG)) (G : gG) (x0 : Nat) (x1 : Int32) (x2 : Int32) (x3 : Int32) (x5 : Int32) (x6 : Int32) (x7 : Int64) (x9 : Int64) : Option (Int32 × gG) :=
  gb (g_fA G x0 5 7) fun g1 =>
  gb (f_X6_wholes x1 x7 x9 x5) fun r2 =>
  gb (g_ls G g1 x6 (f_X6_kept r2 x5)) fun G3 =>
  f_X6_acts_279 k55 G3 x0 x1 x2 x3 x5 x6
set_option maxHeartbeats 4000000 in
set_option maxRecDepth 100000 in
theorem b_X6_acts_257 {p : Program} {l : Launch} {e : Env} {s : State} {m : MethodId} {args : Array Value} {below : List Frame} {meth : Method} {c : Code} {E : gE} {G0 : gG} {n0 : Nat} (X : g_X E G0 n0 p s m args meth c cX6_acts 11 RX6 "acts" (some .int)) {G : gG} {n : Nat} {r : Int32} {Gr : gG} {k55 : gG → Nat → Int32 → Int32 → Int32 → Int32 → Int32 → Option (Int32 × gG)} (hk55 : ∀ {G : gG} {H : Heap} {locs : List Loc} (_ : g_I E (g_A G0 n0) G n s.heap H locs) {x0 : Nat} {x1 : Int32} {x2 : Int32} {x3 : Int32} {x5 : Int32} {x6 : Int32}  (_ : k55 G x0 x1 x2 x3 x5 x6 = some (r, Gr)) {ls : Array Slot} (_ : lv_has ls 11 [(0, .ref x0), (1, .int x1), (2, .int x2), (3, .int x3), (5, .int x5), (6, .int x6)]), W p l e rm_X6_acts s m args below meth c H locs 0 0 (MQ below (g_Q E G0 n0 (some (.int r)) Gr n) args s rm_X6_acts.cells rm_X6_acts.slots (g_A G0 n0)) (F0 m 55 ls [])) {H : Heap} {locs : List Loc} (hI : g_I E (g_A G0 n0) G n s.heap H locs) {x0 : Nat} {x1 : Int32} {x2 : Int32} {x3 : Int32} {x5 : Int32} {x6 : Int32} {x7 : Int64} {x9 : Int64} (h : f_X6_acts_257 k55 G x0 x1 x2 x3 x5 x6 x7 x9 = some (r, Gr)) {ls : Array Slot} (hl : lv_has ls 11 [(0, .ref x0), (1, .int x1), (2, .int x2), (3, .int x3), (5, .int x5), (6, .int x6), (7, .long x7), (9, .long x9)]) : W p l e rm_X6_acts s m args below meth c H locs 0 0 (MQ below (g_Q E G0 n0 (some (.int r)) Gr n) args s rm_X6_acts.cells rm_X6_acts.slots (g_A G0 n0)) (F0 m 257 ls []) := by
  have hx := X.1
  have hb := X.2.1
  unfold f_X6_acts_257 at h
  refine lv_aload_n hx hb dX6_acts_257 rfl (lv_at hl 0 rfl) ?_
  obtain ⟨g1, eg1, h⟩ := gb_s h
  refine g_get X hI (g_fA_s eg1) (C := RX6) (T := TX6) (N := 17) rfl gu_X6 (by decide) tw_3_49 dX6_acts_258 ?_
  refine lv_iload hx hb dX6_acts_261 (lv_at hl 5 rfl) ?_
  refine lv_iload_n hx hb dX6_acts_263 rfl (lv_at hl 1 rfl) ?_
  refine lv_lload hx hb dX6_acts_264 (lv_at hl 6 rfl) ?_
  refine lv_lload hx hb dX6_acts_266 (lv_at hl 7 rfl) ?_
  refine lv_iload hx hb dX6_acts_268 (lv_at hl 4 rfl) ?_
  obtain ⟨r2, er2, h⟩ := gb_s h
  refine g_callS X hI (av := [.int x1, .long x7, .long x9, .int x5]) (c_X6_wholes er2) gm_X6_wholes tw_4_50 tw_4_51 ⟨by decide, by decide⟩ hl.1 (rest := [.int x6, .ref g1]) rfl (Nat.le_of_ble_eq_true rfl) dX6_acts_270 ⟨by decide, by decide⟩ (st1 := [.long r2, .int x6, .ref g1]) rfl (cells' := 0) (slots' := 0) rfl rfl (fun H locs hI => ?_)
  refine lv_iload hx hb dX6_acts_273 (lv_at hl 4 rfl) ?_
  refine g_callS X hI (av := [.long r2, .int x5]) (c_X6_kept r2 x5) gm_X6_kept tw_3_131 tw_3_132 ⟨by decide, by decide⟩ hl.1 (rest := [.int x6, .ref g1]) rfl (Nat.le_of_ble_eq_true rfl) dX6_acts_275 ⟨by decide, by decide⟩ (st1 := [.long (f_X6_kept r2 x5), .int x6, .ref g1]) rfl (cells' := 0) (slots' := 0) rfl rfl (fun H locs hI => ?_)
  obtain ⟨G3, eG3, h⟩ := gb_s h
  refine g_last X hI (G' := G3) eG3 dX6_acts_278 (fun H locs hI => ?_)
  exact b_X6_acts_279 X hk55 hI h (lv_sub hl [0, 1, 2, 3, 4, 5] rfl)
def f_X6_acts_144 (k55 : gG → Nat → Int32 → Int32 → Int32 → Int32 → Int32 → Option (Int32 × gG)) (G : gG) (x0 : Nat) (x1 : Int32) (x2 : Int32) (x3 : Int32) (x5 : Int32) (x6 : Int32) (x7 : Int64) (x9 : Int64) : Option (Int32 × gG) :=
  if x5 = 4 then
    gb (g_fA G x0 5 7) fun g11 =>
    gb (f_X6_wide x7) fun r12 =>
    gb (f_X6_wide x9) fun r13 =>
    gb (f_X6_reckoned x1 r12 r13 (4 : Int32)) fun r14 =>
    gb (f_X6_floatBits r14) fun r15 =>
    gb (g_ls G g11 x6 r15) fun G16 =>
    f_X6_acts_279 k55 G16 x0 x1 x2 x3 x5 x6
  else
  if x5 = 5 then
    gb (g_fA G x0 5 7) fun g8 =>
    gb (f_X6_reckoned x1 x7 x9 (5 : Int32)) fun r9 =>
    gb (g_ls G g8 x6 r9) fun G10 =>
    f_X6_acts_279 k55 G10 x0 x1 x2 x3 x5 x6
  else
  if x1 < 4 then
    f_X6_acts_257 k55 G x0 x1 x2 x3 x5 x6 x7 x9
  else
  if (7 : Int32) < x1 then
    f_X6_acts_257 k55 G x0 x1 x2 x3 x5 x6 x7 x9
  else
  if x9 = 0 then
    gb (g_fI G x0 5 8) fun v1 =>
    if v1 = 0 then
      gck (g_isO G x0 5) <|
      gb2 (f_X6_fails G x0 (5 : Int32) x6) fun r6 G7 =>
      some (r6, G7)
    else
    gb (g_fA G x0 5 7) fun g2 =>
    gb (g_ls G g2 x6 0) fun G3 =>
    gb (g_fI G3 x0 5 16) fun v4 =>
    gb (g_sI G3 x0 5 16 (v4 + 1)) fun G5 =>
    f_X6_acts_279 k55 G5 x0 x1 x2 x3 x5 x6
  else
  f_X6_acts_257 k55 G x0 x1 x2 x3 x5 x6 x7 x9
set_option maxHeartbeats 4000000 in
set_option maxRecDepth 100000 in
theorem b_X6_acts_144 {p : Program} {l : Launch} {e : Env} {s : State} {m : MethodId} {args : Array Value} {below : List Frame} {meth : Method} {c : Code} {E : gE} {G0 : gG} {n0 : Nat} (X : g_X E G0 n0 p s m args meth c cX6_acts 11 RX6 "acts" (some .int)) {G : gG} {n : Nat} {r : Int32} {Gr : gG} {k55 : gG → Nat → Int32 → Int32 → Int32 → Int32 → Int32 → Option (Int32 × gG)} (hk55 : ∀ {G : gG} {H : Heap} {locs : List Loc} (_ : g_I E (g_A G0 n0) G n s.heap H locs) {x0 : Nat} {x1 : Int32} {x2 : Int32} {x3 : Int32} {x5 : Int32} {x6 : Int32}  (_ : k55 G x0 x1 x2 x3 x5 x6 = some (r, Gr)) {ls : Array Slot} (_ : lv_has ls 11 [(0, .ref x0), (1, .int x1), (2, .int x2), (3, .int x3), (5, .int x5), (6, .int x6)]), W p l e rm_X6_acts s m args below meth c H locs 0 0 (MQ below (g_Q E G0 n0 (some (.int r)) Gr n) args s rm_X6_acts.cells rm_X6_acts.slots (g_A G0 n0)) (F0 m 55 ls [])) {H : Heap} {locs : List Loc} (hI : g_I E (g_A G0 n0) G n s.heap H locs) {x0 : Nat} {x1 : Int32} {x2 : Int32} {x3 : Int32} {x5 : Int32} {x6 : Int32} {x7 : Int64} {x9 : Int64} (h : f_X6_acts_144 k55 G x0 x1 x2 x3 x5 x6 x7 x9 = some (r, Gr)) {ls : Array Slot} (hl : lv_has ls 11 [(0, .ref x0), (1, .int x1), (2, .int x2), (3, .int x3), (5, .int x5), (6, .int x6), (7, .long x7), (9, .long x9)]) : W p l e rm_X6_acts s m args below meth c H locs 0 0 (MQ below (g_Q E G0 n0 (some (.int r)) Gr n) args s rm_X6_acts.cells rm_X6_acts.slots (g_A G0 n0)) (F0 m 144 ls []) := by
  have hx := X.1
  have hb := X.2.1
  unfold f_X6_acts_144 at h
  refine lv_iload hx hb dX6_acts_144 (lv_at hl 4 rfl) ?_
  refine lv_iconst (v := 4) hx hb dX6_acts_146 (by decide) ?_
  refine lv_icmp_ne (tgt := 178) hx hb dX6_acts_147 (by decide) (fun c => ?_) (fun c => ?_)
  · have h := g_f _ c h
    refine lv_iload hx hb dX6_acts_178 (lv_at hl 4 rfl) ?_
    refine lv_iconst (v := 5) hx hb dX6_acts_180 (by decide) ?_
    refine lv_icmp_ne (tgt := 203) hx hb dX6_acts_181 (by decide) (fun c => ?_) (fun c => ?_)
    · have h := g_f _ c h
      refine lv_iload_n hx hb dX6_acts_203 rfl (lv_at hl 1 rfl) ?_
      refine lv_iconst (v := 4) hx hb dX6_acts_204 (by decide) ?_
      refine lv_icmp_lt (tgt := 257) hx hb dX6_acts_205 (by decide) (fun c => ?_) (fun c => ?_)
      · have h := g_t _ c h
        exact b_X6_acts_257 X hk55 hI h (lv_sub hl [0, 1, 2, 3, 4, 5, 6, 7] rfl)
      · have h := g_f _ c h
        refine lv_iload_n hx hb dX6_acts_208 rfl (lv_at hl 1 rfl) ?_
        refine lv_bipush (v := 7) hx hb dX6_acts_209 (by decide) ?_
        refine lv_icmp_gt (tgt := 257) hx hb dX6_acts_211 (by decide) (fun c => ?_) (fun c => ?_)
        · have h := g_t _ c h
          exact b_X6_acts_257 X hk55 hI h (lv_sub hl [0, 1, 2, 3, 4, 5, 6, 7] rfl)
        · have h := g_f _ c h
          refine lv_lload hx hb dX6_acts_214 (lv_at hl 7 rfl) ?_
          refine lv_lconst (v := 0) hx hb dX6_acts_216 (by decide) ?_
          refine W.lcmp hx hb dX6_acts_217 ?_
          refine lv_if_ne (tgt := 257) hx hb dX6_acts_218 (by decide) (fun c => ?_) (fun c => ?_)
          · have h := g_f _ ((not_congr (lg_cmp_eq _ _)).mp c) h
            exact b_X6_acts_257 X hk55 hI h (lv_sub hl [0, 1, 2, 3, 4, 5, 6, 7] rfl)
          · have h := g_t _ ((lg_cmp_eq _ _).mp c) h
            refine lv_aload_n hx hb dX6_acts_221 rfl (lv_at hl 0 rfl) ?_
            obtain ⟨v1, ev1, h⟩ := gb_s h
            refine g_get X hI (g_fI_s ev1) (C := RX6) (T := TX6) (N := 17) rfl gu_X6 (by decide) tw_3_50 dX6_acts_222 ?_
            refine lv_if_ne (tgt := 236) hx hb dX6_acts_225 (by decide) (fun c => ?_) (fun c => ?_)
            · have h := g_f _ c h
              refine lv_aload_n hx hb dX6_acts_236 rfl (lv_at hl 0 rfl) ?_
              obtain ⟨g2, eg2, h⟩ := gb_s h
              refine g_get X hI (g_fA_s eg2) (C := RX6) (T := TX6) (N := 17) rfl gu_X6 (by decide) tw_3_49 dX6_acts_237 ?_
              refine lv_iload hx hb dX6_acts_240 (lv_at hl 5 rfl) ?_
              refine lv_lconst (v := 0) hx hb dX6_acts_242 (by decide) ?_
              obtain ⟨G3, eG3, h⟩ := gb_s h
              refine g_last X hI (G' := G3) eG3 dX6_acts_243 (fun H locs hI => ?_)
              refine lv_aload_n hx hb dX6_acts_244 rfl (lv_at hl 0 rfl) ?_
              refine lv_dup hx hb dX6_acts_245 rfl ?_
              obtain ⟨v4, ev4, h⟩ := gb_s h
              refine g_get X hI (g_fI_s ev4) (C := RX6) (T := TX6) (N := 17) rfl gu_X6 (by decide) tw_3_58 dX6_acts_246 ?_
              refine lv_iconst (v := 1) hx hb dX6_acts_249 (by decide) ?_
              refine lv_iadd (x := v4) (y := 1) hx hb dX6_acts_250 ?_
              obtain ⟨G5, eG5, h⟩ := gb_s h
              refine g_put X hI (k := 16) (v := .int (v4 + 1)) (G' := G5) eG5 (C := RX6) (T := TX6) (N := 17) rfl gu_X6 tyX6 tyX6_ok nmX6 (by decide) tw_3_58 rfl rfl rfl dX6_acts_251 (fun H locs hI => ?_)
              refine lv_goto (tgt := 279) hx hb dX6_acts_254 (by decide) ?_
              exact b_X6_acts_279 X hk55 hI h (lv_sub hl [0, 1, 2, 3, 4, 5] rfl)
            · have h := g_t _ c h
              refine lv_aload_n hx hb dX6_acts_228 rfl (lv_at hl 0 rfl) ?_
              refine lv_iconst (v := 5) hx hb dX6_acts_229 (by decide) ?_
              refine lv_iload hx hb dX6_acts_230 (lv_at hl 5 rfl) ?_
              obtain ⟨cO, h⟩ := gck_s h
              obtain ⟨r6, G7, er6, h⟩ := gb2_s h
              refine g_callV X hI (q := (RX6, TX6, 17)) (b := x0) (av := [.int 5, .int x6]) cO rfl (c_X6_fails er6) gm_X6_fails tw_3_111 tw_3_113 tw_p_21 ⟨by decide, by decide⟩ hl.1 (rest := []) rfl (Nat.le_of_ble_eq_true rfl) dX6_acts_232 ⟨by decide, by decide⟩ (st1 := [.int r6]) rfl (cells' := 0) (slots' := 0) rfl rfl (fun H locs hI => ?_)
              obtain ⟨h, h2⟩ := g_sp2 h
              subst h
              subst h2
              exact g_iret X hI dX6_acts_235
    · have h := g_t _ c h
      refine lv_aload_n hx hb dX6_acts_184 rfl (lv_at hl 0 rfl) ?_
      obtain ⟨g8, eg8, h⟩ := gb_s h
      refine g_get X hI (g_fA_s eg8) (C := RX6) (T := TX6) (N := 17) rfl gu_X6 (by decide) tw_3_49 dX6_acts_185 ?_
      refine lv_iload hx hb dX6_acts_188 (lv_at hl 5 rfl) ?_
      refine lv_iload_n hx hb dX6_acts_190 rfl (lv_at hl 1 rfl) ?_
      refine lv_lload hx hb dX6_acts_191 (lv_at hl 6 rfl) ?_
      refine lv_lload hx hb dX6_acts_193 (lv_at hl 7 rfl) ?_
      refine lv_iconst (v := 5) hx hb dX6_acts_195 (by decide) ?_
      obtain ⟨r9, er9, h⟩ := gb_s h
      refine g_callS X hI (av := [.int x1, .long x7, .long x9, .int 5]) (c_X6_reckoned er9) gm_X6_reckoned tw_4_23 tw_4_24 ⟨by decide, by decide⟩ hl.1 (rest := [.int x6, .ref g8]) rfl (Nat.le_of_ble_eq_true rfl) dX6_acts_196 ⟨by decide, by decide⟩ (st1 := [.long r9, .int x6, .ref g8]) rfl (cells' := 0) (slots' := 0) rfl rfl (fun H locs hI => ?_)
      obtain ⟨G10, eG10, h⟩ := gb_s h
      refine g_last X hI (G' := G10) eG10 dX6_acts_199 (fun H locs hI => ?_)
      refine lv_goto (tgt := 279) hx hb dX6_acts_200 (by decide) ?_
      exact b_X6_acts_279 X hk55 hI h (lv_sub hl [0, 1, 2, 3, 4, 5] rfl)
  · have h := g_t _ c h
    refine lv_aload_n hx hb dX6_acts_150 rfl (lv_at hl 0 rfl) ?_
    obtain ⟨g11, eg11, h⟩ := gb_s h
    refine g_get X hI (g_fA_s eg11) (C := RX6) (T := TX6) (N := 17) rfl gu_X6 (by decide) tw_3_49 dX6_acts_151 ?_
    refine lv_iload hx hb dX6_acts_154 (lv_at hl 5 rfl) ?_
    refine lv_iload_n hx hb dX6_acts_156 rfl (lv_at hl 1 rfl) ?_
    refine lv_lload hx hb dX6_acts_157 (lv_at hl 6 rfl) ?_
    obtain ⟨r12, er12, h⟩ := gb_s h
    refine g_callS X hI (av := [.long x7]) (c_X6_wide er12) gm_X6_wide tw_4_5 tw_4_6 ⟨by decide, by decide⟩ hl.1 (rest := [.int x1, .int x6, .ref g11]) rfl (Nat.le_of_ble_eq_true rfl) dX6_acts_159 ⟨by decide, by decide⟩ (st1 := [.long r12, .int x1, .int x6, .ref g11]) rfl (cells' := 0) (slots' := 0) rfl rfl (fun H locs hI => ?_)
    refine lv_lload hx hb dX6_acts_162 (lv_at hl 7 rfl) ?_
    obtain ⟨r13, er13, h⟩ := gb_s h
    refine g_callS X hI (av := [.long x9]) (c_X6_wide er13) gm_X6_wide tw_4_5 tw_4_6 ⟨by decide, by decide⟩ hl.1 (rest := [.long r12, .int x1, .int x6, .ref g11]) rfl (Nat.le_of_ble_eq_true rfl) dX6_acts_164 ⟨by decide, by decide⟩ (st1 := [.long r13, .long r12, .int x1, .int x6, .ref g11]) rfl (cells' := 0) (slots' := 0) rfl rfl (fun H locs hI => ?_)
    refine lv_iconst (v := 4) hx hb dX6_acts_167 (by decide) ?_
    obtain ⟨r14, er14, h⟩ := gb_s h
    refine g_callS X hI (av := [.int x1, .long r12, .long r13, .int 4]) (c_X6_reckoned er14) gm_X6_reckoned tw_4_23 tw_4_24 ⟨by decide, by decide⟩ hl.1 (rest := [.int x6, .ref g11]) rfl (Nat.le_of_ble_eq_true rfl) dX6_acts_168 ⟨by decide, by decide⟩ (st1 := [.long r14, .int x6, .ref g11]) rfl (cells' := 0) (slots' := 0) rfl rfl (fun H locs hI => ?_)
    obtain ⟨r15, er15, h⟩ := gb_s h
    refine g_callS X hI (av := [.long r14]) (c_X6_floatBits er15) gm_X6_floatBits tw_3_225 tw_3_226 ⟨by decide, by decide⟩ hl.1 (rest := [.int x6, .ref g11]) rfl (Nat.le_of_ble_eq_true rfl) dX6_acts_171 ⟨by decide, by decide⟩ (st1 := [.long r15, .int x6, .ref g11]) rfl (cells' := 0) (slots' := 0) rfl rfl (fun H locs hI => ?_)
    obtain ⟨G16, eG16, h⟩ := gb_s h
    refine g_last X hI (G' := G16) eG16 dX6_acts_174 (fun H locs hI => ?_)
    refine lv_goto (tgt := 279) hx hb dX6_acts_175 (by decide) ?_
    exact b_X6_acts_279 X hk55 hI h (lv_sub hl [0, 1, 2, 3, 4, 5] rfl)
def f_X6_acts_140 (k55 : gG → Nat → Int32 → Int32 → Int32 → Int32 → Int32 → Option (Int32 × gG)) (G : gG) (x0 : Nat) (x1 : Int32) (x2 : Int32) (x3 : Int32) (x5 : Int32) (x6 : Int32) (s0 : Int64) (s1 : Int32) (s2 : Nat) : Option (Int32 × gG) :=
  gb (g_ls G s2 s1 s0) fun G1 =>
  f_X6_acts_279 k55 G1 x0 x1 x2 x3 x5 x6
set_option maxHeartbeats 4000000 in
set_option maxRecDepth 100000 in
theorem b_X6_acts_140 {p : Program} {l : Launch} {e : Env} {s : State} {m : MethodId} {args : Array Value} {below : List Frame} {meth : Method} {c : Code} {E : gE} {G0 : gG} {n0 : Nat} (X : g_X E G0 n0 p s m args meth c cX6_acts 11 RX6 "acts" (some .int)) {G : gG} {n : Nat} {r : Int32} {Gr : gG} {k55 : gG → Nat → Int32 → Int32 → Int32 → Int32 → Int32 → Option (Int32 × gG)} (hk55 : ∀ {G : gG} {H : Heap} {locs : List Loc} (_ : g_I E (g_A G0 n0) G n s.heap H locs) {x0 : Nat} {x1 : Int32} {x2 : Int32} {x3 : Int32} {x5 : Int32} {x6 : Int32}  (_ : k55 G x0 x1 x2 x3 x5 x6 = some (r, Gr)) {ls : Array Slot} (_ : lv_has ls 11 [(0, .ref x0), (1, .int x1), (2, .int x2), (3, .int x3), (5, .int x5), (6, .int x6)]), W p l e rm_X6_acts s m args below meth c H locs 0 0 (MQ below (g_Q E G0 n0 (some (.int r)) Gr n) args s rm_X6_acts.cells rm_X6_acts.slots (g_A G0 n0)) (F0 m 55 ls [])) {H : Heap} {locs : List Loc} (hI : g_I E (g_A G0 n0) G n s.heap H locs) {x0 : Nat} {x1 : Int32} {x2 : Int32} {x3 : Int32} {x5 : Int32} {x6 : Int32} {s0 : Int64} {s1 : Int32} {s2 : Nat} (h : f_X6_acts_140 k55 G x0 x1 x2 x3 x5 x6 s0 s1 s2 = some (r, Gr)) {ls : Array Slot} (hl : lv_has ls 11 [(0, .ref x0), (1, .int x1), (2, .int x2), (3, .int x3), (5, .int x5), (6, .int x6)]) : W p l e rm_X6_acts s m args below meth c H locs 0 0 (MQ below (g_Q E G0 n0 (some (.int r)) Gr n) args s rm_X6_acts.cells rm_X6_acts.slots (g_A G0 n0)) (F0 m 140 ls [.long s0, .int s1, .ref s2]) := by
  have hx := X.1
  have hb := X.2.1
  unfold f_X6_acts_140 at h
  obtain ⟨G1, eG1, h⟩ := gb_s h
  refine g_last X hI (G' := G1) eG1 dX6_acts_140 (fun H locs hI => ?_)
  refine lv_goto (tgt := 279) hx hb dX6_acts_141 (by decide) ?_
  exact b_X6_acts_279 X hk55 hI h (lv_sub hl [0, 1, 2, 3, 4, 5] rfl)
def f_X6_acts_55 : Nat → gG → Nat → Int32 → Int32 → Int32 → Int32 → Int32 → Option (Int32 × gG)
  | 0, _, _, _, _, _, _, _ => none
  | fu + 1, G, x0, x1, x2, x3, x5, x6 =>
    gb (g_fI G x0 5 14) fun v1 =>
    if v1 ≤ x6 then
      gb (g_fI G x0 5 9) fun v2 =>
      gb (g_fI G x0 5 16) fun v3 =>
      gb (g_sI G x0 5 9 (v2 + v3)) fun G4 =>
      some (0, G4)
    else
    gck (g_isO G x0 5) <|
    gb (f_X6_at G x0 x2 x6) fun r5 =>
    gb (g_fA G x0 5 1) fun g6 =>
    gb (g_il G g6 x2) fun v7 =>
    gb (f_X6_to r5 v7 x5) fun r8 =>
    gck (g_isO G x0 5) <|
    gb (f_X6_at G x0 x3 x6) fun r9 =>
    gb (g_fA G x0 5 1) fun g10 =>
    gb (g_il G g10 x3) fun v11 =>
    gb (f_X6_to r9 v11 x5) fun r12 =>
    if x1 < 18 then
      f_X6_acts_144 (f_X6_acts_55 fu) G x0 x1 x2 x3 x5 x6 r8 r12
    else
    if (21 : Int32) < x1 then
      f_X6_acts_144 (f_X6_acts_55 fu) G x0 x1 x2 x3 x5 x6 r8 r12
    else
    gb (g_fA G x0 5 7) fun g13 =>
    gb (f_X6_holds x1 r8 r12 x5) fun r14 =>
    if r14 = 0 then
      f_X6_acts_140 (f_X6_acts_55 fu) G x0 x1 x2 x3 x5 x6 0 x6 g13
    else
    f_X6_acts_140 (f_X6_acts_55 fu) G x0 x1 x2 x3 x5 x6 1 x6 g13
set_option maxHeartbeats 4000000 in
set_option maxRecDepth 100000 in
theorem b_X6_acts_55 {p : Program} {l : Launch} {e : Env} {s : State} {m : MethodId} {args : Array Value} {below : List Frame} {meth : Method} {c : Code} {E : gE} {G0 : gG} {n0 : Nat} (X : g_X E G0 n0 p s m args meth c cX6_acts 11 RX6 "acts" (some .int)) {n : Nat} {r : Int32} {Gr : gG} (fu : Nat) : ∀ {G : gG} {H : Heap} {locs : List Loc} (_ : g_I E (g_A G0 n0) G n s.heap H locs) {x0 : Nat} {x1 : Int32} {x2 : Int32} {x3 : Int32} {x5 : Int32} {x6 : Int32} (_ : f_X6_acts_55 fu G x0 x1 x2 x3 x5 x6 = some (r, Gr)) {ls : Array Slot} (_ : lv_has ls 11 [(0, .ref x0), (1, .int x1), (2, .int x2), (3, .int x3), (5, .int x5), (6, .int x6)]), W p l e rm_X6_acts s m args below meth c H locs 0 0 (MQ below (g_Q E G0 n0 (some (.int r)) Gr n) args s rm_X6_acts.cells rm_X6_acts.slots (g_A G0 n0)) (F0 m 55 ls []) := by
  have hx := X.1
  have hb := X.2.1
  induction fu with
  | zero =>
    intro G H locs hI x0 x1 x2 x3 x5 x6 h ls hl
    rw [f_X6_acts_55] at h
    cases h
  | succ fu ih =>
    intro G H locs hI x0 x1 x2 x3 x5 x6 h ls hl
    rw [f_X6_acts_55] at h
    refine lv_iload hx hb dX6_acts_55 (lv_at hl 5 rfl) ?_
    refine lv_aload_n hx hb dX6_acts_57 rfl (lv_at hl 0 rfl) ?_
    obtain ⟨v1, ev1, h⟩ := gb_s h
    refine g_get X hI (g_fI_s ev1) (C := RX6) (T := TX6) (N := 17) rfl gu_X6 (by decide) tw_3_56 dX6_acts_58 ?_
    refine lv_icmp_ge (tgt := 285) hx hb dX6_acts_61 (by decide) (fun c => ?_) (fun c => ?_)
    · have h := g_t _ c h
      refine lv_aload_n hx hb dX6_acts_285 rfl (lv_at hl 0 rfl) ?_
      refine lv_dup hx hb dX6_acts_286 rfl ?_
      obtain ⟨v2, ev2, h⟩ := gb_s h
      refine g_get X hI (g_fI_s ev2) (C := RX6) (T := TX6) (N := 17) rfl gu_X6 (by decide) tw_3_51 dX6_acts_287 ?_
      refine lv_aload_n hx hb dX6_acts_290 rfl (lv_at hl 0 rfl) ?_
      obtain ⟨v3, ev3, h⟩ := gb_s h
      refine g_get X hI (g_fI_s ev3) (C := RX6) (T := TX6) (N := 17) rfl gu_X6 (by decide) tw_3_58 dX6_acts_291 ?_
      refine lv_iadd (x := v2) (y := v3) hx hb dX6_acts_294 ?_
      obtain ⟨G4, eG4, h⟩ := gb_s h
      refine g_put X hI (k := 9) (v := .int (v2 + v3)) (G' := G4) eG4 (C := RX6) (T := TX6) (N := 17) rfl gu_X6 tyX6 tyX6_ok nmX6 (by decide) tw_3_51 rfl rfl rfl dX6_acts_295 (fun H locs hI => ?_)
      refine lv_iconst (v := 0) hx hb dX6_acts_298 (by decide) ?_
      obtain ⟨h, h2⟩ := g_sp2 h
      subst h
      subst h2
      exact g_iret X hI dX6_acts_299
    · have h := g_f _ c h
      refine lv_aload_n hx hb dX6_acts_64 rfl (lv_at hl 0 rfl) ?_
      refine lv_iload_n hx hb dX6_acts_65 rfl (lv_at hl 2 rfl) ?_
      refine lv_iload hx hb dX6_acts_66 (lv_at hl 5 rfl) ?_
      obtain ⟨cO, h⟩ := gck_s h
      obtain ⟨r5, er5, h⟩ := gb_s h
      refine g_callV X hI (q := (RX6, TX6, 17)) (b := x0) (av := [.int x2, .int x6]) cO rfl (c_X6_at er5) gm_X6_at tw_3_191 tw_3_193 tw_p_29 ⟨by decide, by decide⟩ hl.1 (rest := []) rfl (Nat.le_of_ble_eq_true rfl) dX6_acts_68 ⟨by decide, by decide⟩ (st1 := [.long r5]) rfl (cells' := 0) (slots' := 0) rfl rfl (fun H locs hI => ?_)
      refine lv_aload_n hx hb dX6_acts_71 rfl (lv_at hl 0 rfl) ?_
      obtain ⟨g6, eg6, h⟩ := gb_s h
      refine g_get X hI (g_fA_s eg6) (C := RX6) (T := TX6) (N := 17) rfl gu_X6 (by decide) tw_3_43 dX6_acts_72 ?_
      refine lv_iload_n hx hb dX6_acts_75 rfl (lv_at hl 2 rfl) ?_
      obtain ⟨v7, ev7, h⟩ := gb_s h
      refine g_iald X hI ev7 dX6_acts_76 ?_
      refine lv_iload hx hb dX6_acts_77 (lv_at hl 4 rfl) ?_
      obtain ⟨r8, er8, h⟩ := gb_s h
      refine g_callS X hI (av := [.long r5, .int v7, .int x5]) (c_X6_to er8) gm_X6_to tw_3_195 tw_3_196 ⟨by decide, by decide⟩ hl.1 (rest := []) rfl (Nat.le_of_ble_eq_true rfl) dX6_acts_79 ⟨by decide, by decide⟩ (st1 := [.long r8]) rfl (cells' := 0) (slots' := 0) rfl rfl (fun H locs hI => ?_)
      refine lv_lstore (lv' := [(7, .long r8), (0, .ref x0), (1, .int x1), (2, .int x2), (3, .int x3), (5, .int x5), (6, .int x6)]) hx hb dX6_acts_82 hl (by decide) rfl (fun ls hl => ?_)
      refine lv_aload_n hx hb dX6_acts_84 rfl (lv_at hl 1 rfl) ?_
      refine lv_iload_n hx hb dX6_acts_85 rfl (lv_at hl 4 rfl) ?_
      refine lv_iload hx hb dX6_acts_86 (lv_at hl 6 rfl) ?_
      obtain ⟨cO, h⟩ := gck_s h
      obtain ⟨r9, er9, h⟩ := gb_s h
      refine g_callV X hI (q := (RX6, TX6, 17)) (b := x0) (av := [.int x3, .int x6]) cO rfl (c_X6_at er9) gm_X6_at tw_3_191 tw_3_193 tw_p_29 ⟨by decide, by decide⟩ hl.1 (rest := []) rfl (Nat.le_of_ble_eq_true rfl) dX6_acts_88 ⟨by decide, by decide⟩ (st1 := [.long r9]) rfl (cells' := 0) (slots' := 0) rfl rfl (fun H locs hI => ?_)
      refine lv_aload_n hx hb dX6_acts_91 rfl (lv_at hl 1 rfl) ?_
      obtain ⟨g10, eg10, h⟩ := gb_s h
      refine g_get X hI (g_fA_s eg10) (C := RX6) (T := TX6) (N := 17) rfl gu_X6 (by decide) tw_3_43 dX6_acts_92 ?_
      refine lv_iload_n hx hb dX6_acts_95 rfl (lv_at hl 4 rfl) ?_
      obtain ⟨v11, ev11, h⟩ := gb_s h
      refine g_iald X hI ev11 dX6_acts_96 ?_
      refine lv_iload hx hb dX6_acts_97 (lv_at hl 5 rfl) ?_
      obtain ⟨r12, er12, h⟩ := gb_s h
      refine g_callS X hI (av := [.long r9, .int v11, .int x5]) (c_X6_to er12) gm_X6_to tw_3_195 tw_3_196 ⟨by decide, by decide⟩ hl.1 (rest := []) rfl (Nat.le_of_ble_eq_true rfl) dX6_acts_99 ⟨by decide, by decide⟩ (st1 := [.long r12]) rfl (cells' := 0) (slots' := 0) rfl rfl (fun H locs hI => ?_)
      refine lv_lstore (lv' := [(9, .long r12), (7, .long r8), (0, .ref x0), (1, .int x1), (2, .int x2), (3, .int x3), (5, .int x5), (6, .int x6)]) hx hb dX6_acts_102 hl (by decide) rfl (fun ls hl => ?_)
      refine lv_iload_n hx hb dX6_acts_104 rfl (lv_at hl 3 rfl) ?_
      refine lv_bipush (v := 18) hx hb dX6_acts_105 (by decide) ?_
      refine lv_icmp_lt (tgt := 144) hx hb dX6_acts_107 (by decide) (fun c => ?_) (fun c => ?_)
      · have h := g_t _ c h
        exact b_X6_acts_144 X ih hI h (lv_sub hl [2, 3, 4, 5, 6, 7, 1, 0] rfl)
      · have h := g_f _ c h
        refine lv_iload_n hx hb dX6_acts_110 rfl (lv_at hl 3 rfl) ?_
        refine lv_bipush (v := 21) hx hb dX6_acts_111 (by decide) ?_
        refine lv_icmp_gt (tgt := 144) hx hb dX6_acts_113 (by decide) (fun c => ?_) (fun c => ?_)
        · have h := g_t _ c h
          exact b_X6_acts_144 X ih hI h (lv_sub hl [2, 3, 4, 5, 6, 7, 1, 0] rfl)
        · have h := g_f _ c h
          refine lv_aload_n hx hb dX6_acts_116 rfl (lv_at hl 2 rfl) ?_
          obtain ⟨g13, eg13, h⟩ := gb_s h
          refine g_get X hI (g_fA_s eg13) (C := RX6) (T := TX6) (N := 17) rfl gu_X6 (by decide) tw_3_49 dX6_acts_117 ?_
          refine lv_iload hx hb dX6_acts_120 (lv_at hl 7 rfl) ?_
          refine lv_iload_n hx hb dX6_acts_122 rfl (lv_at hl 3 rfl) ?_
          refine lv_lload hx hb dX6_acts_123 (lv_at hl 1 rfl) ?_
          refine lv_lload hx hb dX6_acts_125 (lv_at hl 0 rfl) ?_
          refine lv_iload hx hb dX6_acts_127 (lv_at hl 6 rfl) ?_
          obtain ⟨r14, er14, h⟩ := gb_s h
          refine g_callS X hI (av := [.int x1, .long r8, .long r12, .int x5]) (c_X6_holds er14) gm_X6_holds tw_4_17 tw_4_18 ⟨by decide, by decide⟩ hl.1 (rest := [.int x6, .ref g13]) rfl (Nat.le_of_ble_eq_true rfl) dX6_acts_129 ⟨by decide, by decide⟩ (st1 := [.int r14, .int x6, .ref g13]) rfl (cells' := 0) (slots' := 0) rfl rfl (fun H locs hI => ?_)
          refine lv_if_eq (tgt := 139) hx hb dX6_acts_132 (by decide) (fun c => ?_) (fun c => ?_)
          · have h := g_t _ c h
            refine lv_lconst (v := 0) hx hb dX6_acts_139 (by decide) ?_
            exact b_X6_acts_140 X ih hI h (lv_sub hl [2, 3, 4, 5, 6, 7] rfl)
          · have h := g_f _ c h
            refine lv_lconst (v := 1) hx hb dX6_acts_135 (by decide) ?_
            refine lv_goto (tgt := 140) hx hb dX6_acts_136 (by decide) ?_
            exact b_X6_acts_140 X ih hI h (lv_sub hl [2, 3, 4, 5, 6, 7] rfl)
def f_X6_acts_44 (G : gG) (x0 : Nat) (x1 : Int32) (x2 : Int32) (x3 : Int32) (x5 : Int32) (s0 : Int32) (s1 : Nat) : Option (Int32 × gG) :=
  gb (g_sI G s1 5 15 s0) fun G1 =>
  gb (g_sI G1 x0 5 16 0) fun G2 =>
  f_X6_acts_55 5000 G2 x0 x1 x2 x3 x5 0
set_option maxHeartbeats 4000000 in
set_option maxRecDepth 100000 in
theorem b_X6_acts_44 {p : Program} {l : Launch} {e : Env} {s : State} {m : MethodId} {args : Array Value} {below : List Frame} {meth : Method} {c : Code} {E : gE} {G0 : gG} {n0 : Nat} (X : g_X E G0 n0 p s m args meth c cX6_acts 11 RX6 "acts" (some .int)) {G : gG} {n : Nat} {r : Int32} {Gr : gG} {H : Heap} {locs : List Loc} (hI : g_I E (g_A G0 n0) G n s.heap H locs) {x0 : Nat} {x1 : Int32} {x2 : Int32} {x3 : Int32} {x5 : Int32} {s0 : Int32} {s1 : Nat} (h : f_X6_acts_44 G x0 x1 x2 x3 x5 s0 s1 = some (r, Gr)) {ls : Array Slot} (hl : lv_has ls 11 [(0, .ref x0), (1, .int x1), (2, .int x2), (3, .int x3), (5, .int x5)]) : W p l e rm_X6_acts s m args below meth c H locs 0 0 (MQ below (g_Q E G0 n0 (some (.int r)) Gr n) args s rm_X6_acts.cells rm_X6_acts.slots (g_A G0 n0)) (F0 m 44 ls [.int s0, .ref s1]) := by
  have hx := X.1
  have hb := X.2.1
  unfold f_X6_acts_44 at h
  obtain ⟨G1, eG1, h⟩ := gb_s h
  refine g_put X hI (k := 15) (v := .int s0) (G' := G1) eG1 (C := RX6) (T := TX6) (N := 17) rfl gu_X6 tyX6 tyX6_ok nmX6 (by decide) tw_3_57 rfl rfl rfl dX6_acts_44 (fun H locs hI => ?_)
  refine lv_aload_n hx hb dX6_acts_47 rfl (lv_at hl 0 rfl) ?_
  refine lv_iconst (v := 0) hx hb dX6_acts_48 (by decide) ?_
  obtain ⟨G2, eG2, h⟩ := gb_s h
  refine g_put X hI (k := 16) (v := .int 0) (G' := G2) eG2 (C := RX6) (T := TX6) (N := 17) rfl gu_X6 tyX6 tyX6_ok nmX6 (by decide) tw_3_58 rfl rfl rfl dX6_acts_49 (fun H locs hI => ?_)
  refine lv_iconst (v := 0) hx hb dX6_acts_52 (by decide) ?_
  refine lv_istore (lv' := [(6, .int 0), (0, .ref x0), (1, .int x1), (2, .int x2), (3, .int x3), (5, .int x5)]) hx hb dX6_acts_53 hl (by decide) rfl (fun ls hl => ?_)
  exact b_X6_acts_55 X 5000 hI h (lv_sub hl [1, 2, 3, 4, 5, 0] rfl)
def f_X6_acts_42 (G : gG) (x0 : Nat) (x1 : Int32) (x2 : Int32) (x3 : Int32) (x5 : Int32) (s0 : Nat) : Option (Int32 × gG) :=
  f_X6_acts_44 G x0 x1 x2 x3 x5 x5 s0
set_option maxHeartbeats 4000000 in
set_option maxRecDepth 100000 in
theorem b_X6_acts_42 {p : Program} {l : Launch} {e : Env} {s : State} {m : MethodId} {args : Array Value} {below : List Frame} {meth : Method} {c : Code} {E : gE} {G0 : gG} {n0 : Nat} (X : g_X E G0 n0 p s m args meth c cX6_acts 11 RX6 "acts" (some .int)) {G : gG} {n : Nat} {r : Int32} {Gr : gG} {H : Heap} {locs : List Loc} (hI : g_I E (g_A G0 n0) G n s.heap H locs) {x0 : Nat} {x1 : Int32} {x2 : Int32} {x3 : Int32} {x5 : Int32} {s0 : Nat} (h : f_X6_acts_42 G x0 x1 x2 x3 x5 s0 = some (r, Gr)) {ls : Array Slot} (hl : lv_has ls 11 [(0, .ref x0), (1, .int x1), (2, .int x2), (3, .int x3), (5, .int x5)]) : W p l e rm_X6_acts s m args below meth c H locs 0 0 (MQ below (g_Q E G0 n0 (some (.int r)) Gr n) args s rm_X6_acts.cells rm_X6_acts.slots (g_A G0 n0)) (F0 m 42 ls [.ref s0]) := by
  have hx := X.1
  have hb := X.2.1
  unfold f_X6_acts_42 at h
  refine lv_iload hx hb dX6_acts_42 (lv_at hl 4 rfl) ?_
  exact b_X6_acts_44 X hI h (lv_sub hl [0, 1, 2, 3, 4] rfl)
def f_X6_acts (G : gG) (th : Nat) (a1 : Int32) (a2 : Int32) (a3 : Int32) : Option (Int32 × gG) :=
  gb (g_fA G th 5 1) fun g1 =>
  gb (g_il G g1 a2) fun v2 =>
  gb (g_fA G th 5 1) fun g3 =>
  gb (g_il G g3 a3) fun v4 =>
  gl ((f_X6_joined v2 v4) : Int32) fun v5 =>
  gl ((f_X6_laneOf a1 v5) : Int32) fun v6 =>
  if a1 < 18 then
    f_X6_acts_42 G th a1 a2 a3 v6 th
  else
  if (21 : Int32) < a1 then
    f_X6_acts_42 G th a1 a2 a3 v6 th
  else
  f_X6_acts_44 G th a1 a2 a3 v6 0 th
theorem gm_X6_acts : g_M yX6_acts cX6_acts 11 (some .int) 3 := ⟨tw_3_190, tw_1_5, by decide +kernel, Or.inl (by decide +kernel)⟩
set_option maxHeartbeats 4000000 in
set_option maxRecDepth 100000 in
theorem c_X6_acts {l : Launch} {E : gE} {G : gG} {n : Nat} {th : Nat} {a1 : Int32} {a2 : Int32} {a3 : Int32} {r : Int32} {Gr : gG} (h : f_X6_acts G th a1 a2 a3 = some (r, Gr)) : g_Met l yX6_acts cX6_acts 11 (some .int) rm_X6_acts E G n [.ref th, .int a1, .int a2, .int a3] (some (.int r)) Gr n := by
  refine g_ofW gm_X6_acts (Nat.le_of_ble_eq_true rfl) ?_
  intro p e s m below meth c ls X hl hI
  have hx := X.1
  have hb := X.2.1
  have X : g_X E G n p s m _ meth c cX6_acts 11 RX6 "acts" (some .int) := X
  have hl : lv_has ls 11 [(0, .ref th), (1, .int a1), (2, .int a2), (3, .int a3)] := hl
  unfold f_X6_acts at h
  refine lv_aload_n hx hb dX6_acts_0 rfl (lv_at hl 0 rfl) ?_
  obtain ⟨g1, eg1, h⟩ := gb_s h
  refine g_get X hI (g_fA_s eg1) (C := RX6) (T := TX6) (N := 17) rfl gu_X6 (by decide) tw_3_43 dX6_acts_1 ?_
  refine lv_iload_n hx hb dX6_acts_4 rfl (lv_at hl 2 rfl) ?_
  obtain ⟨v2, ev2, h⟩ := gb_s h
  refine g_iald X hI ev2 dX6_acts_5 ?_
  refine lv_aload_n hx hb dX6_acts_6 rfl (lv_at hl 0 rfl) ?_
  obtain ⟨g3, eg3, h⟩ := gb_s h
  refine g_get X hI (g_fA_s eg3) (C := RX6) (T := TX6) (N := 17) rfl gu_X6 (by decide) tw_3_43 dX6_acts_7 ?_
  refine lv_iload_n hx hb dX6_acts_10 rfl (lv_at hl 3 rfl) ?_
  obtain ⟨v4, ev4, h⟩ := gb_s h
  refine g_iald X hI ev4 dX6_acts_11 ?_
  refine g_callS X hI (av := [.int v2, .int v4]) (c_X6_joined v2 v4) gm_X6_joined tw_3_165 tw_3_166 ⟨by decide, by decide⟩ hl.1 (rest := []) rfl (Nat.le_of_ble_eq_true rfl) dX6_acts_12 ⟨by decide, by decide⟩ (st1 := [.int (f_X6_joined v2 v4)]) rfl (cells' := 0) (slots' := 0) rfl rfl (fun H locs hI => ?_)
  obtain ⟨v5, ev5, h⟩ := gl_s h
  refine g_topi ev5 ?_
  refine lv_istore (lv' := [(4, .int v5), (0, .ref th), (1, .int a1), (2, .int a2), (3, .int a3)]) hx hb dX6_acts_15 hl (by decide) rfl (fun ls hl => ?_)
  refine lv_iload_n hx hb dX6_acts_17 rfl (lv_at hl 2 rfl) ?_
  refine lv_iload hx hb dX6_acts_18 (lv_at hl 0 rfl) ?_
  refine g_callS X hI (av := [.int a1, .int v5]) (c_X6_laneOf a1 v5) gm_X6_laneOf tw_3_168 tw_3_169 ⟨by decide, by decide⟩ hl.1 (rest := []) rfl (Nat.le_of_ble_eq_true rfl) dX6_acts_20 ⟨by decide, by decide⟩ (st1 := [.int (f_X6_laneOf a1 v5)]) rfl (cells' := 0) (slots' := 0) rfl rfl (fun H locs hI => ?_)
  obtain ⟨v6, ev6, h⟩ := gl_s h
  refine g_topi ev6 ?_
  refine lv_istore (lv' := [(5, .int v6), (4, .int v5), (0, .ref th), (1, .int a1), (2, .int a2), (3, .int a3)]) hx hb dX6_acts_23 hl (by decide) rfl (fun ls hl => ?_)
  refine lv_aload_n hx hb dX6_acts_25 rfl (lv_at hl 2 rfl) ?_
  refine lv_iload_n hx hb dX6_acts_26 rfl (lv_at hl 3 rfl) ?_
  refine lv_bipush (v := 18) hx hb dX6_acts_27 (by decide) ?_
  refine lv_icmp_lt (tgt := 42) hx hb dX6_acts_29 (by decide) (fun c => ?_) (fun c => ?_)
  · have h := g_t _ c h
    exact b_X6_acts_42 X hI h (lv_sub hl [2, 3, 4, 5, 0] rfl)
  · have h := g_f _ c h
    refine lv_iload_n hx hb dX6_acts_32 rfl (lv_at hl 3 rfl) ?_
    refine lv_bipush (v := 21) hx hb dX6_acts_33 (by decide) ?_
    refine lv_icmp_gt (tgt := 42) hx hb dX6_acts_35 (by decide) (fun c => ?_) (fun c => ?_)
    · have h := g_t _ c h
      exact b_X6_acts_42 X hI h (lv_sub hl [2, 3, 4, 5, 0] rfl)
    · have h := g_f _ c h
      refine lv_iconst (v := 0) hx hb dX6_acts_38 (by decide) ?_
      refine lv_goto (tgt := 44) hx hb dX6_acts_39 (by decide) ?_
      exact b_X6_acts_44 X hI h (lv_sub hl [2, 3, 4, 5, 0] rfl)
abbrev rm_X6_isLane : Room := { frames := 1, cells := 0, slots := 0, locals := 23 }
def f_X6_isLane (G : gG) (th : Nat) (a1 : Int32) (a2 : Int32) (a3 : Int32) : Option Int32 :=
  gb (g_fA G th 5 1) fun g1 =>
  gb (g_il G g1 a2) fun v2 =>
  gb (g_fA G th 5 1) fun g3 =>
  gb (g_il G g3 a3) fun v4 =>
  if (f_X6_laneOf a1 (f_X6_joined v2 v4)) < 0 then
    some 0
  else
  some 1
theorem gm_X6_isLane : g_M yX6_isLane cX6_isLane 4 (some .boolean) 3 := ⟨tw_3_164, tw_1_5, by decide +kernel, Or.inl (by decide +kernel)⟩
set_option maxHeartbeats 4000000 in
set_option maxRecDepth 100000 in
theorem c_X6_isLane {l : Launch} {E : gE} {G : gG} {n : Nat} {th : Nat} {a1 : Int32} {a2 : Int32} {a3 : Int32} {r : Int32} (h : f_X6_isLane G th a1 a2 a3 = some r) : g_Met l yX6_isLane cX6_isLane 4 (some .boolean) rm_X6_isLane E G n [.ref th, .int a1, .int a2, .int a3] (some (.int r)) G n := by
  refine g_ofW gm_X6_isLane (Nat.le_of_ble_eq_true rfl) ?_
  intro p e s m below meth c ls X hl hI
  have hx := X.1
  have hb := X.2.1
  have X : g_X E G n p s m _ meth c cX6_isLane 4 RX6 "isLane" (some .boolean) := X
  have hl : lv_has ls 4 [(0, .ref th), (1, .int a1), (2, .int a2), (3, .int a3)] := hl
  unfold f_X6_isLane at h
  refine lv_iload_n hx hb dX6_isLane_0 rfl (lv_at hl 1 rfl) ?_
  refine lv_aload_n hx hb dX6_isLane_1 rfl (lv_at hl 0 rfl) ?_
  obtain ⟨g1, eg1, h⟩ := gb_s h
  refine g_get X hI (g_fA_s eg1) (C := RX6) (T := TX6) (N := 17) rfl gu_X6 (by decide) tw_3_43 dX6_isLane_2 ?_
  refine lv_iload_n hx hb dX6_isLane_5 rfl (lv_at hl 2 rfl) ?_
  obtain ⟨v2, ev2, h⟩ := gb_s h
  refine g_iald X hI ev2 dX6_isLane_6 ?_
  refine lv_aload_n hx hb dX6_isLane_7 rfl (lv_at hl 0 rfl) ?_
  obtain ⟨g3, eg3, h⟩ := gb_s h
  refine g_get X hI (g_fA_s eg3) (C := RX6) (T := TX6) (N := 17) rfl gu_X6 (by decide) tw_3_43 dX6_isLane_8 ?_
  refine lv_iload_n hx hb dX6_isLane_11 rfl (lv_at hl 3 rfl) ?_
  obtain ⟨v4, ev4, h⟩ := gb_s h
  refine g_iald X hI ev4 dX6_isLane_12 ?_
  refine g_callS X hI (av := [.int v2, .int v4]) (c_X6_joined v2 v4) gm_X6_joined tw_3_165 tw_3_166 ⟨by decide, by decide⟩ hl.1 (rest := [.int a1]) rfl (Nat.le_of_ble_eq_true rfl) dX6_isLane_13 ⟨by decide, by decide⟩ (st1 := [.int (f_X6_joined v2 v4), .int a1]) rfl (cells' := 0) (slots' := 0) rfl rfl (fun H locs hI => ?_)
  refine g_callS X hI (av := [.int a1, .int (f_X6_joined v2 v4)]) (c_X6_laneOf a1 (f_X6_joined v2 v4)) gm_X6_laneOf tw_3_168 tw_3_169 ⟨by decide, by decide⟩ hl.1 (rest := []) rfl (Nat.le_of_ble_eq_true rfl) dX6_isLane_16 ⟨by decide, by decide⟩ (st1 := [.int (f_X6_laneOf a1 (f_X6_joined v2 v4))]) rfl (cells' := 0) (slots' := 0) rfl rfl (fun H locs hI => ?_)
  refine lv_if_lt (tgt := 26) hx hb dX6_isLane_19 (by decide) (fun c => ?_) (fun c => ?_)
  · have h := g_t _ c h
    refine lv_iconst (v := 0) hx hb dX6_isLane_26 (by decide) ?_
    have h := Option.some.inj h
    subst h
    exact g_zret X hI (Or.inl rfl) dX6_isLane_27
  · have h := g_f _ c h
    refine lv_iconst (v := 1) hx hb dX6_isLane_22 (by decide) ?_
    refine lv_goto (tgt := 27) hx hb dX6_isLane_23 (by decide) ?_
    have h := Option.some.inj h
    subst h
    exact g_zret X hI (Or.inr rfl) dX6_isLane_27
abbrev rm_X6_act : Room := { frames := 6, cells := 0, slots := 0, locals := 182 }
def f_X6_act_111 (G : gG) (x0 : Nat) (s0 : Int32) : Option (Int32 × gG) :=
  if (0 : Int32) ≤ s0 then
    gb (g_fI G x0 5 15) fun v1 =>
    gck (g_isO G x0 5) <|
    gb2 (f_X6_made G x0 v1) fun r2 G3 =>
    some (r2, G3)
  else
  some (s0, G)
set_option maxHeartbeats 4000000 in
set_option maxRecDepth 100000 in
theorem b_X6_act_111 {p : Program} {l : Launch} {e : Env} {s : State} {m : MethodId} {args : Array Value} {below : List Frame} {meth : Method} {c : Code} {E : gE} {G0 : gG} {n0 : Nat} (X : g_X E G0 n0 p s m args meth c cX6_act 5 RX6 "act" (some .int)) {G : gG} {n : Nat} {r : Int32} {Gr : gG} {H : Heap} {locs : List Loc} (hI : g_I E (g_A G0 n0) G n s.heap H locs) {x0 : Nat} {s0 : Int32} (h : f_X6_act_111 G x0 s0 = some (r, Gr)) {ls : Array Slot} (hl : lv_has ls 5 [(0, .ref x0)]) : W p l e rm_X6_act s m args below meth c H locs 0 0 (MQ below (g_Q E G0 n0 (some (.int r)) Gr n) args s rm_X6_act.cells rm_X6_act.slots (g_A G0 n0)) (F0 m 111 ls [.int s0]) := by
  have hx := X.1
  have hb := X.2.1
  unfold f_X6_act_111 at h
  refine lv_istore (lv' := [(4, .int s0), (0, .ref x0)]) hx hb dX6_act_111 hl (by decide) rfl (fun ls hl => ?_)
  refine lv_iload hx hb dX6_act_113 (lv_at hl 0 rfl) ?_
  refine lv_if_ge (tgt := 123) hx hb dX6_act_115 (by decide) (fun c => ?_) (fun c => ?_)
  · have h := g_t _ c h
    refine lv_aload_n hx hb dX6_act_123 rfl (lv_at hl 1 rfl) ?_
    refine lv_aload_n hx hb dX6_act_124 rfl (lv_at hl 1 rfl) ?_
    obtain ⟨v1, ev1, h⟩ := gb_s h
    refine g_get X hI (g_fI_s ev1) (C := RX6) (T := TX6) (N := 17) rfl gu_X6 (by decide) tw_3_57 dX6_act_125 ?_
    obtain ⟨cO, h⟩ := gck_s h
    obtain ⟨r2, G3, er2, h⟩ := gb2_s h
    refine g_callV X hI (q := (RX6, TX6, 17)) (b := x0) (av := [.int v1]) cO rfl (c_X6_made er2) gm_X6_made tw_3_103 tw_3_105 tw_p_20 ⟨by decide, by decide⟩ hl.1 (rest := []) rfl (Nat.le_of_ble_eq_true rfl) dX6_act_128 ⟨by decide, by decide⟩ (st1 := [.int r2]) rfl (cells' := 0) (slots' := 0) rfl rfl (fun H locs hI => ?_)
    obtain ⟨h, h2⟩ := g_sp2 h
    subst h
    subst h2
    exact g_iret X hI dX6_act_131
  · have h := g_f _ c h
    refine lv_iload hx hb dX6_act_118 (lv_at hl 0 rfl) ?_
    refine lv_goto (tgt := 131) hx hb dX6_act_120 (by decide) ?_
    obtain ⟨h, h2⟩ := g_sp2 h
    subst h
    subst h2
    exact g_iret X hI dX6_act_131
def f_X6_act_60 (G : gG) (x0 : Nat) : Option (Int32 × gG) :=
  gck (g_isO G x0 5) <|
  gb2 (f_X6_fails G x0 (1 : Int32) (-3 : Int32)) fun r1 G2 =>
  some (r1, G2)
set_option maxHeartbeats 4000000 in
set_option maxRecDepth 100000 in
theorem b_X6_act_60 {p : Program} {l : Launch} {e : Env} {s : State} {m : MethodId} {args : Array Value} {below : List Frame} {meth : Method} {c : Code} {E : gE} {G0 : gG} {n0 : Nat} (X : g_X E G0 n0 p s m args meth c cX6_act 5 RX6 "act" (some .int)) {G : gG} {n : Nat} {r : Int32} {Gr : gG} {H : Heap} {locs : List Loc} (hI : g_I E (g_A G0 n0) G n s.heap H locs) {x0 : Nat} (h : f_X6_act_60 G x0 = some (r, Gr)) {ls : Array Slot} (hl : lv_has ls 5 [(0, .ref x0)]) : W p l e rm_X6_act s m args below meth c H locs 0 0 (MQ below (g_Q E G0 n0 (some (.int r)) Gr n) args s rm_X6_act.cells rm_X6_act.slots (g_A G0 n0)) (F0 m 60 ls []) := by
  have hx := X.1
  have hb := X.2.1
  unfold f_X6_act_60 at h
  refine lv_aload_n hx hb dX6_act_60 rfl (lv_at hl 0 rfl) ?_
  refine lv_iconst (v := 1) hx hb dX6_act_61 (by decide) ?_
  refine lv_bipush (v := (-3)) hx hb dX6_act_62 (by decide) ?_
  obtain ⟨cO, h⟩ := gck_s h
  obtain ⟨r1, G2, er1, h⟩ := gb2_s h
  refine g_callV X hI (q := (RX6, TX6, 17)) (b := x0) (av := [.int 1, .int (-3)]) cO rfl (c_X6_fails er1) gm_X6_fails tw_3_111 tw_3_113 tw_p_21 ⟨by decide, by decide⟩ hl.1 (rest := []) rfl (Nat.le_of_ble_eq_true rfl) dX6_act_64 ⟨by decide, by decide⟩ (st1 := [.int r1]) rfl (cells' := 0) (slots' := 0) rfl rfl (fun H locs hI => ?_)
  obtain ⟨h, h2⟩ := g_sp2 h
  subst h
  subst h2
  exact g_iret X hI dX6_act_67
def f_X6_act (G : gG) (th : Nat) (a1 : Int32) (a2 : Int32) (a3 : Int32) : Option (Int32 × gG) :=
  if (f_X6_in (Int32.toInt64 a1) (0 : Int64) (22 : Int64)) = 0 then
    some ((-1), G)
  else
  gck (g_isO G th 5) <|
  gb (f_X6_isTensor G th a2) fun r1 =>
  if r1 = 0 then
    some ((-1), G)
  else
  gck (g_isO G th 5) <|
  gb (f_X6_isTensor G th a3) fun r2 =>
  if r2 = 0 then
    some ((-1), G)
  else
  gb (g_fI G th 5 0) fun v3 =>
  if v3 = 16 then
    some ((-2), G)
  else
  gb (g_fA G th 5 5) fun g4 =>
  gb (g_zl G g4 a2) fun v5 =>
  if v5 = 0 then
    gb (g_fA G th 5 5) fun g6 =>
    gb (g_zl G g6 a3) fun v7 =>
    if v7 = 0 then
      gck (g_isO G th 5) <|
      gb (f_X6_isLane G th a1 a2 a3) fun r8 =>
      if r8 = 0 then
        gck (g_isO G th 5) <|
        gb2 (f_X6_fails G th (4 : Int32) (-3 : Int32)) fun r13 G14 =>
        some (r13, G14)
      else
      gck (g_isO G th 5) <|
      gb2 (f_X6_spreads G th a2 a3) fun r9 G10 =>
      if (0 : Int32) ≤ r9 then
        gck (g_isO G10 th 5) <|
        gb2 (f_X6_acts G10 th a1 a2 a3) fun r11 G12 =>
        f_X6_act_111 G12 th r11
      else
      f_X6_act_111 G10 th r9
    else
    f_X6_act_60 G th
  else
  f_X6_act_60 G th
theorem gm_X6_act : g_M yX6_act cX6_act 5 (some .int) 3 := ⟨tw_3_159, tw_1_5, by decide +kernel, Or.inl (by decide +kernel)⟩
set_option maxHeartbeats 4000000 in
set_option maxRecDepth 100000 in
theorem c_X6_act {l : Launch} {E : gE} {G : gG} {n : Nat} {th : Nat} {a1 : Int32} {a2 : Int32} {a3 : Int32} {r : Int32} {Gr : gG} (h : f_X6_act G th a1 a2 a3 = some (r, Gr)) : g_Met l yX6_act cX6_act 5 (some .int) rm_X6_act E G n [.ref th, .int a1, .int a2, .int a3] (some (.int r)) Gr n := by
  refine g_ofW gm_X6_act (Nat.le_of_ble_eq_true rfl) ?_
  intro p e s m below meth c ls X hl hI
  have hx := X.1
  have hb := X.2.1
  have X : g_X E G n p s m _ meth c cX6_act 5 RX6 "act" (some .int) := X
  have hl : lv_has ls 5 [(0, .ref th), (1, .int a1), (2, .int a2), (3, .int a3)] := hl
  unfold f_X6_act at h
  refine lv_iload_n hx hb dX6_act_0 rfl (lv_at hl 1 rfl) ?_
  refine lv_i2l (v := (Int32.toInt64 a1)) hx hb dX6_act_1 rfl ?_
  refine lv_lconst (v := 0) hx hb dX6_act_2 (by decide) ?_
  refine lv_ldc2 (v := 22) hx hb X.2.2.2.1 (X.2.2.2.2.1 _ tw_3_160) dX6_act_3 ?_
  refine g_callS X hI (av := [.long (Int32.toInt64 a1), .long 0, .long 22]) (c_X6_in (Int32.toInt64 a1) (0 : Int64) (22 : Int64)) gm_X6_in tw_3_100 tw_3_101 ⟨by decide, by decide⟩ hl.1 (rest := []) rfl (Nat.le_of_ble_eq_true rfl) dX6_act_6 ⟨by decide, by decide⟩ (st1 := [.int (f_X6_in (Int32.toInt64 a1) (0 : Int64) (22 : Int64))]) rfl (cells' := 0) (slots' := 0) rfl rfl (fun H locs hI => ?_)
  refine lv_if_eq (tgt := 28) hx hb dX6_act_9 (by decide) (fun c => ?_) (fun c => ?_)
  · have h := g_t _ c h
    refine lv_iconst (v := (-1)) hx hb dX6_act_28 (by decide) ?_
    obtain ⟨h, h2⟩ := g_sp2 h
    subst h
    subst h2
    exact g_iret X hI dX6_act_29
  · have h := g_f _ c h
    refine lv_aload_n hx hb dX6_act_12 rfl (lv_at hl 0 rfl) ?_
    refine lv_iload_n hx hb dX6_act_13 rfl (lv_at hl 2 rfl) ?_
    obtain ⟨cO, h⟩ := gck_s h
    obtain ⟨r1, er1, h⟩ := gb_s h
    refine g_callV X hI (q := (RX6, TX6, 17)) (b := th) (av := [.int a2]) cO rfl (c_X6_isTensor er1) gm_X6_isTensor tw_3_119 tw_3_121 tw_p_22 ⟨by decide, by decide⟩ hl.1 (rest := []) rfl (Nat.le_of_ble_eq_true rfl) dX6_act_14 ⟨by decide, by decide⟩ (st1 := [.int r1]) rfl (cells' := 0) (slots' := 0) rfl rfl (fun H locs hI => ?_)
    refine lv_if_eq (tgt := 28) hx hb dX6_act_17 (by decide) (fun c => ?_) (fun c => ?_)
    · have h := g_t _ c h
      refine lv_iconst (v := (-1)) hx hb dX6_act_28 (by decide) ?_
      obtain ⟨h, h2⟩ := g_sp2 h
      subst h
      subst h2
      exact g_iret X hI dX6_act_29
    · have h := g_f _ c h
      refine lv_aload_n hx hb dX6_act_20 rfl (lv_at hl 0 rfl) ?_
      refine lv_iload_n hx hb dX6_act_21 rfl (lv_at hl 3 rfl) ?_
      obtain ⟨cO, h⟩ := gck_s h
      obtain ⟨r2, er2, h⟩ := gb_s h
      refine g_callV X hI (q := (RX6, TX6, 17)) (b := th) (av := [.int a3]) cO rfl (c_X6_isTensor er2) gm_X6_isTensor tw_3_119 tw_3_121 tw_p_22 ⟨by decide, by decide⟩ hl.1 (rest := []) rfl (Nat.le_of_ble_eq_true rfl) dX6_act_22 ⟨by decide, by decide⟩ (st1 := [.int r2]) rfl (cells' := 0) (slots' := 0) rfl rfl (fun H locs hI => ?_)
      refine lv_if_ne (tgt := 30) hx hb dX6_act_25 (by decide) (fun c => ?_) (fun c => ?_)
      · have h := g_f _ c h
        refine lv_aload_n hx hb dX6_act_30 rfl (lv_at hl 0 rfl) ?_
        obtain ⟨v3, ev3, h⟩ := gb_s h
        refine g_get X hI (g_fI_s ev3) (C := RX6) (T := TX6) (N := 17) rfl gu_X6 (by decide) tw_3_42 dX6_act_31 ?_
        refine lv_bipush (v := 16) hx hb dX6_act_34 (by decide) ?_
        refine lv_icmp_ne (tgt := 42) hx hb dX6_act_36 (by decide) (fun c => ?_) (fun c => ?_)
        · have h := g_f _ c h
          refine lv_aload_n hx hb dX6_act_42 rfl (lv_at hl 0 rfl) ?_
          obtain ⟨g4, eg4, h⟩ := gb_s h
          refine g_get X hI (g_fA_s eg4) (C := RX6) (T := TX6) (N := 17) rfl gu_X6 (by decide) tw_3_47 dX6_act_43 ?_
          refine lv_iload_n hx hb dX6_act_46 rfl (lv_at hl 2 rfl) ?_
          obtain ⟨v5, ev5, h⟩ := gb_s h
          refine g_zald X hI ev5 dX6_act_47 ?_
          refine lv_if_ne (tgt := 60) hx hb dX6_act_48 (by decide) (fun c => ?_) (fun c => ?_)
          · have h := g_f _ c h
            exact b_X6_act_60 X hI h (lv_sub hl [0] rfl)
          · have h := g_t _ c h
            refine lv_aload_n hx hb dX6_act_51 rfl (lv_at hl 0 rfl) ?_
            obtain ⟨g6, eg6, h⟩ := gb_s h
            refine g_get X hI (g_fA_s eg6) (C := RX6) (T := TX6) (N := 17) rfl gu_X6 (by decide) tw_3_47 dX6_act_52 ?_
            refine lv_iload_n hx hb dX6_act_55 rfl (lv_at hl 3 rfl) ?_
            obtain ⟨v7, ev7, h⟩ := gb_s h
            refine g_zald X hI ev7 dX6_act_56 ?_
            refine lv_if_eq (tgt := 68) hx hb dX6_act_57 (by decide) (fun c => ?_) (fun c => ?_)
            · have h := g_t _ c h
              refine lv_aload_n hx hb dX6_act_68 rfl (lv_at hl 0 rfl) ?_
              refine lv_iload_n hx hb dX6_act_69 rfl (lv_at hl 1 rfl) ?_
              refine lv_iload_n hx hb dX6_act_70 rfl (lv_at hl 2 rfl) ?_
              refine lv_iload_n hx hb dX6_act_71 rfl (lv_at hl 3 rfl) ?_
              obtain ⟨cO, h⟩ := gck_s h
              obtain ⟨r8, er8, h⟩ := gb_s h
              refine g_callV X hI (q := (RX6, TX6, 17)) (b := th) (av := [.int a1, .int a2, .int a3]) cO rfl (c_X6_isLane er8) gm_X6_isLane tw_3_161 tw_3_163 tw_p_23 ⟨by decide, by decide⟩ hl.1 (rest := []) rfl (Nat.le_of_ble_eq_true rfl) dX6_act_72 ⟨by decide, by decide⟩ (st1 := [.int r8]) rfl (cells' := 0) (slots' := 0) rfl rfl (fun H locs hI => ?_)
              refine lv_if_ne (tgt := 86) hx hb dX6_act_75 (by decide) (fun c => ?_) (fun c => ?_)
              · have h := g_f _ c h
                refine lv_aload_n hx hb dX6_act_86 rfl (lv_at hl 0 rfl) ?_
                refine lv_iload_n hx hb dX6_act_87 rfl (lv_at hl 2 rfl) ?_
                refine lv_iload_n hx hb dX6_act_88 rfl (lv_at hl 3 rfl) ?_
                obtain ⟨cO, h⟩ := gck_s h
                obtain ⟨r9, G10, er9, h⟩ := gb2_s h
                refine g_callV X hI (q := (RX6, TX6, 17)) (b := th) (av := [.int a2, .int a3]) cO rfl (c_X6_spreads er9) gm_X6_spreads tw_3_171 tw_3_173 tw_p_24 ⟨by decide, by decide⟩ hl.1 (rest := []) rfl (Nat.le_of_ble_eq_true rfl) dX6_act_89 ⟨by decide, by decide⟩ (st1 := [.int r9]) rfl (cells' := 0) (slots' := 0) rfl rfl (fun H locs hI => ?_)
                refine lv_istore (lv' := [(4, .int r9), (0, .ref th), (1, .int a1), (2, .int a2), (3, .int a3)]) hx hb dX6_act_92 hl (by decide) rfl (fun ls hl => ?_)
                refine lv_iload hx hb dX6_act_94 (lv_at hl 0 rfl) ?_
                refine lv_if_ge (tgt := 104) hx hb dX6_act_96 (by decide) (fun c => ?_) (fun c => ?_)
                · have h := g_t _ c h
                  refine lv_aload_n hx hb dX6_act_104 rfl (lv_at hl 1 rfl) ?_
                  refine lv_iload_n hx hb dX6_act_105 rfl (lv_at hl 2 rfl) ?_
                  refine lv_iload_n hx hb dX6_act_106 rfl (lv_at hl 3 rfl) ?_
                  refine lv_iload_n hx hb dX6_act_107 rfl (lv_at hl 4 rfl) ?_
                  obtain ⟨cO, h⟩ := gck_s h
                  obtain ⟨r11, G12, er11, h⟩ := gb2_s h
                  refine g_callV X hI (q := (RX6, TX6, 17)) (b := th) (av := [.int a1, .int a2, .int a3]) cO rfl (c_X6_acts er11) gm_X6_acts tw_3_187 tw_3_189 tw_p_28 ⟨by decide, by decide⟩ hl.1 (rest := []) rfl (Nat.le_of_ble_eq_true rfl) dX6_act_108 ⟨by decide, by decide⟩ (st1 := [.int r11]) rfl (cells' := 0) (slots' := 0) rfl rfl (fun H locs hI => ?_)
                  exact b_X6_act_111 X hI h (lv_sub hl [1] rfl)
                · have h := g_f _ c h
                  refine lv_iload hx hb dX6_act_99 (lv_at hl 0 rfl) ?_
                  refine lv_goto (tgt := 111) hx hb dX6_act_101 (by decide) ?_
                  exact b_X6_act_111 X hI h (lv_sub hl [1] rfl)
              · have h := g_t _ c h
                refine lv_aload_n hx hb dX6_act_78 rfl (lv_at hl 0 rfl) ?_
                refine lv_iconst (v := 4) hx hb dX6_act_79 (by decide) ?_
                refine lv_bipush (v := (-3)) hx hb dX6_act_80 (by decide) ?_
                obtain ⟨cO, h⟩ := gck_s h
                obtain ⟨r13, G14, er13, h⟩ := gb2_s h
                refine g_callV X hI (q := (RX6, TX6, 17)) (b := th) (av := [.int 4, .int (-3)]) cO rfl (c_X6_fails er13) gm_X6_fails tw_3_111 tw_3_113 tw_p_21 ⟨by decide, by decide⟩ hl.1 (rest := []) rfl (Nat.le_of_ble_eq_true rfl) dX6_act_82 ⟨by decide, by decide⟩ (st1 := [.int r13]) rfl (cells' := 0) (slots' := 0) rfl rfl (fun H locs hI => ?_)
                obtain ⟨h, h2⟩ := g_sp2 h
                subst h
                subst h2
                exact g_iret X hI dX6_act_85
            · have h := g_f _ c h
              exact b_X6_act_60 X hI h (lv_sub hl [0] rfl)
        · have h := g_t _ c h
          refine lv_bipush (v := (-2)) hx hb dX6_act_39 (by decide) ?_
          obtain ⟨h, h2⟩ := g_sp2 h
          subst h
          subst h2
          exact g_iret X hI dX6_act_41
      · have h := g_t _ c h
        refine lv_iconst (v := (-1)) hx hb dX6_act_28 (by decide) ?_
        obtain ⟨h, h2⟩ := g_sp2 h
        subst h
        subst h2
        exact g_iret X hI dX6_act_29
abbrev rm_X6_into : Room := { frames := 6, cells := 0, slots := 0, locals := 182 }
def f_X6_into_301 : Nat → gG → Nat → Int32 → Int32 → Int32 → Int32 → Option (Int32 × gG)
  | 0, _, _, _, _, _, _ => none
  | fu + 1, G, x0, x4, x7, x8, x10 =>
    gb (g_fI G x0 5 14) fun v1 =>
    if v1 ≤ x10 then
      some (1, G)
    else
    gb (g_fA G x0 5 6) fun g2 =>
    gb (g_fA G x0 5 7) fun g3 =>
    gb (g_ll G g3 x10) fun v4 =>
    gb (f_X6_to v4 x7 x8) fun r5 =>
    gb (g_ls G g2 (((240 : Int32) * x4) + x10) r5) fun G6 =>
    gl (x10 + 1 : Int32) fun v7 =>
    f_X6_into_301 fu G6 x0 x4 x7 x8 v7
set_option maxHeartbeats 4000000 in
set_option maxRecDepth 100000 in
theorem b_X6_into_301 {p : Program} {l : Launch} {e : Env} {s : State} {m : MethodId} {args : Array Value} {below : List Frame} {meth : Method} {c : Code} {E : gE} {G0 : gG} {n0 : Nat} (X : g_X E G0 n0 p s m args meth c cX6_into 11 RX6 "into" (some .int)) {n : Nat} {r : Int32} {Gr : gG} (fu : Nat) : ∀ {G : gG} {H : Heap} {locs : List Loc} (_ : g_I E (g_A G0 n0) G n s.heap H locs) {x0 : Nat} {x4 : Int32} {x7 : Int32} {x8 : Int32} {x10 : Int32} (_ : f_X6_into_301 fu G x0 x4 x7 x8 x10 = some (r, Gr)) {ls : Array Slot} (_ : lv_has ls 11 [(0, .ref x0), (4, .int x4), (7, .int x7), (8, .int x8), (10, .int x10)]), W p l e rm_X6_into s m args below meth c H locs 0 0 (MQ below (g_Q E G0 n0 (some (.int r)) Gr n) args s rm_X6_into.cells rm_X6_into.slots (g_A G0 n0)) (F0 m 301 ls []) := by
  have hx := X.1
  have hb := X.2.1
  induction fu with
  | zero =>
    intro G H locs hI x0 x4 x7 x8 x10 h ls hl
    rw [f_X6_into_301] at h
    cases h
  | succ fu ih =>
    intro G H locs hI x0 x4 x7 x8 x10 h ls hl
    rw [f_X6_into_301] at h
    refine lv_iload hx hb dX6_into_301 (lv_at hl 4 rfl) ?_
    refine lv_aload_n hx hb dX6_into_303 rfl (lv_at hl 0 rfl) ?_
    obtain ⟨v1, ev1, h⟩ := gb_s h
    refine g_get X hI (g_fI_s ev1) (C := RX6) (T := TX6) (N := 17) rfl gu_X6 (by decide) tw_3_56 dX6_into_304 ?_
    refine lv_icmp_ge (tgt := 344) hx hb dX6_into_307 (by decide) (fun c => ?_) (fun c => ?_)
    · have h := g_t _ c h
      refine lv_iconst (v := 1) hx hb dX6_into_344 (by decide) ?_
      obtain ⟨h, h2⟩ := g_sp2 h
      subst h
      subst h2
      exact g_iret X hI dX6_into_345
    · have h := g_f _ c h
      refine lv_aload_n hx hb dX6_into_310 rfl (lv_at hl 0 rfl) ?_
      obtain ⟨g2, eg2, h⟩ := gb_s h
      refine g_get X hI (g_fA_s eg2) (C := RX6) (T := TX6) (N := 17) rfl gu_X6 (by decide) tw_3_48 dX6_into_311 ?_
      refine lv_sipush (v := 240) hx hb dX6_into_314 (by decide) ?_
      refine lv_iload hx hb dX6_into_317 (lv_at hl 1 rfl) ?_
      refine lv_imul (x := 240) (y := x4) hx hb dX6_into_319 ?_
      refine lv_iload hx hb dX6_into_320 (lv_at hl 4 rfl) ?_
      refine lv_iadd (x := ((240 : Int32) * x4)) (y := x10) hx hb dX6_into_322 ?_
      refine lv_aload_n hx hb dX6_into_323 rfl (lv_at hl 0 rfl) ?_
      obtain ⟨g3, eg3, h⟩ := gb_s h
      refine g_get X hI (g_fA_s eg3) (C := RX6) (T := TX6) (N := 17) rfl gu_X6 (by decide) tw_3_49 dX6_into_324 ?_
      refine lv_iload hx hb dX6_into_327 (lv_at hl 4 rfl) ?_
      obtain ⟨v4, ev4, h⟩ := gb_s h
      refine g_lald X hI ev4 dX6_into_329 ?_
      refine lv_iload hx hb dX6_into_330 (lv_at hl 2 rfl) ?_
      refine lv_iload hx hb dX6_into_332 (lv_at hl 3 rfl) ?_
      obtain ⟨r5, er5, h⟩ := gb_s h
      refine g_callS X hI (av := [.long v4, .int x7, .int x8]) (c_X6_to er5) gm_X6_to tw_3_195 tw_3_196 ⟨by decide, by decide⟩ hl.1 (rest := [.int (((240 : Int32) * x4) + x10), .ref g2]) rfl (Nat.le_of_ble_eq_true rfl) dX6_into_334 ⟨by decide, by decide⟩ (st1 := [.long r5, .int (((240 : Int32) * x4) + x10), .ref g2]) rfl (cells' := 0) (slots' := 0) rfl rfl (fun H locs hI => ?_)
      obtain ⟨G6, eG6, h⟩ := gb_s h
      refine g_last X hI (G' := G6) eG6 dX6_into_337 (fun H locs hI => ?_)
      obtain ⟨v7, ev7, h⟩ := gl_s h
      refine lv_iinc (v := v7) (lv' := [(10, .int v7), (0, .ref x0), (4, .int x4), (7, .int x7), (8, .int x8)]) hx hb dX6_into_338 hl (k := 4) rfl (by rw [← ev7]; rfl) (by decide) rfl (fun ls hl => ?_)
      refine lv_goto (tgt := 301) hx hb dX6_into_341 (by decide) ?_
      exact ih hI h (lv_sub hl [1, 2, 3, 4, 0] rfl)
def f_X6_into_281 (G : gG) (x0 : Nat) (x1 : Int32) (x2 : Int32) (x3 : Int32) (x4 : Int32) (x7 : Int32) (x8 : Int32) : Option (Int32 × gG) :=
  gck (g_isO G x0 5) <|
  gb2 (f_X6_acts G x0 x1 x2 x3) fun r1 G2 =>
  if (0 : Int32) ≤ r1 then
    f_X6_into_301 5000 G2 x0 x4 x7 x8 0
  else
  some (r1, G2)
set_option maxHeartbeats 4000000 in
set_option maxRecDepth 100000 in
theorem b_X6_into_281 {p : Program} {l : Launch} {e : Env} {s : State} {m : MethodId} {args : Array Value} {below : List Frame} {meth : Method} {c : Code} {E : gE} {G0 : gG} {n0 : Nat} (X : g_X E G0 n0 p s m args meth c cX6_into 11 RX6 "into" (some .int)) {G : gG} {n : Nat} {r : Int32} {Gr : gG} {H : Heap} {locs : List Loc} (hI : g_I E (g_A G0 n0) G n s.heap H locs) {x0 : Nat} {x1 : Int32} {x2 : Int32} {x3 : Int32} {x4 : Int32} {x7 : Int32} {x8 : Int32} (h : f_X6_into_281 G x0 x1 x2 x3 x4 x7 x8 = some (r, Gr)) {ls : Array Slot} (hl : lv_has ls 11 [(0, .ref x0), (1, .int x1), (2, .int x2), (3, .int x3), (4, .int x4), (7, .int x7), (8, .int x8)]) : W p l e rm_X6_into s m args below meth c H locs 0 0 (MQ below (g_Q E G0 n0 (some (.int r)) Gr n) args s rm_X6_into.cells rm_X6_into.slots (g_A G0 n0)) (F0 m 281 ls []) := by
  have hx := X.1
  have hb := X.2.1
  unfold f_X6_into_281 at h
  refine lv_aload_n hx hb dX6_into_281 rfl (lv_at hl 0 rfl) ?_
  refine lv_iload_n hx hb dX6_into_282 rfl (lv_at hl 1 rfl) ?_
  refine lv_iload_n hx hb dX6_into_283 rfl (lv_at hl 2 rfl) ?_
  refine lv_iload_n hx hb dX6_into_284 rfl (lv_at hl 3 rfl) ?_
  obtain ⟨cO, h⟩ := gck_s h
  obtain ⟨r1, G2, er1, h⟩ := gb2_s h
  refine g_callV X hI (q := (RX6, TX6, 17)) (b := x0) (av := [.int x1, .int x2, .int x3]) cO rfl (c_X6_acts er1) gm_X6_acts tw_3_187 tw_3_189 tw_p_28 ⟨by decide, by decide⟩ hl.1 (rest := []) rfl (Nat.le_of_ble_eq_true rfl) dX6_into_285 ⟨by decide, by decide⟩ (st1 := [.int r1]) rfl (cells' := 0) (slots' := 0) rfl rfl (fun H locs hI => ?_)
  refine lv_istore (lv' := [(9, .int r1), (0, .ref x0), (1, .int x1), (2, .int x2), (3, .int x3), (4, .int x4), (7, .int x7), (8, .int x8)]) hx hb dX6_into_288 hl (by decide) rfl (fun ls hl => ?_)
  refine lv_iload hx hb dX6_into_290 (lv_at hl 0 rfl) ?_
  refine lv_if_ge (tgt := 298) hx hb dX6_into_292 (by decide) (fun c => ?_) (fun c => ?_)
  · have h := g_t _ c h
    refine lv_iconst (v := 0) hx hb dX6_into_298 (by decide) ?_
    refine lv_istore (lv' := [(10, .int 0), (9, .int r1), (0, .ref x0), (1, .int x1), (2, .int x2), (3, .int x3), (4, .int x4), (7, .int x7), (8, .int x8)]) hx hb dX6_into_299 hl (by decide) rfl (fun ls hl => ?_)
    exact b_X6_into_301 X 5000 hI h (lv_sub hl [2, 6, 7, 8, 0] rfl)
  · have h := g_f _ c h
    refine lv_iload hx hb dX6_into_295 (lv_at hl 0 rfl) ?_
    obtain ⟨h, h2⟩ := g_sp2 h
    subst h
    subst h2
    exact g_iret X hI dX6_into_297
def f_X6_into_273 (G : gG) (x0 : Nat) : Option (Int32 × gG) :=
  gck (g_isO G x0 5) <|
  gb2 (f_X6_fails G x0 (4 : Int32) (-3 : Int32)) fun r1 G2 =>
  some (r1, G2)
set_option maxHeartbeats 4000000 in
set_option maxRecDepth 100000 in
theorem b_X6_into_273 {p : Program} {l : Launch} {e : Env} {s : State} {m : MethodId} {args : Array Value} {below : List Frame} {meth : Method} {c : Code} {E : gE} {G0 : gG} {n0 : Nat} (X : g_X E G0 n0 p s m args meth c cX6_into 11 RX6 "into" (some .int)) {G : gG} {n : Nat} {r : Int32} {Gr : gG} {H : Heap} {locs : List Loc} (hI : g_I E (g_A G0 n0) G n s.heap H locs) {x0 : Nat} (h : f_X6_into_273 G x0 = some (r, Gr)) {ls : Array Slot} (hl : lv_has ls 11 [(0, .ref x0)]) : W p l e rm_X6_into s m args below meth c H locs 0 0 (MQ below (g_Q E G0 n0 (some (.int r)) Gr n) args s rm_X6_into.cells rm_X6_into.slots (g_A G0 n0)) (F0 m 273 ls []) := by
  have hx := X.1
  have hb := X.2.1
  unfold f_X6_into_273 at h
  refine lv_aload_n hx hb dX6_into_273 rfl (lv_at hl 0 rfl) ?_
  refine lv_iconst (v := 4) hx hb dX6_into_274 (by decide) ?_
  refine lv_bipush (v := (-3)) hx hb dX6_into_275 (by decide) ?_
  obtain ⟨cO, h⟩ := gck_s h
  obtain ⟨r1, G2, er1, h⟩ := gb2_s h
  refine g_callV X hI (q := (RX6, TX6, 17)) (b := x0) (av := [.int 4, .int (-3)]) cO rfl (c_X6_fails er1) gm_X6_fails tw_3_111 tw_3_113 tw_p_21 ⟨by decide, by decide⟩ hl.1 (rest := []) rfl (Nat.le_of_ble_eq_true rfl) dX6_into_277 ⟨by decide, by decide⟩ (st1 := [.int r1]) rfl (cells' := 0) (slots' := 0) rfl rfl (fun H locs hI => ?_)
  obtain ⟨h, h2⟩ := g_sp2 h
  subst h
  subst h2
  exact g_iret X hI dX6_into_280
def f_X6_into_237 (G : gG) (x0 : Nat) (x1 : Int32) (x2 : Int32) (x3 : Int32) (x4 : Int32) (s0 : Int32) : Option (Int32 × gG) :=
  gb (g_fA G x0 5 1) fun g1 =>
  gb (g_il G g1 x4) fun v2 =>
  if v2 < s0 then
    f_X6_into_273 G x0
  else
  if v2 = 4 then
    if s0 = 2 then
      f_X6_into_273 G x0
    else
    if s0 = 3 then
      f_X6_into_273 G x0
    else
    f_X6_into_281 G x0 x1 x2 x3 x4 s0 v2
  else
  f_X6_into_281 G x0 x1 x2 x3 x4 s0 v2
set_option maxHeartbeats 4000000 in
set_option maxRecDepth 100000 in
theorem b_X6_into_237 {p : Program} {l : Launch} {e : Env} {s : State} {m : MethodId} {args : Array Value} {below : List Frame} {meth : Method} {c : Code} {E : gE} {G0 : gG} {n0 : Nat} (X : g_X E G0 n0 p s m args meth c cX6_into 11 RX6 "into" (some .int)) {G : gG} {n : Nat} {r : Int32} {Gr : gG} {H : Heap} {locs : List Loc} (hI : g_I E (g_A G0 n0) G n s.heap H locs) {x0 : Nat} {x1 : Int32} {x2 : Int32} {x3 : Int32} {x4 : Int32} {s0 : Int32} (h : f_X6_into_237 G x0 x1 x2 x3 x4 s0 = some (r, Gr)) {ls : Array Slot} (hl : lv_has ls 11 [(0, .ref x0), (1, .int x1), (2, .int x2), (3, .int x3), (4, .int x4)]) : W p l e rm_X6_into s m args below meth c H locs 0 0 (MQ below (g_Q E G0 n0 (some (.int r)) Gr n) args s rm_X6_into.cells rm_X6_into.slots (g_A G0 n0)) (F0 m 237 ls [.int s0]) := by
  have hx := X.1
  have hb := X.2.1
  unfold f_X6_into_237 at h
  refine lv_istore (lv' := [(7, .int s0), (0, .ref x0), (1, .int x1), (2, .int x2), (3, .int x3), (4, .int x4)]) hx hb dX6_into_237 hl (by decide) rfl (fun ls hl => ?_)
  refine lv_aload_n hx hb dX6_into_239 rfl (lv_at hl 1 rfl) ?_
  obtain ⟨g1, eg1, h⟩ := gb_s h
  refine g_get X hI (g_fA_s eg1) (C := RX6) (T := TX6) (N := 17) rfl gu_X6 (by decide) tw_3_43 dX6_into_240 ?_
  refine lv_iload hx hb dX6_into_243 (lv_at hl 5 rfl) ?_
  obtain ⟨v2, ev2, h⟩ := gb_s h
  refine g_iald X hI ev2 dX6_into_245 ?_
  refine lv_istore (lv' := [(8, .int v2), (7, .int s0), (0, .ref x0), (1, .int x1), (2, .int x2), (3, .int x3), (4, .int x4)]) hx hb dX6_into_246 hl (by decide) rfl (fun ls hl => ?_)
  refine lv_iload hx hb dX6_into_248 (lv_at hl 1 rfl) ?_
  refine lv_iload hx hb dX6_into_250 (lv_at hl 0 rfl) ?_
  refine lv_icmp_gt (tgt := 273) hx hb dX6_into_252 (by decide) (fun c => ?_) (fun c => ?_)
  · have h := g_t _ c h
    exact b_X6_into_273 X hI h (lv_sub hl [2] rfl)
  · have h := g_f _ c h
    refine lv_iload hx hb dX6_into_255 (lv_at hl 0 rfl) ?_
    refine lv_iconst (v := 4) hx hb dX6_into_257 (by decide) ?_
    refine lv_icmp_ne (tgt := 281) hx hb dX6_into_258 (by decide) (fun c => ?_) (fun c => ?_)
    · have h := g_f _ c h
      exact b_X6_into_281 X hI h (lv_sub hl [2, 3, 4, 5, 6, 1, 0] rfl)
    · have h := g_t _ c h
      refine lv_iload hx hb dX6_into_261 (lv_at hl 1 rfl) ?_
      refine lv_iconst (v := 2) hx hb dX6_into_263 (by decide) ?_
      refine lv_icmp_eq (tgt := 273) hx hb dX6_into_264 (by decide) (fun c => ?_) (fun c => ?_)
      · have h := g_t _ c h
        exact b_X6_into_273 X hI h (lv_sub hl [2] rfl)
      · have h := g_f _ c h
        refine lv_iload hx hb dX6_into_267 (lv_at hl 1 rfl) ?_
        refine lv_iconst (v := 3) hx hb dX6_into_269 (by decide) ?_
        refine lv_icmp_ne (tgt := 281) hx hb dX6_into_270 (by decide) (fun c => ?_) (fun c => ?_)
        · have h := g_f _ c h
          exact b_X6_into_281 X hI h (lv_sub hl [2, 3, 4, 5, 6, 1, 0] rfl)
        · have h := g_t _ c h
          exact b_X6_into_273 X hI h (lv_sub hl [2] rfl)
def f_X6_into_218 (G : gG) (x0 : Nat) (x1 : Int32) (x2 : Int32) (x3 : Int32) (x4 : Int32) : Option (Int32 × gG) :=
  gb (g_fA G x0 5 1) fun g1 =>
  gb (g_il G g1 x2) fun v2 =>
  gb (g_fA G x0 5 1) fun g3 =>
  gb (g_il G g3 x3) fun v4 =>
  f_X6_into_237 G x0 x1 x2 x3 x4 (f_X6_laneOf x1 (f_X6_joined v2 v4))
set_option maxHeartbeats 4000000 in
set_option maxRecDepth 100000 in
theorem b_X6_into_218 {p : Program} {l : Launch} {e : Env} {s : State} {m : MethodId} {args : Array Value} {below : List Frame} {meth : Method} {c : Code} {E : gE} {G0 : gG} {n0 : Nat} (X : g_X E G0 n0 p s m args meth c cX6_into 11 RX6 "into" (some .int)) {G : gG} {n : Nat} {r : Int32} {Gr : gG} {H : Heap} {locs : List Loc} (hI : g_I E (g_A G0 n0) G n s.heap H locs) {x0 : Nat} {x1 : Int32} {x2 : Int32} {x3 : Int32} {x4 : Int32} (h : f_X6_into_218 G x0 x1 x2 x3 x4 = some (r, Gr)) {ls : Array Slot} (hl : lv_has ls 11 [(0, .ref x0), (1, .int x1), (2, .int x2), (3, .int x3), (4, .int x4)]) : W p l e rm_X6_into s m args below meth c H locs 0 0 (MQ below (g_Q E G0 n0 (some (.int r)) Gr n) args s rm_X6_into.cells rm_X6_into.slots (g_A G0 n0)) (F0 m 218 ls []) := by
  have hx := X.1
  have hb := X.2.1
  unfold f_X6_into_218 at h
  refine lv_iload_n hx hb dX6_into_218 rfl (lv_at hl 1 rfl) ?_
  refine lv_aload_n hx hb dX6_into_219 rfl (lv_at hl 0 rfl) ?_
  obtain ⟨g1, eg1, h⟩ := gb_s h
  refine g_get X hI (g_fA_s eg1) (C := RX6) (T := TX6) (N := 17) rfl gu_X6 (by decide) tw_3_43 dX6_into_220 ?_
  refine lv_iload_n hx hb dX6_into_223 rfl (lv_at hl 2 rfl) ?_
  obtain ⟨v2, ev2, h⟩ := gb_s h
  refine g_iald X hI ev2 dX6_into_224 ?_
  refine lv_aload_n hx hb dX6_into_225 rfl (lv_at hl 0 rfl) ?_
  obtain ⟨g3, eg3, h⟩ := gb_s h
  refine g_get X hI (g_fA_s eg3) (C := RX6) (T := TX6) (N := 17) rfl gu_X6 (by decide) tw_3_43 dX6_into_226 ?_
  refine lv_iload_n hx hb dX6_into_229 rfl (lv_at hl 3 rfl) ?_
  obtain ⟨v4, ev4, h⟩ := gb_s h
  refine g_iald X hI ev4 dX6_into_230 ?_
  refine g_callS X hI (av := [.int v2, .int v4]) (c_X6_joined v2 v4) gm_X6_joined tw_3_165 tw_3_166 ⟨by decide, by decide⟩ hl.1 (rest := [.int x1]) rfl (Nat.le_of_ble_eq_true rfl) dX6_into_231 ⟨by decide, by decide⟩ (st1 := [.int (f_X6_joined v2 v4), .int x1]) rfl (cells' := 0) (slots' := 0) rfl rfl (fun H locs hI => ?_)
  refine g_callS X hI (av := [.int x1, .int (f_X6_joined v2 v4)]) (c_X6_laneOf x1 (f_X6_joined v2 v4)) gm_X6_laneOf tw_3_168 tw_3_169 ⟨by decide, by decide⟩ hl.1 (rest := []) rfl (Nat.le_of_ble_eq_true rfl) dX6_into_234 ⟨by decide, by decide⟩ (st1 := [.int (f_X6_laneOf x1 (f_X6_joined v2 v4))]) rfl (cells' := 0) (slots' := 0) rfl rfl (fun H locs hI => ?_)
  exact b_X6_into_237 X hI h (lv_sub hl [0, 1, 2, 3, 4] rfl)
def f_X6_into_180 (k143 : gG → Nat → Int32 → Int32 → Int32 → Int32 → Int32 → Int32 → Option (Int32 × gG)) (G : gG) (x0 : Nat) (x1 : Int32) (x2 : Int32) (x3 : Int32) (x4 : Int32) (x7 : Int32) (s0 : Int32) : Option (Int32 × gG) :=
  gl (x7 + 1 : Int32) fun v1 =>
  k143 G x0 x1 x2 x3 x4 s0 v1
set_option maxHeartbeats 4000000 in
set_option maxRecDepth 100000 in
theorem b_X6_into_180 {p : Program} {l : Launch} {e : Env} {s : State} {m : MethodId} {args : Array Value} {below : List Frame} {meth : Method} {c : Code} {E : gE} {G0 : gG} {n0 : Nat} (X : g_X E G0 n0 p s m args meth c cX6_into 11 RX6 "into" (some .int)) {G : gG} {n : Nat} {r : Int32} {Gr : gG} {k143 : gG → Nat → Int32 → Int32 → Int32 → Int32 → Int32 → Int32 → Option (Int32 × gG)} (hk143 : ∀ {G : gG} {H : Heap} {locs : List Loc} (_ : g_I E (g_A G0 n0) G n s.heap H locs) {x0 : Nat} {x1 : Int32} {x2 : Int32} {x3 : Int32} {x4 : Int32} {x6 : Int32} {x7 : Int32}  (_ : k143 G x0 x1 x2 x3 x4 x6 x7 = some (r, Gr)) {ls : Array Slot} (_ : lv_has ls 11 [(0, .ref x0), (1, .int x1), (2, .int x2), (3, .int x3), (4, .int x4), (6, .int x6), (7, .int x7)]), W p l e rm_X6_into s m args below meth c H locs 0 0 (MQ below (g_Q E G0 n0 (some (.int r)) Gr n) args s rm_X6_into.cells rm_X6_into.slots (g_A G0 n0)) (F0 m 143 ls [])) {H : Heap} {locs : List Loc} (hI : g_I E (g_A G0 n0) G n s.heap H locs) {x0 : Nat} {x1 : Int32} {x2 : Int32} {x3 : Int32} {x4 : Int32} {x7 : Int32} {s0 : Int32} (h : f_X6_into_180 k143 G x0 x1 x2 x3 x4 x7 s0 = some (r, Gr)) {ls : Array Slot} (hl : lv_has ls 11 [(0, .ref x0), (1, .int x1), (2, .int x2), (3, .int x3), (4, .int x4), (7, .int x7)]) : W p l e rm_X6_into s m args below meth c H locs 0 0 (MQ below (g_Q E G0 n0 (some (.int r)) Gr n) args s rm_X6_into.cells rm_X6_into.slots (g_A G0 n0)) (F0 m 180 ls [.int s0]) := by
  have hx := X.1
  have hb := X.2.1
  unfold f_X6_into_180 at h
  refine lv_istore (lv' := [(6, .int s0), (0, .ref x0), (1, .int x1), (2, .int x2), (3, .int x3), (4, .int x4), (7, .int x7)]) hx hb dX6_into_180 hl (by decide) rfl (fun ls hl => ?_)
  obtain ⟨v1, ev1, h⟩ := gl_s h
  refine lv_iinc (v := v1) (lv' := [(7, .int v1), (6, .int s0), (0, .ref x0), (1, .int x1), (2, .int x2), (3, .int x3), (4, .int x4)]) hx hb dX6_into_182 hl (k := 6) rfl (by rw [← ev1]; rfl) (by decide) rfl (fun ls hl => ?_)
  refine lv_goto (tgt := 143) hx hb dX6_into_185 (by decide) ?_
  exact hk143 hI h (lv_sub hl [2, 3, 4, 5, 6, 1, 0] rfl)
def f_X6_into_179 (k143 : gG → Nat → Int32 → Int32 → Int32 → Int32 → Int32 → Int32 → Option (Int32 × gG)) (G : gG) (x0 : Nat) (x1 : Int32) (x2 : Int32) (x3 : Int32) (x4 : Int32) (x7 : Int32) : Option (Int32 × gG) :=
  f_X6_into_180 k143 G x0 x1 x2 x3 x4 x7 0
set_option maxHeartbeats 4000000 in
set_option maxRecDepth 100000 in
theorem b_X6_into_179 {p : Program} {l : Launch} {e : Env} {s : State} {m : MethodId} {args : Array Value} {below : List Frame} {meth : Method} {c : Code} {E : gE} {G0 : gG} {n0 : Nat} (X : g_X E G0 n0 p s m args meth c cX6_into 11 RX6 "into" (some .int)) {G : gG} {n : Nat} {r : Int32} {Gr : gG} {k143 : gG → Nat → Int32 → Int32 → Int32 → Int32 → Int32 → Int32 → Option (Int32 × gG)} (hk143 : ∀ {G : gG} {H : Heap} {locs : List Loc} (_ : g_I E (g_A G0 n0) G n s.heap H locs) {x0 : Nat} {x1 : Int32} {x2 : Int32} {x3 : Int32} {x4 : Int32} {x6 : Int32} {x7 : Int32}  (_ : k143 G x0 x1 x2 x3 x4 x6 x7 = some (r, Gr)) {ls : Array Slot} (_ : lv_has ls 11 [(0, .ref x0), (1, .int x1), (2, .int x2), (3, .int x3), (4, .int x4), (6, .int x6), (7, .int x7)]), W p l e rm_X6_into s m args below meth c H locs 0 0 (MQ below (g_Q E G0 n0 (some (.int r)) Gr n) args s rm_X6_into.cells rm_X6_into.slots (g_A G0 n0)) (F0 m 143 ls [])) {H : Heap} {locs : List Loc} (hI : g_I E (g_A G0 n0) G n s.heap H locs) {x0 : Nat} {x1 : Int32} {x2 : Int32} {x3 : Int32} {x4 : Int32} {x7 : Int32} (h : f_X6_into_179 k143 G x0 x1 x2 x3 x4 x7 = some (r, Gr)) {ls : Array Slot} (hl : lv_has ls 11 [(0, .ref x0), (1, .int x1), (2, .int x2), (3, .int x3), (4, .int x4), (7, .int x7)]) : W p l e rm_X6_into s m args below meth c H locs 0 0 (MQ below (g_Q E G0 n0 (some (.int r)) Gr n) args s rm_X6_into.cells rm_X6_into.slots (g_A G0 n0)) (F0 m 179 ls []) := by
  have hx := X.1
  have hb := X.2.1
  unfold f_X6_into_179 at h
  refine lv_iconst (v := 0) hx hb dX6_into_179 (by decide) ?_
  exact b_X6_into_180 X hk143 hI h (lv_sub hl [0, 1, 2, 3, 4, 5] rfl)
def f_X6_into_143 : Nat → gG → Nat → Int32 → Int32 → Int32 → Int32 → Int32 → Int32 → Option (Int32 × gG)
  | 0, _, _, _, _, _, _, _, _ => none
  | fu + 1, G, x0, x1, x2, x3, x4, x6, x7 =>
    gb (g_fI G x0 5 13) fun v1 =>
    if v1 ≤ x7 then
      if x6 = 0 then
        gck (g_isO G x0 5) <|
        gb2 (f_X6_fails G x0 (6 : Int32) (-3 : Int32)) fun r2 G3 =>
        some (r2, G3)
      else
      if x1 < 18 then
        f_X6_into_218 G x0 x1 x2 x3 x4
      else
      if (21 : Int32) < x1 then
        f_X6_into_218 G x0 x1 x2 x3 x4
      else
      f_X6_into_237 G x0 x1 x2 x3 x4 0
    else
    if x6 = 0 then
      f_X6_into_179 (f_X6_into_143 fu) G x0 x1 x2 x3 x4 x7
    else
    gb (g_fA G x0 5 12) fun g4 =>
    gb (g_il G g4 x7) fun v5 =>
    gck (g_isO G x0 5) <|
    gb (f_X6_extent G x0 x4 x7) fun r6 =>
    if v5 = r6 then
      f_X6_into_180 (f_X6_into_143 fu) G x0 x1 x2 x3 x4 x7 1
    else
    f_X6_into_179 (f_X6_into_143 fu) G x0 x1 x2 x3 x4 x7
set_option maxHeartbeats 4000000 in
set_option maxRecDepth 100000 in
theorem b_X6_into_143 {p : Program} {l : Launch} {e : Env} {s : State} {m : MethodId} {args : Array Value} {below : List Frame} {meth : Method} {c : Code} {E : gE} {G0 : gG} {n0 : Nat} (X : g_X E G0 n0 p s m args meth c cX6_into 11 RX6 "into" (some .int)) {n : Nat} {r : Int32} {Gr : gG} (fu : Nat) : ∀ {G : gG} {H : Heap} {locs : List Loc} (_ : g_I E (g_A G0 n0) G n s.heap H locs) {x0 : Nat} {x1 : Int32} {x2 : Int32} {x3 : Int32} {x4 : Int32} {x6 : Int32} {x7 : Int32} (_ : f_X6_into_143 fu G x0 x1 x2 x3 x4 x6 x7 = some (r, Gr)) {ls : Array Slot} (_ : lv_has ls 11 [(0, .ref x0), (1, .int x1), (2, .int x2), (3, .int x3), (4, .int x4), (6, .int x6), (7, .int x7)]), W p l e rm_X6_into s m args below meth c H locs 0 0 (MQ below (g_Q E G0 n0 (some (.int r)) Gr n) args s rm_X6_into.cells rm_X6_into.slots (g_A G0 n0)) (F0 m 143 ls []) := by
  have hx := X.1
  have hb := X.2.1
  induction fu with
  | zero =>
    intro G H locs hI x0 x1 x2 x3 x4 x6 x7 h ls hl
    rw [f_X6_into_143] at h
    cases h
  | succ fu ih =>
    intro G H locs hI x0 x1 x2 x3 x4 x6 x7 h ls hl
    rw [f_X6_into_143] at h
    refine lv_iload hx hb dX6_into_143 (lv_at hl 6 rfl) ?_
    refine lv_aload_n hx hb dX6_into_145 rfl (lv_at hl 0 rfl) ?_
    obtain ⟨v1, ev1, h⟩ := gb_s h
    refine g_get X hI (g_fI_s ev1) (C := RX6) (T := TX6) (N := 17) rfl gu_X6 (by decide) tw_3_55 dX6_into_146 ?_
    refine lv_icmp_ge (tgt := 188) hx hb dX6_into_149 (by decide) (fun c => ?_) (fun c => ?_)
    · have h := g_t _ c h
      refine lv_iload hx hb dX6_into_188 (lv_at hl 5 rfl) ?_
      refine lv_if_ne (tgt := 202) hx hb dX6_into_190 (by decide) (fun c => ?_) (fun c => ?_)
      · have h := g_f _ c h
        refine lv_iload_n hx hb dX6_into_202 rfl (lv_at hl 1 rfl) ?_
        refine lv_bipush (v := 18) hx hb dX6_into_203 (by decide) ?_
        refine lv_icmp_lt (tgt := 218) hx hb dX6_into_205 (by decide) (fun c => ?_) (fun c => ?_)
        · have h := g_t _ c h
          exact b_X6_into_218 X hI h (lv_sub hl [0, 1, 2, 3, 4] rfl)
        · have h := g_f _ c h
          refine lv_iload_n hx hb dX6_into_208 rfl (lv_at hl 1 rfl) ?_
          refine lv_bipush (v := 21) hx hb dX6_into_209 (by decide) ?_
          refine lv_icmp_gt (tgt := 218) hx hb dX6_into_211 (by decide) (fun c => ?_) (fun c => ?_)
          · have h := g_t _ c h
            exact b_X6_into_218 X hI h (lv_sub hl [0, 1, 2, 3, 4] rfl)
          · have h := g_f _ c h
            refine lv_iconst (v := 0) hx hb dX6_into_214 (by decide) ?_
            refine lv_goto (tgt := 237) hx hb dX6_into_215 (by decide) ?_
            exact b_X6_into_237 X hI h (lv_sub hl [0, 1, 2, 3, 4] rfl)
      · have h := g_t _ c h
        refine lv_aload_n hx hb dX6_into_193 rfl (lv_at hl 0 rfl) ?_
        refine lv_bipush (v := 6) hx hb dX6_into_194 (by decide) ?_
        refine lv_bipush (v := (-3)) hx hb dX6_into_196 (by decide) ?_
        obtain ⟨cO, h⟩ := gck_s h
        obtain ⟨r2, G3, er2, h⟩ := gb2_s h
        refine g_callV X hI (q := (RX6, TX6, 17)) (b := x0) (av := [.int 6, .int (-3)]) cO rfl (c_X6_fails er2) gm_X6_fails tw_3_111 tw_3_113 tw_p_21 ⟨by decide, by decide⟩ hl.1 (rest := []) rfl (Nat.le_of_ble_eq_true rfl) dX6_into_198 ⟨by decide, by decide⟩ (st1 := [.int r2]) rfl (cells' := 0) (slots' := 0) rfl rfl (fun H locs hI => ?_)
        obtain ⟨h, h2⟩ := g_sp2 h
        subst h
        subst h2
        exact g_iret X hI dX6_into_201
    · have h := g_f _ c h
      refine lv_iload hx hb dX6_into_152 (lv_at hl 5 rfl) ?_
      refine lv_if_eq (tgt := 179) hx hb dX6_into_154 (by decide) (fun c => ?_) (fun c => ?_)
      · have h := g_t _ c h
        exact b_X6_into_179 X ih hI h (lv_sub hl [0, 1, 2, 3, 4, 6] rfl)
      · have h := g_f _ c h
        refine lv_aload_n hx hb dX6_into_157 rfl (lv_at hl 0 rfl) ?_
        obtain ⟨g4, eg4, h⟩ := gb_s h
        refine g_get X hI (g_fA_s eg4) (C := RX6) (T := TX6) (N := 17) rfl gu_X6 (by decide) tw_3_54 dX6_into_158 ?_
        refine lv_iload hx hb dX6_into_161 (lv_at hl 6 rfl) ?_
        obtain ⟨v5, ev5, h⟩ := gb_s h
        refine g_iald X hI ev5 dX6_into_163 ?_
        refine lv_aload_n hx hb dX6_into_164 rfl (lv_at hl 0 rfl) ?_
        refine lv_iload hx hb dX6_into_165 (lv_at hl 4 rfl) ?_
        refine lv_iload hx hb dX6_into_167 (lv_at hl 6 rfl) ?_
        obtain ⟨cO, h⟩ := gck_s h
        obtain ⟨r6, er6, h⟩ := gb_s h
        refine g_callV X hI (q := (RX6, TX6, 17)) (b := x0) (av := [.int x4, .int x7]) cO rfl (c_X6_extent er6) gm_X6_extent tw_3_179 tw_3_181 tw_p_26 ⟨by decide, by decide⟩ hl.1 (rest := [.int v5]) rfl (Nat.le_of_ble_eq_true rfl) dX6_into_169 ⟨by decide, by decide⟩ (st1 := [.int r6, .int v5]) rfl (cells' := 0) (slots' := 0) rfl rfl (fun H locs hI => ?_)
        refine lv_icmp_ne (tgt := 179) hx hb dX6_into_172 (by decide) (fun c => ?_) (fun c => ?_)
        · have h := g_f _ c h
          exact b_X6_into_179 X ih hI h (lv_sub hl [0, 1, 2, 3, 4, 6] rfl)
        · have h := g_t _ c h
          refine lv_iconst (v := 1) hx hb dX6_into_175 (by decide) ?_
          refine lv_goto (tgt := 180) hx hb dX6_into_176 (by decide) ?_
          exact b_X6_into_180 X ih hI h (lv_sub hl [0, 1, 2, 3, 4, 6] rfl)
def f_X6_into_138 (G : gG) (x0 : Nat) (x1 : Int32) (x2 : Int32) (x3 : Int32) (x4 : Int32) (s0 : Int32) : Option (Int32 × gG) :=
  f_X6_into_143 5000 G x0 x1 x2 x3 x4 s0 0
set_option maxHeartbeats 4000000 in
set_option maxRecDepth 100000 in
theorem b_X6_into_138 {p : Program} {l : Launch} {e : Env} {s : State} {m : MethodId} {args : Array Value} {below : List Frame} {meth : Method} {c : Code} {E : gE} {G0 : gG} {n0 : Nat} (X : g_X E G0 n0 p s m args meth c cX6_into 11 RX6 "into" (some .int)) {G : gG} {n : Nat} {r : Int32} {Gr : gG} {H : Heap} {locs : List Loc} (hI : g_I E (g_A G0 n0) G n s.heap H locs) {x0 : Nat} {x1 : Int32} {x2 : Int32} {x3 : Int32} {x4 : Int32} {s0 : Int32} (h : f_X6_into_138 G x0 x1 x2 x3 x4 s0 = some (r, Gr)) {ls : Array Slot} (hl : lv_has ls 11 [(0, .ref x0), (1, .int x1), (2, .int x2), (3, .int x3), (4, .int x4)]) : W p l e rm_X6_into s m args below meth c H locs 0 0 (MQ below (g_Q E G0 n0 (some (.int r)) Gr n) args s rm_X6_into.cells rm_X6_into.slots (g_A G0 n0)) (F0 m 138 ls [.int s0]) := by
  have hx := X.1
  have hb := X.2.1
  unfold f_X6_into_138 at h
  refine lv_istore (lv' := [(6, .int s0), (0, .ref x0), (1, .int x1), (2, .int x2), (3, .int x3), (4, .int x4)]) hx hb dX6_into_138 hl (by decide) rfl (fun ls hl => ?_)
  refine lv_iconst (v := 0) hx hb dX6_into_140 (by decide) ?_
  refine lv_istore (lv' := [(7, .int 0), (6, .int s0), (0, .ref x0), (1, .int x1), (2, .int x2), (3, .int x3), (4, .int x4)]) hx hb dX6_into_141 hl (by decide) rfl (fun ls hl => ?_)
  exact b_X6_into_143 X 5000 hI h (lv_sub hl [2, 3, 4, 5, 6, 1, 0] rfl)
def f_X6_into_67 (G : gG) (x0 : Nat) : Option (Int32 × gG) :=
  gck (g_isO G x0 5) <|
  gb2 (f_X6_fails G x0 (1 : Int32) (-3 : Int32)) fun r1 G2 =>
  some (r1, G2)
set_option maxHeartbeats 4000000 in
set_option maxRecDepth 100000 in
theorem b_X6_into_67 {p : Program} {l : Launch} {e : Env} {s : State} {m : MethodId} {args : Array Value} {below : List Frame} {meth : Method} {c : Code} {E : gE} {G0 : gG} {n0 : Nat} (X : g_X E G0 n0 p s m args meth c cX6_into 11 RX6 "into" (some .int)) {G : gG} {n : Nat} {r : Int32} {Gr : gG} {H : Heap} {locs : List Loc} (hI : g_I E (g_A G0 n0) G n s.heap H locs) {x0 : Nat} (h : f_X6_into_67 G x0 = some (r, Gr)) {ls : Array Slot} (hl : lv_has ls 11 [(0, .ref x0)]) : W p l e rm_X6_into s m args below meth c H locs 0 0 (MQ below (g_Q E G0 n0 (some (.int r)) Gr n) args s rm_X6_into.cells rm_X6_into.slots (g_A G0 n0)) (F0 m 67 ls []) := by
  have hx := X.1
  have hb := X.2.1
  unfold f_X6_into_67 at h
  refine lv_aload_n hx hb dX6_into_67 rfl (lv_at hl 0 rfl) ?_
  refine lv_iconst (v := 1) hx hb dX6_into_68 (by decide) ?_
  refine lv_bipush (v := (-3)) hx hb dX6_into_69 (by decide) ?_
  obtain ⟨cO, h⟩ := gck_s h
  obtain ⟨r1, G2, er1, h⟩ := gb2_s h
  refine g_callV X hI (q := (RX6, TX6, 17)) (b := x0) (av := [.int 1, .int (-3)]) cO rfl (c_X6_fails er1) gm_X6_fails tw_3_111 tw_3_113 tw_p_21 ⟨by decide, by decide⟩ hl.1 (rest := []) rfl (Nat.le_of_ble_eq_true rfl) dX6_into_71 ⟨by decide, by decide⟩ (st1 := [.int r1]) rfl (cells' := 0) (slots' := 0) rfl rfl (fun H locs hI => ?_)
  obtain ⟨h, h2⟩ := g_sp2 h
  subst h
  subst h2
  exact g_iret X hI dX6_into_74
def f_X6_into (G : gG) (th : Nat) (a1 : Int32) (a2 : Int32) (a3 : Int32) (a4 : Int32) : Option (Int32 × gG) :=
  if (f_X6_in (Int32.toInt64 a1) (0 : Int64) (22 : Int64)) = 0 then
    some ((-1), G)
  else
  gck (g_isO G th 5) <|
  gb (f_X6_isTensor G th a2) fun r1 =>
  if r1 = 0 then
    some ((-1), G)
  else
  gck (g_isO G th 5) <|
  gb (f_X6_isTensor G th a3) fun r2 =>
  if r2 = 0 then
    some ((-1), G)
  else
  gck (g_isO G th 5) <|
  gb (f_X6_isTensor G th a4) fun r3 =>
  if r3 = 0 then
    some ((-1), G)
  else
  gb (g_fA G th 5 5) fun g4 =>
  gb (g_zl G g4 a2) fun v5 =>
  if v5 = 0 then
    gb (g_fA G th 5 5) fun g6 =>
    gb (g_zl G g6 a3) fun v7 =>
    if v7 = 0 then
      gb (g_fA G th 5 5) fun g8 =>
      gb (g_zl G g8 a4) fun v9 =>
      if v9 = 0 then
        gck (g_isO G th 5) <|
        gb (f_X6_isLane G th a1 a2 a3) fun r10 =>
        if r10 = 0 then
          gck (g_isO G th 5) <|
          gb2 (f_X6_fails G th (4 : Int32) (-3 : Int32)) fun r19 G20 =>
          some (r19, G20)
        else
        gck (g_isO G th 5) <|
        gb (f_X6_begin G th a2) fun G11 =>
        gck (g_isO G11 th 5) <|
        gb2 (f_X6_spreadWith G11 th a3) fun r12 G13 =>
        if r12 < 0 then
          gb (g_fI G13 th 5 13) fun v14 =>
          gb (g_fA G13 th 5 2) fun g15 =>
          gb (g_il G13 g15 a4) fun v16 =>
          if v14 = v16 then
            f_X6_into_138 G13 th a1 a2 a3 a4 1
          else
          f_X6_into_138 G13 th a1 a2 a3 a4 0
        else
        gck (g_isO G13 th 5) <|
        gb2 (f_X6_fails G13 th (6 : Int32) r12) fun r17 G18 =>
        some (r17, G18)
      else
      f_X6_into_67 G th
    else
    f_X6_into_67 G th
  else
  f_X6_into_67 G th
theorem gm_X6_into : g_M yX6_into cX6_into 11 (some .int) 4 := ⟨tw_4_60, tw_1_5, by decide +kernel, Or.inl (by decide +kernel)⟩
set_option maxHeartbeats 4000000 in
set_option maxRecDepth 100000 in
theorem c_X6_into {l : Launch} {E : gE} {G : gG} {n : Nat} {th : Nat} {a1 : Int32} {a2 : Int32} {a3 : Int32} {a4 : Int32} {r : Int32} {Gr : gG} (h : f_X6_into G th a1 a2 a3 a4 = some (r, Gr)) : g_Met l yX6_into cX6_into 11 (some .int) rm_X6_into E G n [.ref th, .int a1, .int a2, .int a3, .int a4] (some (.int r)) Gr n := by
  refine g_ofW gm_X6_into (Nat.le_of_ble_eq_true rfl) ?_
  intro p e s m below meth c ls X hl hI
  have hx := X.1
  have hb := X.2.1
  have X : g_X E G n p s m _ meth c cX6_into 11 RX6 "into" (some .int) := X
  have hl : lv_has ls 11 [(0, .ref th), (1, .int a1), (2, .int a2), (3, .int a3), (4, .int a4)] := hl
  unfold f_X6_into at h
  refine lv_iload_n hx hb dX6_into_0 rfl (lv_at hl 1 rfl) ?_
  refine lv_i2l (v := (Int32.toInt64 a1)) hx hb dX6_into_1 rfl ?_
  refine lv_lconst (v := 0) hx hb dX6_into_2 (by decide) ?_
  refine lv_ldc2 (v := 22) hx hb X.2.2.2.1 (X.2.2.2.2.1 _ tw_3_160) dX6_into_3 ?_
  refine g_callS X hI (av := [.long (Int32.toInt64 a1), .long 0, .long 22]) (c_X6_in (Int32.toInt64 a1) (0 : Int64) (22 : Int64)) gm_X6_in tw_3_100 tw_3_101 ⟨by decide, by decide⟩ hl.1 (rest := []) rfl (Nat.le_of_ble_eq_true rfl) dX6_into_6 ⟨by decide, by decide⟩ (st1 := [.int (f_X6_in (Int32.toInt64 a1) (0 : Int64) (22 : Int64))]) rfl (cells' := 0) (slots' := 0) rfl rfl (fun H locs hI => ?_)
  refine lv_if_eq (tgt := 37) hx hb dX6_into_9 (by decide) (fun c => ?_) (fun c => ?_)
  · have h := g_t _ c h
    refine lv_iconst (v := (-1)) hx hb dX6_into_37 (by decide) ?_
    obtain ⟨h, h2⟩ := g_sp2 h
    subst h
    subst h2
    exact g_iret X hI dX6_into_38
  · have h := g_f _ c h
    refine lv_aload_n hx hb dX6_into_12 rfl (lv_at hl 0 rfl) ?_
    refine lv_iload_n hx hb dX6_into_13 rfl (lv_at hl 2 rfl) ?_
    obtain ⟨cO, h⟩ := gck_s h
    obtain ⟨r1, er1, h⟩ := gb_s h
    refine g_callV X hI (q := (RX6, TX6, 17)) (b := th) (av := [.int a2]) cO rfl (c_X6_isTensor er1) gm_X6_isTensor tw_3_119 tw_3_121 tw_p_22 ⟨by decide, by decide⟩ hl.1 (rest := []) rfl (Nat.le_of_ble_eq_true rfl) dX6_into_14 ⟨by decide, by decide⟩ (st1 := [.int r1]) rfl (cells' := 0) (slots' := 0) rfl rfl (fun H locs hI => ?_)
    refine lv_if_eq (tgt := 37) hx hb dX6_into_17 (by decide) (fun c => ?_) (fun c => ?_)
    · have h := g_t _ c h
      refine lv_iconst (v := (-1)) hx hb dX6_into_37 (by decide) ?_
      obtain ⟨h, h2⟩ := g_sp2 h
      subst h
      subst h2
      exact g_iret X hI dX6_into_38
    · have h := g_f _ c h
      refine lv_aload_n hx hb dX6_into_20 rfl (lv_at hl 0 rfl) ?_
      refine lv_iload_n hx hb dX6_into_21 rfl (lv_at hl 3 rfl) ?_
      obtain ⟨cO, h⟩ := gck_s h
      obtain ⟨r2, er2, h⟩ := gb_s h
      refine g_callV X hI (q := (RX6, TX6, 17)) (b := th) (av := [.int a3]) cO rfl (c_X6_isTensor er2) gm_X6_isTensor tw_3_119 tw_3_121 tw_p_22 ⟨by decide, by decide⟩ hl.1 (rest := []) rfl (Nat.le_of_ble_eq_true rfl) dX6_into_22 ⟨by decide, by decide⟩ (st1 := [.int r2]) rfl (cells' := 0) (slots' := 0) rfl rfl (fun H locs hI => ?_)
      refine lv_if_eq (tgt := 37) hx hb dX6_into_25 (by decide) (fun c => ?_) (fun c => ?_)
      · have h := g_t _ c h
        refine lv_iconst (v := (-1)) hx hb dX6_into_37 (by decide) ?_
        obtain ⟨h, h2⟩ := g_sp2 h
        subst h
        subst h2
        exact g_iret X hI dX6_into_38
      · have h := g_f _ c h
        refine lv_aload_n hx hb dX6_into_28 rfl (lv_at hl 0 rfl) ?_
        refine lv_iload hx hb dX6_into_29 (lv_at hl 4 rfl) ?_
        obtain ⟨cO, h⟩ := gck_s h
        obtain ⟨r3, er3, h⟩ := gb_s h
        refine g_callV X hI (q := (RX6, TX6, 17)) (b := th) (av := [.int a4]) cO rfl (c_X6_isTensor er3) gm_X6_isTensor tw_3_119 tw_3_121 tw_p_22 ⟨by decide, by decide⟩ hl.1 (rest := []) rfl (Nat.le_of_ble_eq_true rfl) dX6_into_31 ⟨by decide, by decide⟩ (st1 := [.int r3]) rfl (cells' := 0) (slots' := 0) rfl rfl (fun H locs hI => ?_)
        refine lv_if_ne (tgt := 39) hx hb dX6_into_34 (by decide) (fun c => ?_) (fun c => ?_)
        · have h := g_f _ c h
          refine lv_aload_n hx hb dX6_into_39 rfl (lv_at hl 0 rfl) ?_
          obtain ⟨g4, eg4, h⟩ := gb_s h
          refine g_get X hI (g_fA_s eg4) (C := RX6) (T := TX6) (N := 17) rfl gu_X6 (by decide) tw_3_47 dX6_into_40 ?_
          refine lv_iload_n hx hb dX6_into_43 rfl (lv_at hl 2 rfl) ?_
          obtain ⟨v5, ev5, h⟩ := gb_s h
          refine g_zald X hI ev5 dX6_into_44 ?_
          refine lv_if_ne (tgt := 67) hx hb dX6_into_45 (by decide) (fun c => ?_) (fun c => ?_)
          · have h := g_f _ c h
            exact b_X6_into_67 X hI h (lv_sub hl [0] rfl)
          · have h := g_t _ c h
            refine lv_aload_n hx hb dX6_into_48 rfl (lv_at hl 0 rfl) ?_
            obtain ⟨g6, eg6, h⟩ := gb_s h
            refine g_get X hI (g_fA_s eg6) (C := RX6) (T := TX6) (N := 17) rfl gu_X6 (by decide) tw_3_47 dX6_into_49 ?_
            refine lv_iload_n hx hb dX6_into_52 rfl (lv_at hl 3 rfl) ?_
            obtain ⟨v7, ev7, h⟩ := gb_s h
            refine g_zald X hI ev7 dX6_into_53 ?_
            refine lv_if_ne (tgt := 67) hx hb dX6_into_54 (by decide) (fun c => ?_) (fun c => ?_)
            · have h := g_f _ c h
              exact b_X6_into_67 X hI h (lv_sub hl [0] rfl)
            · have h := g_t _ c h
              refine lv_aload_n hx hb dX6_into_57 rfl (lv_at hl 0 rfl) ?_
              obtain ⟨g8, eg8, h⟩ := gb_s h
              refine g_get X hI (g_fA_s eg8) (C := RX6) (T := TX6) (N := 17) rfl gu_X6 (by decide) tw_3_47 dX6_into_58 ?_
              refine lv_iload hx hb dX6_into_61 (lv_at hl 4 rfl) ?_
              obtain ⟨v9, ev9, h⟩ := gb_s h
              refine g_zald X hI ev9 dX6_into_63 ?_
              refine lv_if_eq (tgt := 75) hx hb dX6_into_64 (by decide) (fun c => ?_) (fun c => ?_)
              · have h := g_t _ c h
                refine lv_aload_n hx hb dX6_into_75 rfl (lv_at hl 0 rfl) ?_
                refine lv_iload_n hx hb dX6_into_76 rfl (lv_at hl 1 rfl) ?_
                refine lv_iload_n hx hb dX6_into_77 rfl (lv_at hl 2 rfl) ?_
                refine lv_iload_n hx hb dX6_into_78 rfl (lv_at hl 3 rfl) ?_
                obtain ⟨cO, h⟩ := gck_s h
                obtain ⟨r10, er10, h⟩ := gb_s h
                refine g_callV X hI (q := (RX6, TX6, 17)) (b := th) (av := [.int a1, .int a2, .int a3]) cO rfl (c_X6_isLane er10) gm_X6_isLane tw_3_161 tw_3_163 tw_p_23 ⟨by decide, by decide⟩ hl.1 (rest := []) rfl (Nat.le_of_ble_eq_true rfl) dX6_into_79 ⟨by decide, by decide⟩ (st1 := [.int r10]) rfl (cells' := 0) (slots' := 0) rfl rfl (fun H locs hI => ?_)
                refine lv_if_ne (tgt := 93) hx hb dX6_into_82 (by decide) (fun c => ?_) (fun c => ?_)
                · have h := g_f _ c h
                  refine lv_aload_n hx hb dX6_into_93 rfl (lv_at hl 0 rfl) ?_
                  refine lv_iload_n hx hb dX6_into_94 rfl (lv_at hl 2 rfl) ?_
                  obtain ⟨cO, h⟩ := gck_s h
                  obtain ⟨G11, eG11, h⟩ := gb_s h
                  refine g_callV X hI (q := (RX6, TX6, 17)) (b := th) (av := [.int a2]) cO rfl (c_X6_begin eG11) gm_X6_begin tw_3_175 tw_3_177 tw_p_25 ⟨by decide, by decide⟩ hl.1 (rest := []) rfl (Nat.le_of_ble_eq_true rfl) dX6_into_95 ⟨by decide, by decide⟩ (st1 := []) rfl (cells' := 0) (slots' := 0) rfl rfl (fun H locs hI => ?_)
                  refine lv_aload_n hx hb dX6_into_98 rfl (lv_at hl 0 rfl) ?_
                  refine lv_iload_n hx hb dX6_into_99 rfl (lv_at hl 3 rfl) ?_
                  obtain ⟨cO, h⟩ := gck_s h
                  obtain ⟨r12, G13, er12, h⟩ := gb2_s h
                  refine g_callV X hI (q := (RX6, TX6, 17)) (b := th) (av := [.int a3]) cO rfl (c_X6_spreadWith er12) gm_X6_spreadWith tw_3_183 tw_3_185 tw_p_27 ⟨by decide, by decide⟩ hl.1 (rest := []) rfl (Nat.le_of_ble_eq_true rfl) dX6_into_100 ⟨by decide, by decide⟩ (st1 := [.int r12]) rfl (cells' := 0) (slots' := 0) rfl rfl (fun H locs hI => ?_)
                  refine lv_istore (lv' := [(5, .int r12), (0, .ref th), (1, .int a1), (2, .int a2), (3, .int a3), (4, .int a4)]) hx hb dX6_into_103 hl (by decide) rfl (fun ls hl => ?_)
                  refine lv_iload hx hb dX6_into_105 (lv_at hl 0 rfl) ?_
                  refine lv_if_lt (tgt := 119) hx hb dX6_into_107 (by decide) (fun c => ?_) (fun c => ?_)
                  · have h := g_t _ c h
                    refine lv_aload_n hx hb dX6_into_119 rfl (lv_at hl 1 rfl) ?_
                    obtain ⟨v14, ev14, h⟩ := gb_s h
                    refine g_get X hI (g_fI_s ev14) (C := RX6) (T := TX6) (N := 17) rfl gu_X6 (by decide) tw_3_55 dX6_into_120 ?_
                    refine lv_aload_n hx hb dX6_into_123 rfl (lv_at hl 1 rfl) ?_
                    obtain ⟨g15, eg15, h⟩ := gb_s h
                    refine g_get X hI (g_fA_s eg15) (C := RX6) (T := TX6) (N := 17) rfl gu_X6 (by decide) tw_3_44 dX6_into_124 ?_
                    refine lv_iload hx hb dX6_into_127 (lv_at hl 5 rfl) ?_
                    obtain ⟨v16, ev16, h⟩ := gb_s h
                    refine g_iald X hI ev16 dX6_into_129 ?_
                    refine lv_icmp_ne (tgt := 137) hx hb dX6_into_130 (by decide) (fun c => ?_) (fun c => ?_)
                    · have h := g_f _ c h
                      refine lv_iconst (v := 0) hx hb dX6_into_137 (by decide) ?_
                      exact b_X6_into_138 X hI h (lv_sub hl [1, 2, 3, 4, 5] rfl)
                    · have h := g_t _ c h
                      refine lv_iconst (v := 1) hx hb dX6_into_133 (by decide) ?_
                      refine lv_goto (tgt := 138) hx hb dX6_into_134 (by decide) ?_
                      exact b_X6_into_138 X hI h (lv_sub hl [1, 2, 3, 4, 5] rfl)
                  · have h := g_f _ c h
                    refine lv_aload_n hx hb dX6_into_110 rfl (lv_at hl 1 rfl) ?_
                    refine lv_bipush (v := 6) hx hb dX6_into_111 (by decide) ?_
                    refine lv_iload hx hb dX6_into_113 (lv_at hl 0 rfl) ?_
                    obtain ⟨cO, h⟩ := gck_s h
                    obtain ⟨r17, G18, er17, h⟩ := gb2_s h
                    refine g_callV X hI (q := (RX6, TX6, 17)) (b := th) (av := [.int 6, .int r12]) cO rfl (c_X6_fails er17) gm_X6_fails tw_3_111 tw_3_113 tw_p_21 ⟨by decide, by decide⟩ hl.1 (rest := []) rfl (Nat.le_of_ble_eq_true rfl) dX6_into_115 ⟨by decide, by decide⟩ (st1 := [.int r17]) rfl (cells' := 0) (slots' := 0) rfl rfl (fun H locs hI => ?_)
                    obtain ⟨h, h2⟩ := g_sp2 h
                    subst h
                    subst h2
                    exact g_iret X hI dX6_into_118
                · have h := g_t _ c h
                  refine lv_aload_n hx hb dX6_into_85 rfl (lv_at hl 0 rfl) ?_
                  refine lv_iconst (v := 4) hx hb dX6_into_86 (by decide) ?_
                  refine lv_bipush (v := (-3)) hx hb dX6_into_87 (by decide) ?_
                  obtain ⟨cO, h⟩ := gck_s h
                  obtain ⟨r19, G20, er19, h⟩ := gb2_s h
                  refine g_callV X hI (q := (RX6, TX6, 17)) (b := th) (av := [.int 4, .int (-3)]) cO rfl (c_X6_fails er19) gm_X6_fails tw_3_111 tw_3_113 tw_p_21 ⟨by decide, by decide⟩ hl.1 (rest := []) rfl (Nat.le_of_ble_eq_true rfl) dX6_into_89 ⟨by decide, by decide⟩ (st1 := [.int r19]) rfl (cells' := 0) (slots' := 0) rfl rfl (fun H locs hI => ?_)
                  obtain ⟨h, h2⟩ := g_sp2 h
                  subst h
                  subst h2
                  exact g_iret X hI dX6_into_92
              · have h := g_f _ c h
                exact b_X6_into_67 X hI h (lv_sub hl [0] rfl)
        · have h := g_t _ c h
          refine lv_iconst (v := (-1)) hx hb dX6_into_37 (by decide) ?_
          obtain ⟨h, h2⟩ := g_sp2 h
          subst h
          subst h2
          exact g_iret X hI dX6_into_38
abbrev rm_X6_one : Room := { frames := 4, cells := 0, slots := 0, locals := 105 }
def f_X6_one_255 (k111 : gG → Nat → Int32 → Int32 → Int32 → Int32 → Int32 → Option (Int32 × gG)) (G : gG) (x0 : Nat) (x1 : Int32) (x2 : Int32) (x3 : Int32) (x4 : Int32) (x5 : Int32) : Option (Int32 × gG) :=
  gl (x5 + 1 : Int32) fun v1 =>
  k111 G x0 x1 x2 x3 x4 v1
set_option maxHeartbeats 4000000 in
set_option maxRecDepth 100000 in
theorem b_X6_one_255 {p : Program} {l : Launch} {e : Env} {s : State} {m : MethodId} {args : Array Value} {below : List Frame} {meth : Method} {c : Code} {E : gE} {G0 : gG} {n0 : Nat} (X : g_X E G0 n0 p s m args meth c cX6_one 8 RX6 "one" (some .int)) {G : gG} {n : Nat} {r : Int32} {Gr : gG} {k111 : gG → Nat → Int32 → Int32 → Int32 → Int32 → Int32 → Option (Int32 × gG)} (hk111 : ∀ {G : gG} {H : Heap} {locs : List Loc} (_ : g_I E (g_A G0 n0) G n s.heap H locs) {x0 : Nat} {x1 : Int32} {x2 : Int32} {x3 : Int32} {x4 : Int32} {x5 : Int32}  (_ : k111 G x0 x1 x2 x3 x4 x5 = some (r, Gr)) {ls : Array Slot} (_ : lv_has ls 8 [(0, .ref x0), (1, .int x1), (2, .int x2), (3, .int x3), (4, .int x4), (5, .int x5)]), W p l e rm_X6_one s m args below meth c H locs 0 0 (MQ below (g_Q E G0 n0 (some (.int r)) Gr n) args s rm_X6_one.cells rm_X6_one.slots (g_A G0 n0)) (F0 m 111 ls [])) {H : Heap} {locs : List Loc} (hI : g_I E (g_A G0 n0) G n s.heap H locs) {x0 : Nat} {x1 : Int32} {x2 : Int32} {x3 : Int32} {x4 : Int32} {x5 : Int32} (h : f_X6_one_255 k111 G x0 x1 x2 x3 x4 x5 = some (r, Gr)) {ls : Array Slot} (hl : lv_has ls 8 [(0, .ref x0), (1, .int x1), (2, .int x2), (3, .int x3), (4, .int x4), (5, .int x5)]) : W p l e rm_X6_one s m args below meth c H locs 0 0 (MQ below (g_Q E G0 n0 (some (.int r)) Gr n) args s rm_X6_one.cells rm_X6_one.slots (g_A G0 n0)) (F0 m 255 ls []) := by
  have hx := X.1
  have hb := X.2.1
  unfold f_X6_one_255 at h
  obtain ⟨v1, ev1, h⟩ := gl_s h
  refine lv_iinc (v := v1) (lv' := [(5, .int v1), (0, .ref x0), (1, .int x1), (2, .int x2), (3, .int x3), (4, .int x4)]) hx hb dX6_one_255 hl (k := 5) rfl (by rw [← ev1]; rfl) (by decide) rfl (fun ls hl => ?_)
  refine lv_goto (tgt := 111) hx hb dX6_one_258 (by decide) ?_
  exact hk111 hI h (lv_sub hl [1, 2, 3, 4, 5, 0] rfl)
def f_X6_one_183 (k111 : gG → Nat → Int32 → Int32 → Int32 → Int32 → Int32 → Option (Int32 × gG)) (G : gG) (x0 : Nat) (x1 : Int32) (x2 : Int32) (x3 : Int32) (x4 : Int32) (x5 : Int32) (s0 : Int64) (s1 : Int32) (s2 : Nat) : Option (Int32 × gG) :=
  gb (g_ls G s2 s1 s0) fun G1 =>
  f_X6_one_255 k111 G1 x0 x1 x2 x3 x4 x5
set_option maxHeartbeats 4000000 in
set_option maxRecDepth 100000 in
theorem b_X6_one_183 {p : Program} {l : Launch} {e : Env} {s : State} {m : MethodId} {args : Array Value} {below : List Frame} {meth : Method} {c : Code} {E : gE} {G0 : gG} {n0 : Nat} (X : g_X E G0 n0 p s m args meth c cX6_one 8 RX6 "one" (some .int)) {G : gG} {n : Nat} {r : Int32} {Gr : gG} {k111 : gG → Nat → Int32 → Int32 → Int32 → Int32 → Int32 → Option (Int32 × gG)} (hk111 : ∀ {G : gG} {H : Heap} {locs : List Loc} (_ : g_I E (g_A G0 n0) G n s.heap H locs) {x0 : Nat} {x1 : Int32} {x2 : Int32} {x3 : Int32} {x4 : Int32} {x5 : Int32}  (_ : k111 G x0 x1 x2 x3 x4 x5 = some (r, Gr)) {ls : Array Slot} (_ : lv_has ls 8 [(0, .ref x0), (1, .int x1), (2, .int x2), (3, .int x3), (4, .int x4), (5, .int x5)]), W p l e rm_X6_one s m args below meth c H locs 0 0 (MQ below (g_Q E G0 n0 (some (.int r)) Gr n) args s rm_X6_one.cells rm_X6_one.slots (g_A G0 n0)) (F0 m 111 ls [])) {H : Heap} {locs : List Loc} (hI : g_I E (g_A G0 n0) G n s.heap H locs) {x0 : Nat} {x1 : Int32} {x2 : Int32} {x3 : Int32} {x4 : Int32} {x5 : Int32} {s0 : Int64} {s1 : Int32} {s2 : Nat} (h : f_X6_one_183 k111 G x0 x1 x2 x3 x4 x5 s0 s1 s2 = some (r, Gr)) {ls : Array Slot} (hl : lv_has ls 8 [(0, .ref x0), (1, .int x1), (2, .int x2), (3, .int x3), (4, .int x4), (5, .int x5)]) : W p l e rm_X6_one s m args below meth c H locs 0 0 (MQ below (g_Q E G0 n0 (some (.int r)) Gr n) args s rm_X6_one.cells rm_X6_one.slots (g_A G0 n0)) (F0 m 183 ls [.long s0, .int s1, .ref s2]) := by
  have hx := X.1
  have hb := X.2.1
  unfold f_X6_one_183 at h
  obtain ⟨G1, eG1, h⟩ := gb_s h
  refine g_last X hI (G' := G1) eG1 dX6_one_183 (fun H locs hI => ?_)
  refine lv_goto (tgt := 255) hx hb dX6_one_184 (by decide) ?_
  exact b_X6_one_255 X hk111 hI h (lv_sub hl [0, 1, 2, 3, 4, 5] rfl)
def f_X6_one_182 (k111 : gG → Nat → Int32 → Int32 → Int32 → Int32 → Int32 → Option (Int32 × gG)) (G : gG) (x0 : Nat) (x1 : Int32) (x2 : Int32) (x3 : Int32) (x4 : Int32) (x5 : Int32) (s0 : Int32) (s1 : Nat) : Option (Int32 × gG) :=
  f_X6_one_183 k111 G x0 x1 x2 x3 x4 x5 0 s0 s1
set_option maxHeartbeats 4000000 in
set_option maxRecDepth 100000 in
theorem b_X6_one_182 {p : Program} {l : Launch} {e : Env} {s : State} {m : MethodId} {args : Array Value} {below : List Frame} {meth : Method} {c : Code} {E : gE} {G0 : gG} {n0 : Nat} (X : g_X E G0 n0 p s m args meth c cX6_one 8 RX6 "one" (some .int)) {G : gG} {n : Nat} {r : Int32} {Gr : gG} {k111 : gG → Nat → Int32 → Int32 → Int32 → Int32 → Int32 → Option (Int32 × gG)} (hk111 : ∀ {G : gG} {H : Heap} {locs : List Loc} (_ : g_I E (g_A G0 n0) G n s.heap H locs) {x0 : Nat} {x1 : Int32} {x2 : Int32} {x3 : Int32} {x4 : Int32} {x5 : Int32}  (_ : k111 G x0 x1 x2 x3 x4 x5 = some (r, Gr)) {ls : Array Slot} (_ : lv_has ls 8 [(0, .ref x0), (1, .int x1), (2, .int x2), (3, .int x3), (4, .int x4), (5, .int x5)]), W p l e rm_X6_one s m args below meth c H locs 0 0 (MQ below (g_Q E G0 n0 (some (.int r)) Gr n) args s rm_X6_one.cells rm_X6_one.slots (g_A G0 n0)) (F0 m 111 ls [])) {H : Heap} {locs : List Loc} (hI : g_I E (g_A G0 n0) G n s.heap H locs) {x0 : Nat} {x1 : Int32} {x2 : Int32} {x3 : Int32} {x4 : Int32} {x5 : Int32} {s0 : Int32} {s1 : Nat} (h : f_X6_one_182 k111 G x0 x1 x2 x3 x4 x5 s0 s1 = some (r, Gr)) {ls : Array Slot} (hl : lv_has ls 8 [(0, .ref x0), (1, .int x1), (2, .int x2), (3, .int x3), (4, .int x4), (5, .int x5)]) : W p l e rm_X6_one s m args below meth c H locs 0 0 (MQ below (g_Q E G0 n0 (some (.int r)) Gr n) args s rm_X6_one.cells rm_X6_one.slots (g_A G0 n0)) (F0 m 182 ls [.int s0, .ref s1]) := by
  have hx := X.1
  have hb := X.2.1
  unfold f_X6_one_182 at h
  refine lv_lconst (v := 0) hx hb dX6_one_182 (by decide) ?_
  exact b_X6_one_183 X hk111 hI h (lv_sub hl [0, 1, 2, 3, 4, 5] rfl)
def f_X6_one_178 (k111 : gG → Nat → Int32 → Int32 → Int32 → Int32 → Int32 → Option (Int32 × gG)) (G : gG) (x0 : Nat) (x1 : Int32) (x2 : Int32) (x3 : Int32) (x4 : Int32) (x5 : Int32) (s0 : Int32) (s1 : Nat) : Option (Int32 × gG) :=
  f_X6_one_183 k111 G x0 x1 x2 x3 x4 x5 1 s0 s1
set_option maxHeartbeats 4000000 in
set_option maxRecDepth 100000 in
theorem b_X6_one_178 {p : Program} {l : Launch} {e : Env} {s : State} {m : MethodId} {args : Array Value} {below : List Frame} {meth : Method} {c : Code} {E : gE} {G0 : gG} {n0 : Nat} (X : g_X E G0 n0 p s m args meth c cX6_one 8 RX6 "one" (some .int)) {G : gG} {n : Nat} {r : Int32} {Gr : gG} {k111 : gG → Nat → Int32 → Int32 → Int32 → Int32 → Int32 → Option (Int32 × gG)} (hk111 : ∀ {G : gG} {H : Heap} {locs : List Loc} (_ : g_I E (g_A G0 n0) G n s.heap H locs) {x0 : Nat} {x1 : Int32} {x2 : Int32} {x3 : Int32} {x4 : Int32} {x5 : Int32}  (_ : k111 G x0 x1 x2 x3 x4 x5 = some (r, Gr)) {ls : Array Slot} (_ : lv_has ls 8 [(0, .ref x0), (1, .int x1), (2, .int x2), (3, .int x3), (4, .int x4), (5, .int x5)]), W p l e rm_X6_one s m args below meth c H locs 0 0 (MQ below (g_Q E G0 n0 (some (.int r)) Gr n) args s rm_X6_one.cells rm_X6_one.slots (g_A G0 n0)) (F0 m 111 ls [])) {H : Heap} {locs : List Loc} (hI : g_I E (g_A G0 n0) G n s.heap H locs) {x0 : Nat} {x1 : Int32} {x2 : Int32} {x3 : Int32} {x4 : Int32} {x5 : Int32} {s0 : Int32} {s1 : Nat} (h : f_X6_one_178 k111 G x0 x1 x2 x3 x4 x5 s0 s1 = some (r, Gr)) {ls : Array Slot} (hl : lv_has ls 8 [(0, .ref x0), (1, .int x1), (2, .int x2), (3, .int x3), (4, .int x4), (5, .int x5)]) : W p l e rm_X6_one s m args below meth c H locs 0 0 (MQ below (g_Q E G0 n0 (some (.int r)) Gr n) args s rm_X6_one.cells rm_X6_one.slots (g_A G0 n0)) (F0 m 178 ls [.int s0, .ref s1]) := by
  have hx := X.1
  have hb := X.2.1
  unfold f_X6_one_178 at h
  refine lv_lconst (v := 1) hx hb dX6_one_178 (by decide) ?_
  refine lv_goto (tgt := 183) hx hb dX6_one_179 (by decide) ?_
  exact b_X6_one_183 X hk111 hI h (lv_sub hl [0, 1, 2, 3, 4, 5] rfl)
def f_X6_one_165 (k111 : gG → Nat → Int32 → Int32 → Int32 → Int32 → Int32 → Option (Int32 × gG)) (G : gG) (x0 : Nat) (x1 : Int32) (x2 : Int32) (x3 : Int32) (x4 : Int32) (x5 : Int32) (x6 : Int64) (s0 : Int32) (s1 : Nat) : Option (Int32 × gG) :=
  if x3 = 5 then
    if (f_X6_isNan x6) = 0 then
      f_X6_one_182 k111 G x0 x1 x2 x3 x4 x5 s0 s1
    else
    f_X6_one_178 k111 G x0 x1 x2 x3 x4 x5 s0 s1
  else
  f_X6_one_182 k111 G x0 x1 x2 x3 x4 x5 s0 s1
set_option maxHeartbeats 4000000 in
set_option maxRecDepth 100000 in
theorem b_X6_one_165 {p : Program} {l : Launch} {e : Env} {s : State} {m : MethodId} {args : Array Value} {below : List Frame} {meth : Method} {c : Code} {E : gE} {G0 : gG} {n0 : Nat} (X : g_X E G0 n0 p s m args meth c cX6_one 8 RX6 "one" (some .int)) {G : gG} {n : Nat} {r : Int32} {Gr : gG} {k111 : gG → Nat → Int32 → Int32 → Int32 → Int32 → Int32 → Option (Int32 × gG)} (hk111 : ∀ {G : gG} {H : Heap} {locs : List Loc} (_ : g_I E (g_A G0 n0) G n s.heap H locs) {x0 : Nat} {x1 : Int32} {x2 : Int32} {x3 : Int32} {x4 : Int32} {x5 : Int32}  (_ : k111 G x0 x1 x2 x3 x4 x5 = some (r, Gr)) {ls : Array Slot} (_ : lv_has ls 8 [(0, .ref x0), (1, .int x1), (2, .int x2), (3, .int x3), (4, .int x4), (5, .int x5)]), W p l e rm_X6_one s m args below meth c H locs 0 0 (MQ below (g_Q E G0 n0 (some (.int r)) Gr n) args s rm_X6_one.cells rm_X6_one.slots (g_A G0 n0)) (F0 m 111 ls [])) {H : Heap} {locs : List Loc} (hI : g_I E (g_A G0 n0) G n s.heap H locs) {x0 : Nat} {x1 : Int32} {x2 : Int32} {x3 : Int32} {x4 : Int32} {x5 : Int32} {x6 : Int64} {s0 : Int32} {s1 : Nat} (h : f_X6_one_165 k111 G x0 x1 x2 x3 x4 x5 x6 s0 s1 = some (r, Gr)) {ls : Array Slot} (hl : lv_has ls 8 [(0, .ref x0), (1, .int x1), (2, .int x2), (3, .int x3), (4, .int x4), (5, .int x5), (6, .long x6)]) : W p l e rm_X6_one s m args below meth c H locs 0 0 (MQ below (g_Q E G0 n0 (some (.int r)) Gr n) args s rm_X6_one.cells rm_X6_one.slots (g_A G0 n0)) (F0 m 165 ls [.int s0, .ref s1]) := by
  have hx := X.1
  have hb := X.2.1
  unfold f_X6_one_165 at h
  refine lv_iload_n hx hb dX6_one_165 rfl (lv_at hl 3 rfl) ?_
  refine lv_iconst (v := 5) hx hb dX6_one_166 (by decide) ?_
  refine lv_icmp_ne (tgt := 182) hx hb dX6_one_167 (by decide) (fun c => ?_) (fun c => ?_)
  · have h := g_f _ c h
    exact b_X6_one_182 X hk111 hI h (lv_sub hl [0, 1, 2, 3, 4, 5] rfl)
  · have h := g_t _ c h
    refine lv_lload hx hb dX6_one_170 (lv_at hl 6 rfl) ?_
    refine g_callS X hI (av := [.long x6]) (c_X6_isNan x6) gm_X6_isNan tw_3_137 tw_3_138 ⟨by decide, by decide⟩ hl.1 (rest := [.int s0, .ref s1]) rfl (Nat.le_of_ble_eq_true rfl) dX6_one_172 ⟨by decide, by decide⟩ (st1 := [.int (f_X6_isNan x6), .int s0, .ref s1]) rfl (cells' := 0) (slots' := 0) rfl rfl (fun H locs hI => ?_)
    refine lv_if_eq (tgt := 182) hx hb dX6_one_175 (by decide) (fun c => ?_) (fun c => ?_)
    · have h := g_t _ c h
      exact b_X6_one_182 X hk111 hI h (lv_sub hl [0, 1, 2, 3, 4, 5] rfl)
    · have h := g_f _ c h
      exact b_X6_one_178 X hk111 hI h (lv_sub hl [0, 1, 2, 3, 4, 5] rfl)
def f_X6_one_111 : Nat → gG → Nat → Int32 → Int32 → Int32 → Int32 → Int32 → Option (Int32 × gG)
  | 0, _, _, _, _, _, _, _ => none
  | fu + 1, G, x0, x1, x2, x3, x4, x5 =>
    gb (g_fA G x0 5 4) fun g1 =>
    gb (g_il G g1 x2) fun v2 =>
    if v2 ≤ x5 then
      gck (g_isO G x0 5) <|
      gb2 (f_X6_made G x0 x4) fun r3 G4 =>
      some (r3, G4)
    else
    gb (g_fA G x0 5 6) fun g5 =>
    gb (g_ll G g5 (((240 : Int32) * x2) + x5)) fun v6 =>
    if x1 = 8 then
      gb (g_fA G x0 5 7) fun g17 =>
      if x3 = 4 then
        gb (f_X6_wide v6) fun r18 =>
        if (f_X6_isNan r18) = 0 then
          f_X6_one_165 (f_X6_one_111 fu) G x0 x1 x2 x3 x4 x5 v6 x5 g17
        else
        f_X6_one_178 (f_X6_one_111 fu) G x0 x1 x2 x3 x4 x5 x5 g17
      else
      f_X6_one_165 (f_X6_one_111 fu) G x0 x1 x2 x3 x4 x5 v6 x5 g17
    else
    if x3 = 4 then
      gb (g_fA G x0 5 7) fun g12 =>
      gb (f_X6_wide v6) fun r13 =>
      gb (f_X6_onReal x1 r13) fun r14 =>
      gb (f_X6_floatBits r14) fun r15 =>
      gb (g_ls G g12 x5 r15) fun G16 =>
      f_X6_one_255 (f_X6_one_111 fu) G16 x0 x1 x2 x3 x4 x5
    else
    if x3 = 5 then
      gb (g_fA G x0 5 7) fun g9 =>
      gb (f_X6_onReal x1 v6) fun r10 =>
      gb (g_ls G g9 x5 r10) fun G11 =>
      f_X6_one_255 (f_X6_one_111 fu) G11 x0 x1 x2 x3 x4 x5
    else
    gb (g_fA G x0 5 7) fun g7 =>
    gb (g_ls G g7 x5 (f_X6_kept (f_X6_onWhole x1 v6 x4) x4)) fun G8 =>
    f_X6_one_255 (f_X6_one_111 fu) G8 x0 x1 x2 x3 x4 x5
set_option maxHeartbeats 4000000 in
set_option maxRecDepth 100000 in
theorem b_X6_one_111 {p : Program} {l : Launch} {e : Env} {s : State} {m : MethodId} {args : Array Value} {below : List Frame} {meth : Method} {c : Code} {E : gE} {G0 : gG} {n0 : Nat} (X : g_X E G0 n0 p s m args meth c cX6_one 8 RX6 "one" (some .int)) {n : Nat} {r : Int32} {Gr : gG} (fu : Nat) : ∀ {G : gG} {H : Heap} {locs : List Loc} (_ : g_I E (g_A G0 n0) G n s.heap H locs) {x0 : Nat} {x1 : Int32} {x2 : Int32} {x3 : Int32} {x4 : Int32} {x5 : Int32} (_ : f_X6_one_111 fu G x0 x1 x2 x3 x4 x5 = some (r, Gr)) {ls : Array Slot} (_ : lv_has ls 8 [(0, .ref x0), (1, .int x1), (2, .int x2), (3, .int x3), (4, .int x4), (5, .int x5)]), W p l e rm_X6_one s m args below meth c H locs 0 0 (MQ below (g_Q E G0 n0 (some (.int r)) Gr n) args s rm_X6_one.cells rm_X6_one.slots (g_A G0 n0)) (F0 m 111 ls []) := by
  have hx := X.1
  have hb := X.2.1
  induction fu with
  | zero =>
    intro G H locs hI x0 x1 x2 x3 x4 x5 h ls hl
    rw [f_X6_one_111] at h
    cases h
  | succ fu ih =>
    intro G H locs hI x0 x1 x2 x3 x4 x5 h ls hl
    rw [f_X6_one_111] at h
    refine lv_iload hx hb dX6_one_111 (lv_at hl 5 rfl) ?_
    refine lv_aload_n hx hb dX6_one_113 rfl (lv_at hl 0 rfl) ?_
    obtain ⟨g1, eg1, h⟩ := gb_s h
    refine g_get X hI (g_fA_s eg1) (C := RX6) (T := TX6) (N := 17) rfl gu_X6 (by decide) tw_3_46 dX6_one_114 ?_
    refine lv_iload_n hx hb dX6_one_117 rfl (lv_at hl 2 rfl) ?_
    obtain ⟨v2, ev2, h⟩ := gb_s h
    refine g_iald X hI ev2 dX6_one_118 ?_
    refine lv_icmp_ge (tgt := 261) hx hb dX6_one_119 (by decide) (fun c => ?_) (fun c => ?_)
    · have h := g_t _ c h
      refine lv_aload_n hx hb dX6_one_261 rfl (lv_at hl 0 rfl) ?_
      refine lv_iload hx hb dX6_one_262 (lv_at hl 4 rfl) ?_
      obtain ⟨cO, h⟩ := gck_s h
      obtain ⟨r3, G4, er3, h⟩ := gb2_s h
      refine g_callV X hI (q := (RX6, TX6, 17)) (b := x0) (av := [.int x4]) cO rfl (c_X6_made er3) gm_X6_made tw_3_103 tw_3_105 tw_p_20 ⟨by decide, by decide⟩ hl.1 (rest := []) rfl (Nat.le_of_ble_eq_true rfl) dX6_one_264 ⟨by decide, by decide⟩ (st1 := [.int r3]) rfl (cells' := 0) (slots' := 0) rfl rfl (fun H locs hI => ?_)
      obtain ⟨h, h2⟩ := g_sp2 h
      subst h
      subst h2
      exact g_iret X hI dX6_one_267
    · have h := g_f _ c h
      refine lv_aload_n hx hb dX6_one_122 rfl (lv_at hl 0 rfl) ?_
      obtain ⟨g5, eg5, h⟩ := gb_s h
      refine g_get X hI (g_fA_s eg5) (C := RX6) (T := TX6) (N := 17) rfl gu_X6 (by decide) tw_3_48 dX6_one_123 ?_
      refine lv_sipush (v := 240) hx hb dX6_one_126 (by decide) ?_
      refine lv_iload_n hx hb dX6_one_129 rfl (lv_at hl 2 rfl) ?_
      refine lv_imul (x := 240) (y := x2) hx hb dX6_one_130 ?_
      refine lv_iload hx hb dX6_one_131 (lv_at hl 5 rfl) ?_
      refine lv_iadd (x := ((240 : Int32) * x2)) (y := x5) hx hb dX6_one_133 ?_
      obtain ⟨v6, ev6, h⟩ := gb_s h
      refine g_lald X hI ev6 dX6_one_134 ?_
      refine lv_lstore (lv' := [(6, .long v6), (0, .ref x0), (1, .int x1), (2, .int x2), (3, .int x3), (4, .int x4), (5, .int x5)]) hx hb dX6_one_135 hl (by decide) rfl (fun ls hl => ?_)
      refine lv_iload_n hx hb dX6_one_137 rfl (lv_at hl 2 rfl) ?_
      refine lv_bipush (v := 8) hx hb dX6_one_138 (by decide) ?_
      refine lv_icmp_ne (tgt := 187) hx hb dX6_one_140 (by decide) (fun c => ?_) (fun c => ?_)
      · have h := g_f _ c h
        refine lv_iload_n hx hb dX6_one_187 rfl (lv_at hl 4 rfl) ?_
        refine lv_iconst (v := 4) hx hb dX6_one_188 (by decide) ?_
        refine lv_icmp_ne (tgt := 214) hx hb dX6_one_189 (by decide) (fun c => ?_) (fun c => ?_)
        · have h := g_f _ c h
          refine lv_iload_n hx hb dX6_one_214 rfl (lv_at hl 4 rfl) ?_
          refine lv_iconst (v := 5) hx hb dX6_one_215 (by decide) ?_
          refine lv_icmp_ne (tgt := 235) hx hb dX6_one_216 (by decide) (fun c => ?_) (fun c => ?_)
          · have h := g_f _ c h
            refine lv_aload_n hx hb dX6_one_235 rfl (lv_at hl 1 rfl) ?_
            obtain ⟨g7, eg7, h⟩ := gb_s h
            refine g_get X hI (g_fA_s eg7) (C := RX6) (T := TX6) (N := 17) rfl gu_X6 (by decide) tw_3_49 dX6_one_236 ?_
            refine lv_iload hx hb dX6_one_239 (lv_at hl 6 rfl) ?_
            refine lv_iload_n hx hb dX6_one_241 rfl (lv_at hl 2 rfl) ?_
            refine lv_lload hx hb dX6_one_242 (lv_at hl 0 rfl) ?_
            refine lv_iload hx hb dX6_one_244 (lv_at hl 5 rfl) ?_
            refine g_callS X hI (av := [.int x1, .long v6, .int x4]) (c_X6_onWhole x1 v6 x4) gm_X6_onWhole tw_4_69 tw_4_70 ⟨by decide, by decide⟩ hl.1 (rest := [.int x5, .ref g7]) rfl (Nat.le_of_ble_eq_true rfl) dX6_one_246 ⟨by decide, by decide⟩ (st1 := [.long (f_X6_onWhole x1 v6 x4), .int x5, .ref g7]) rfl (cells' := 0) (slots' := 0) rfl rfl (fun H locs hI => ?_)
            refine lv_iload hx hb dX6_one_249 (lv_at hl 5 rfl) ?_
            refine g_callS X hI (av := [.long (f_X6_onWhole x1 v6 x4), .int x4]) (c_X6_kept (f_X6_onWhole x1 v6 x4) x4) gm_X6_kept tw_3_131 tw_3_132 ⟨by decide, by decide⟩ hl.1 (rest := [.int x5, .ref g7]) rfl (Nat.le_of_ble_eq_true rfl) dX6_one_251 ⟨by decide, by decide⟩ (st1 := [.long (f_X6_kept (f_X6_onWhole x1 v6 x4) x4), .int x5, .ref g7]) rfl (cells' := 0) (slots' := 0) rfl rfl (fun H locs hI => ?_)
            obtain ⟨G8, eG8, h⟩ := gb_s h
            refine g_last X hI (G' := G8) eG8 dX6_one_254 (fun H locs hI => ?_)
            exact b_X6_one_255 X ih hI h (lv_sub hl [1, 2, 3, 4, 5, 6] rfl)
          · have h := g_t _ c h
            refine lv_aload_n hx hb dX6_one_219 rfl (lv_at hl 1 rfl) ?_
            obtain ⟨g9, eg9, h⟩ := gb_s h
            refine g_get X hI (g_fA_s eg9) (C := RX6) (T := TX6) (N := 17) rfl gu_X6 (by decide) tw_3_49 dX6_one_220 ?_
            refine lv_iload hx hb dX6_one_223 (lv_at hl 6 rfl) ?_
            refine lv_iload_n hx hb dX6_one_225 rfl (lv_at hl 2 rfl) ?_
            refine lv_lload hx hb dX6_one_226 (lv_at hl 0 rfl) ?_
            obtain ⟨r10, er10, h⟩ := gb_s h
            refine g_callS X hI (av := [.int x1, .long v6]) (c_X6_onReal er10) gm_X6_onReal tw_4_66 tw_4_67 ⟨by decide, by decide⟩ hl.1 (rest := [.int x5, .ref g9]) rfl (Nat.le_of_ble_eq_true rfl) dX6_one_228 ⟨by decide, by decide⟩ (st1 := [.long r10, .int x5, .ref g9]) rfl (cells' := 0) (slots' := 0) rfl rfl (fun H locs hI => ?_)
            obtain ⟨G11, eG11, h⟩ := gb_s h
            refine g_last X hI (G' := G11) eG11 dX6_one_231 (fun H locs hI => ?_)
            refine lv_goto (tgt := 255) hx hb dX6_one_232 (by decide) ?_
            exact b_X6_one_255 X ih hI h (lv_sub hl [1, 2, 3, 4, 5, 6] rfl)
        · have h := g_t _ c h
          refine lv_aload_n hx hb dX6_one_192 rfl (lv_at hl 1 rfl) ?_
          obtain ⟨g12, eg12, h⟩ := gb_s h
          refine g_get X hI (g_fA_s eg12) (C := RX6) (T := TX6) (N := 17) rfl gu_X6 (by decide) tw_3_49 dX6_one_193 ?_
          refine lv_iload hx hb dX6_one_196 (lv_at hl 6 rfl) ?_
          refine lv_iload_n hx hb dX6_one_198 rfl (lv_at hl 2 rfl) ?_
          refine lv_lload hx hb dX6_one_199 (lv_at hl 0 rfl) ?_
          obtain ⟨r13, er13, h⟩ := gb_s h
          refine g_callS X hI (av := [.long v6]) (c_X6_wide er13) gm_X6_wide tw_4_5 tw_4_6 ⟨by decide, by decide⟩ hl.1 (rest := [.int x1, .int x5, .ref g12]) rfl (Nat.le_of_ble_eq_true rfl) dX6_one_201 ⟨by decide, by decide⟩ (st1 := [.long r13, .int x1, .int x5, .ref g12]) rfl (cells' := 0) (slots' := 0) rfl rfl (fun H locs hI => ?_)
          obtain ⟨r14, er14, h⟩ := gb_s h
          refine g_callS X hI (av := [.int x1, .long r13]) (c_X6_onReal er14) gm_X6_onReal tw_4_66 tw_4_67 ⟨by decide, by decide⟩ hl.1 (rest := [.int x5, .ref g12]) rfl (Nat.le_of_ble_eq_true rfl) dX6_one_204 ⟨by decide, by decide⟩ (st1 := [.long r14, .int x5, .ref g12]) rfl (cells' := 0) (slots' := 0) rfl rfl (fun H locs hI => ?_)
          obtain ⟨r15, er15, h⟩ := gb_s h
          refine g_callS X hI (av := [.long r14]) (c_X6_floatBits er15) gm_X6_floatBits tw_3_225 tw_3_226 ⟨by decide, by decide⟩ hl.1 (rest := [.int x5, .ref g12]) rfl (Nat.le_of_ble_eq_true rfl) dX6_one_207 ⟨by decide, by decide⟩ (st1 := [.long r15, .int x5, .ref g12]) rfl (cells' := 0) (slots' := 0) rfl rfl (fun H locs hI => ?_)
          obtain ⟨G16, eG16, h⟩ := gb_s h
          refine g_last X hI (G' := G16) eG16 dX6_one_210 (fun H locs hI => ?_)
          refine lv_goto (tgt := 255) hx hb dX6_one_211 (by decide) ?_
          exact b_X6_one_255 X ih hI h (lv_sub hl [1, 2, 3, 4, 5, 6] rfl)
      · have h := g_t _ c h
        refine lv_aload_n hx hb dX6_one_143 rfl (lv_at hl 1 rfl) ?_
        obtain ⟨g17, eg17, h⟩ := gb_s h
        refine g_get X hI (g_fA_s eg17) (C := RX6) (T := TX6) (N := 17) rfl gu_X6 (by decide) tw_3_49 dX6_one_144 ?_
        refine lv_iload hx hb dX6_one_147 (lv_at hl 6 rfl) ?_
        refine lv_iload_n hx hb dX6_one_149 rfl (lv_at hl 4 rfl) ?_
        refine lv_iconst (v := 4) hx hb dX6_one_150 (by decide) ?_
        refine lv_icmp_ne (tgt := 165) hx hb dX6_one_151 (by decide) (fun c => ?_) (fun c => ?_)
        · have h := g_f _ c h
          exact b_X6_one_165 X ih hI h (lv_sub hl [1, 2, 3, 4, 5, 6, 0] rfl)
        · have h := g_t _ c h
          refine lv_lload hx hb dX6_one_154 (lv_at hl 0 rfl) ?_
          obtain ⟨r18, er18, h⟩ := gb_s h
          refine g_callS X hI (av := [.long v6]) (c_X6_wide er18) gm_X6_wide tw_4_5 tw_4_6 ⟨by decide, by decide⟩ hl.1 (rest := [.int x5, .ref g17]) rfl (Nat.le_of_ble_eq_true rfl) dX6_one_156 ⟨by decide, by decide⟩ (st1 := [.long r18, .int x5, .ref g17]) rfl (cells' := 0) (slots' := 0) rfl rfl (fun H locs hI => ?_)
          refine g_callS X hI (av := [.long r18]) (c_X6_isNan r18) gm_X6_isNan tw_3_137 tw_3_138 ⟨by decide, by decide⟩ hl.1 (rest := [.int x5, .ref g17]) rfl (Nat.le_of_ble_eq_true rfl) dX6_one_159 ⟨by decide, by decide⟩ (st1 := [.int (f_X6_isNan r18), .int x5, .ref g17]) rfl (cells' := 0) (slots' := 0) rfl rfl (fun H locs hI => ?_)
          refine lv_if_ne (tgt := 178) hx hb dX6_one_162 (by decide) (fun c => ?_) (fun c => ?_)
          · have h := g_f _ c h
            exact b_X6_one_178 X ih hI h (lv_sub hl [1, 2, 3, 4, 5, 6] rfl)
          · have h := g_t _ c h
            exact b_X6_one_165 X ih hI h (lv_sub hl [1, 2, 3, 4, 5, 6, 0] rfl)
def f_X6_one_101 (G : gG) (x0 : Nat) (x1 : Int32) (x2 : Int32) (x3 : Int32) (s0 : Int32) : Option (Int32 × gG) :=
  gck (g_isO G x0 5) <|
  gb (f_X6_begin G x0 x2) fun G1 =>
  f_X6_one_111 5000 G1 x0 x1 x2 x3 s0 0
set_option maxHeartbeats 4000000 in
set_option maxRecDepth 100000 in
theorem b_X6_one_101 {p : Program} {l : Launch} {e : Env} {s : State} {m : MethodId} {args : Array Value} {below : List Frame} {meth : Method} {c : Code} {E : gE} {G0 : gG} {n0 : Nat} (X : g_X E G0 n0 p s m args meth c cX6_one 8 RX6 "one" (some .int)) {G : gG} {n : Nat} {r : Int32} {Gr : gG} {H : Heap} {locs : List Loc} (hI : g_I E (g_A G0 n0) G n s.heap H locs) {x0 : Nat} {x1 : Int32} {x2 : Int32} {x3 : Int32} {s0 : Int32} (h : f_X6_one_101 G x0 x1 x2 x3 s0 = some (r, Gr)) {ls : Array Slot} (hl : lv_has ls 8 [(0, .ref x0), (1, .int x1), (2, .int x2), (3, .int x3)]) : W p l e rm_X6_one s m args below meth c H locs 0 0 (MQ below (g_Q E G0 n0 (some (.int r)) Gr n) args s rm_X6_one.cells rm_X6_one.slots (g_A G0 n0)) (F0 m 101 ls [.int s0]) := by
  have hx := X.1
  have hb := X.2.1
  unfold f_X6_one_101 at h
  refine lv_istore (lv' := [(4, .int s0), (0, .ref x0), (1, .int x1), (2, .int x2), (3, .int x3)]) hx hb dX6_one_101 hl (by decide) rfl (fun ls hl => ?_)
  refine lv_aload_n hx hb dX6_one_103 rfl (lv_at hl 1 rfl) ?_
  refine lv_iload_n hx hb dX6_one_104 rfl (lv_at hl 3 rfl) ?_
  obtain ⟨cO, h⟩ := gck_s h
  obtain ⟨G1, eG1, h⟩ := gb_s h
  refine g_callV X hI (q := (RX6, TX6, 17)) (b := x0) (av := [.int x2]) cO rfl (c_X6_begin eG1) gm_X6_begin tw_3_175 tw_3_177 tw_p_25 ⟨by decide, by decide⟩ hl.1 (rest := []) rfl (Nat.le_of_ble_eq_true rfl) dX6_one_105 ⟨by decide, by decide⟩ (st1 := []) rfl (cells' := 0) (slots' := 0) rfl rfl (fun H locs hI => ?_)
  refine lv_iconst (v := 0) hx hb dX6_one_108 (by decide) ?_
  refine lv_istore (lv' := [(5, .int 0), (4, .int s0), (0, .ref x0), (1, .int x1), (2, .int x2), (3, .int x3)]) hx hb dX6_one_109 hl (by decide) rfl (fun ls hl => ?_)
  exact b_X6_one_111 X 5000 hI h (lv_sub hl [2, 3, 4, 5, 1, 0] rfl)
def f_X6_one_100 (G : gG) (x0 : Nat) (x1 : Int32) (x2 : Int32) (x3 : Int32) : Option (Int32 × gG) :=
  f_X6_one_101 G x0 x1 x2 x3 x3
set_option maxHeartbeats 4000000 in
set_option maxRecDepth 100000 in
theorem b_X6_one_100 {p : Program} {l : Launch} {e : Env} {s : State} {m : MethodId} {args : Array Value} {below : List Frame} {meth : Method} {c : Code} {E : gE} {G0 : gG} {n0 : Nat} (X : g_X E G0 n0 p s m args meth c cX6_one 8 RX6 "one" (some .int)) {G : gG} {n : Nat} {r : Int32} {Gr : gG} {H : Heap} {locs : List Loc} (hI : g_I E (g_A G0 n0) G n s.heap H locs) {x0 : Nat} {x1 : Int32} {x2 : Int32} {x3 : Int32} (h : f_X6_one_100 G x0 x1 x2 x3 = some (r, Gr)) {ls : Array Slot} (hl : lv_has ls 8 [(0, .ref x0), (1, .int x1), (2, .int x2), (3, .int x3)]) : W p l e rm_X6_one s m args below meth c H locs 0 0 (MQ below (g_Q E G0 n0 (some (.int r)) Gr n) args s rm_X6_one.cells rm_X6_one.slots (g_A G0 n0)) (F0 m 100 ls []) := by
  have hx := X.1
  have hb := X.2.1
  unfold f_X6_one_100 at h
  refine lv_iload_n hx hb dX6_one_100 rfl (lv_at hl 3 rfl) ?_
  exact b_X6_one_101 X hI h (lv_sub hl [0, 1, 2, 3] rfl)
def f_X6_one_77 (G : gG) (x0 : Nat) (x1 : Int32) (x2 : Int32) (x3 : Int32) : Option (Int32 × gG) :=
  if x1 = 8 then
    f_X6_one_101 G x0 x1 x2 x3 0
  else
  if (3 : Int32) ≤ x1 then
    f_X6_one_100 G x0 x1 x2 x3
  else
  if x3 = 0 then
    f_X6_one_101 G x0 x1 x2 x3 2
  else
  f_X6_one_100 G x0 x1 x2 x3
set_option maxHeartbeats 4000000 in
set_option maxRecDepth 100000 in
theorem b_X6_one_77 {p : Program} {l : Launch} {e : Env} {s : State} {m : MethodId} {args : Array Value} {below : List Frame} {meth : Method} {c : Code} {E : gE} {G0 : gG} {n0 : Nat} (X : g_X E G0 n0 p s m args meth c cX6_one 8 RX6 "one" (some .int)) {G : gG} {n : Nat} {r : Int32} {Gr : gG} {H : Heap} {locs : List Loc} (hI : g_I E (g_A G0 n0) G n s.heap H locs) {x0 : Nat} {x1 : Int32} {x2 : Int32} {x3 : Int32} (h : f_X6_one_77 G x0 x1 x2 x3 = some (r, Gr)) {ls : Array Slot} (hl : lv_has ls 8 [(0, .ref x0), (1, .int x1), (2, .int x2), (3, .int x3)]) : W p l e rm_X6_one s m args below meth c H locs 0 0 (MQ below (g_Q E G0 n0 (some (.int r)) Gr n) args s rm_X6_one.cells rm_X6_one.slots (g_A G0 n0)) (F0 m 77 ls []) := by
  have hx := X.1
  have hb := X.2.1
  unfold f_X6_one_77 at h
  refine lv_iload_n hx hb dX6_one_77 rfl (lv_at hl 1 rfl) ?_
  refine lv_bipush (v := 8) hx hb dX6_one_78 (by decide) ?_
  refine lv_icmp_ne (tgt := 87) hx hb dX6_one_80 (by decide) (fun c => ?_) (fun c => ?_)
  · have h := g_f _ c h
    refine lv_iload_n hx hb dX6_one_87 rfl (lv_at hl 1 rfl) ?_
    refine lv_iconst (v := 3) hx hb dX6_one_88 (by decide) ?_
    refine lv_icmp_ge (tgt := 100) hx hb dX6_one_89 (by decide) (fun c => ?_) (fun c => ?_)
    · have h := g_t _ c h
      exact b_X6_one_100 X hI h (lv_sub hl [0, 1, 2, 3] rfl)
    · have h := g_f _ c h
      refine lv_iload_n hx hb dX6_one_92 rfl (lv_at hl 3 rfl) ?_
      refine lv_if_ne (tgt := 100) hx hb dX6_one_93 (by decide) (fun c => ?_) (fun c => ?_)
      · have h := g_f _ c h
        exact b_X6_one_100 X hI h (lv_sub hl [0, 1, 2, 3] rfl)
      · have h := g_t _ c h
        refine lv_iconst (v := 2) hx hb dX6_one_96 (by decide) ?_
        refine lv_goto (tgt := 101) hx hb dX6_one_97 (by decide) ?_
        exact b_X6_one_101 X hI h (lv_sub hl [0, 1, 2, 3] rfl)
  · have h := g_t _ c h
    refine lv_iconst (v := 0) hx hb dX6_one_83 (by decide) ?_
    refine lv_goto (tgt := 101) hx hb dX6_one_84 (by decide) ?_
    exact b_X6_one_101 X hI h (lv_sub hl [0, 1, 2, 3] rfl)
def f_X6_one (G : gG) (th : Nat) (a1 : Int32) (a2 : Int32) : Option (Int32 × gG) :=
  if (f_X6_in (Int32.toInt64 a1) (0 : Int64) (8 : Int64)) = 0 then
    some ((-1), G)
  else
  gck (g_isO G th 5) <|
  gb (f_X6_isTensor G th a2) fun r1 =>
  if r1 = 0 then
    some ((-1), G)
  else
  gb (g_fI G th 5 0) fun v2 =>
  if v2 = 16 then
    some ((-2), G)
  else
  gb (g_fA G th 5 5) fun g3 =>
  gb (g_zl G g3 a2) fun v4 =>
  if v4 = 0 then
    gb (g_fA G th 5 1) fun g5 =>
    gb (g_il G g5 a2) fun v6 =>
    if a1 = 7 then
      if v6 ≤ 3 then
        f_X6_one_77 G th a1 a2 v6
      else
      gck (g_isO G th 5) <|
      gb2 (f_X6_fails G th (4 : Int32) (-3 : Int32)) fun r7 G8 =>
      some (r7, G8)
    else
    f_X6_one_77 G th a1 a2 v6
  else
  gck (g_isO G th 5) <|
  gb2 (f_X6_fails G th (1 : Int32) (-3 : Int32)) fun r9 G10 =>
  some (r9, G10)
theorem gm_X6_one : g_M yX6_one cX6_one 8 (some .int) 2 := ⟨tw_4_64, tw_1_5, by decide +kernel, Or.inl (by decide +kernel)⟩
set_option maxHeartbeats 4000000 in
set_option maxRecDepth 100000 in
theorem c_X6_one {l : Launch} {E : gE} {G : gG} {n : Nat} {th : Nat} {a1 : Int32} {a2 : Int32} {r : Int32} {Gr : gG} (h : f_X6_one G th a1 a2 = some (r, Gr)) : g_Met l yX6_one cX6_one 8 (some .int) rm_X6_one E G n [.ref th, .int a1, .int a2] (some (.int r)) Gr n := by
  refine g_ofW gm_X6_one (Nat.le_of_ble_eq_true rfl) ?_
  intro p e s m below meth c ls X hl hI
  have hx := X.1
  have hb := X.2.1
  have X : g_X E G n p s m _ meth c cX6_one 8 RX6 "one" (some .int) := X
  have hl : lv_has ls 8 [(0, .ref th), (1, .int a1), (2, .int a2)] := hl
  unfold f_X6_one at h
  refine lv_iload_n hx hb dX6_one_0 rfl (lv_at hl 1 rfl) ?_
  refine lv_i2l (v := (Int32.toInt64 a1)) hx hb dX6_one_1 rfl ?_
  refine lv_lconst (v := 0) hx hb dX6_one_2 (by decide) ?_
  refine lv_ldc2 (v := 8) hx hb X.2.2.2.1 (X.2.2.2.2.1 _ tw_4_65) dX6_one_3 ?_
  refine g_callS X hI (av := [.long (Int32.toInt64 a1), .long 0, .long 8]) (c_X6_in (Int32.toInt64 a1) (0 : Int64) (8 : Int64)) gm_X6_in tw_3_100 tw_3_101 ⟨by decide, by decide⟩ hl.1 (rest := []) rfl (Nat.le_of_ble_eq_true rfl) dX6_one_6 ⟨by decide, by decide⟩ (st1 := [.int (f_X6_in (Int32.toInt64 a1) (0 : Int64) (8 : Int64))]) rfl (cells' := 0) (slots' := 0) rfl rfl (fun H locs hI => ?_)
  refine lv_if_eq (tgt := 20) hx hb dX6_one_9 (by decide) (fun c => ?_) (fun c => ?_)
  · have h := g_t _ c h
    refine lv_iconst (v := (-1)) hx hb dX6_one_20 (by decide) ?_
    obtain ⟨h, h2⟩ := g_sp2 h
    subst h
    subst h2
    exact g_iret X hI dX6_one_21
  · have h := g_f _ c h
    refine lv_aload_n hx hb dX6_one_12 rfl (lv_at hl 0 rfl) ?_
    refine lv_iload_n hx hb dX6_one_13 rfl (lv_at hl 2 rfl) ?_
    obtain ⟨cO, h⟩ := gck_s h
    obtain ⟨r1, er1, h⟩ := gb_s h
    refine g_callV X hI (q := (RX6, TX6, 17)) (b := th) (av := [.int a2]) cO rfl (c_X6_isTensor er1) gm_X6_isTensor tw_3_119 tw_3_121 tw_p_22 ⟨by decide, by decide⟩ hl.1 (rest := []) rfl (Nat.le_of_ble_eq_true rfl) dX6_one_14 ⟨by decide, by decide⟩ (st1 := [.int r1]) rfl (cells' := 0) (slots' := 0) rfl rfl (fun H locs hI => ?_)
    refine lv_if_ne (tgt := 22) hx hb dX6_one_17 (by decide) (fun c => ?_) (fun c => ?_)
    · have h := g_f _ c h
      refine lv_aload_n hx hb dX6_one_22 rfl (lv_at hl 0 rfl) ?_
      obtain ⟨v2, ev2, h⟩ := gb_s h
      refine g_get X hI (g_fI_s ev2) (C := RX6) (T := TX6) (N := 17) rfl gu_X6 (by decide) tw_3_42 dX6_one_23 ?_
      refine lv_bipush (v := 16) hx hb dX6_one_26 (by decide) ?_
      refine lv_icmp_ne (tgt := 34) hx hb dX6_one_28 (by decide) (fun c => ?_) (fun c => ?_)
      · have h := g_f _ c h
        refine lv_aload_n hx hb dX6_one_34 rfl (lv_at hl 0 rfl) ?_
        obtain ⟨g3, eg3, h⟩ := gb_s h
        refine g_get X hI (g_fA_s eg3) (C := RX6) (T := TX6) (N := 17) rfl gu_X6 (by decide) tw_3_47 dX6_one_35 ?_
        refine lv_iload_n hx hb dX6_one_38 rfl (lv_at hl 2 rfl) ?_
        obtain ⟨v4, ev4, h⟩ := gb_s h
        refine g_zald X hI ev4 dX6_one_39 ?_
        refine lv_if_eq (tgt := 51) hx hb dX6_one_40 (by decide) (fun c => ?_) (fun c => ?_)
        · have h := g_t _ c h
          refine lv_aload_n hx hb dX6_one_51 rfl (lv_at hl 0 rfl) ?_
          obtain ⟨g5, eg5, h⟩ := gb_s h
          refine g_get X hI (g_fA_s eg5) (C := RX6) (T := TX6) (N := 17) rfl gu_X6 (by decide) tw_3_43 dX6_one_52 ?_
          refine lv_iload_n hx hb dX6_one_55 rfl (lv_at hl 2 rfl) ?_
          obtain ⟨v6, ev6, h⟩ := gb_s h
          refine g_iald X hI ev6 dX6_one_56 ?_
          refine lv_istore_n (lv' := [(3, .int v6), (0, .ref th), (1, .int a1), (2, .int a2)]) hx hb dX6_one_57 rfl hl (by decide) rfl (fun ls hl => ?_)
          refine lv_iload_n hx hb dX6_one_58 rfl (lv_at hl 2 rfl) ?_
          refine lv_bipush (v := 7) hx hb dX6_one_59 (by decide) ?_
          refine lv_icmp_ne (tgt := 77) hx hb dX6_one_61 (by decide) (fun c => ?_) (fun c => ?_)
          · have h := g_f _ c h
            exact b_X6_one_77 X hI h (lv_sub hl [1, 2, 3, 0] rfl)
          · have h := g_t _ c h
            refine lv_iload_n hx hb dX6_one_64 rfl (lv_at hl 0 rfl) ?_
            refine lv_iconst (v := 3) hx hb dX6_one_65 (by decide) ?_
            refine lv_icmp_le (tgt := 77) hx hb dX6_one_66 (by decide) (fun c => ?_) (fun c => ?_)
            · have h := g_t _ c h
              exact b_X6_one_77 X hI h (lv_sub hl [1, 2, 3, 0] rfl)
            · have h := g_f _ c h
              refine lv_aload_n hx hb dX6_one_69 rfl (lv_at hl 1 rfl) ?_
              refine lv_iconst (v := 4) hx hb dX6_one_70 (by decide) ?_
              refine lv_bipush (v := (-3)) hx hb dX6_one_71 (by decide) ?_
              obtain ⟨cO, h⟩ := gck_s h
              obtain ⟨r7, G8, er7, h⟩ := gb2_s h
              refine g_callV X hI (q := (RX6, TX6, 17)) (b := th) (av := [.int 4, .int (-3)]) cO rfl (c_X6_fails er7) gm_X6_fails tw_3_111 tw_3_113 tw_p_21 ⟨by decide, by decide⟩ hl.1 (rest := []) rfl (Nat.le_of_ble_eq_true rfl) dX6_one_73 ⟨by decide, by decide⟩ (st1 := [.int r7]) rfl (cells' := 0) (slots' := 0) rfl rfl (fun H locs hI => ?_)
              obtain ⟨h, h2⟩ := g_sp2 h
              subst h
              subst h2
              exact g_iret X hI dX6_one_76
        · have h := g_f _ c h
          refine lv_aload_n hx hb dX6_one_43 rfl (lv_at hl 0 rfl) ?_
          refine lv_iconst (v := 1) hx hb dX6_one_44 (by decide) ?_
          refine lv_bipush (v := (-3)) hx hb dX6_one_45 (by decide) ?_
          obtain ⟨cO, h⟩ := gck_s h
          obtain ⟨r9, G10, er9, h⟩ := gb2_s h
          refine g_callV X hI (q := (RX6, TX6, 17)) (b := th) (av := [.int 1, .int (-3)]) cO rfl (c_X6_fails er9) gm_X6_fails tw_3_111 tw_3_113 tw_p_21 ⟨by decide, by decide⟩ hl.1 (rest := []) rfl (Nat.le_of_ble_eq_true rfl) dX6_one_47 ⟨by decide, by decide⟩ (st1 := [.int r9]) rfl (cells' := 0) (slots' := 0) rfl rfl (fun H locs hI => ?_)
          obtain ⟨h, h2⟩ := g_sp2 h
          subst h
          subst h2
          exact g_iret X hI dX6_one_50
      · have h := g_t _ c h
        refine lv_bipush (v := (-2)) hx hb dX6_one_31 (by decide) ?_
        obtain ⟨h, h2⟩ := g_sp2 h
        subst h
        subst h2
        exact g_iret X hI dX6_one_33
    · have h := g_t _ c h
      refine lv_iconst (v := (-1)) hx hb dX6_one_20 (by decide) ?_
      obtain ⟨h, h2⟩ := g_sp2 h
      subst h
      subst h2
      exact g_iret X hI dX6_one_21
abbrev rm_X6_cast : Room := { frames := 5, cells := 0, slots := 0, locals := 135 }
def f_X6_cast_58 : Nat → gG → Nat → Int32 → Int32 → Int32 → Option (Int32 × gG)
  | 0, _, _, _, _, _ => none
  | fu + 1, G, x0, x1, x2, x3 =>
    gb (g_fA G x0 5 4) fun g1 =>
    gb (g_il G g1 x1) fun v2 =>
    if v2 ≤ x3 then
      gck (g_isO G x0 5) <|
      gb2 (f_X6_made G x0 x2) fun r3 G4 =>
      some (r3, G4)
    else
    gb (g_fA G x0 5 7) fun g5 =>
    gb (g_fA G x0 5 6) fun g6 =>
    gb (g_ll G g6 (((240 : Int32) * x1) + x3)) fun v7 =>
    gb (g_fA G x0 5 1) fun g8 =>
    gb (g_il G g8 x1) fun v9 =>
    gb (f_X6_to v7 v9 x2) fun r10 =>
    gb (g_ls G g5 x3 r10) fun G11 =>
    gl (x3 + 1 : Int32) fun v12 =>
    f_X6_cast_58 fu G11 x0 x1 x2 v12
set_option maxHeartbeats 4000000 in
set_option maxRecDepth 100000 in
theorem b_X6_cast_58 {p : Program} {l : Launch} {e : Env} {s : State} {m : MethodId} {args : Array Value} {below : List Frame} {meth : Method} {c : Code} {E : gE} {G0 : gG} {n0 : Nat} (X : g_X E G0 n0 p s m args meth c cX6_cast 4 RX6 "cast" (some .int)) {n : Nat} {r : Int32} {Gr : gG} (fu : Nat) : ∀ {G : gG} {H : Heap} {locs : List Loc} (_ : g_I E (g_A G0 n0) G n s.heap H locs) {x0 : Nat} {x1 : Int32} {x2 : Int32} {x3 : Int32} (_ : f_X6_cast_58 fu G x0 x1 x2 x3 = some (r, Gr)) {ls : Array Slot} (_ : lv_has ls 4 [(0, .ref x0), (1, .int x1), (2, .int x2), (3, .int x3)]), W p l e rm_X6_cast s m args below meth c H locs 0 0 (MQ below (g_Q E G0 n0 (some (.int r)) Gr n) args s rm_X6_cast.cells rm_X6_cast.slots (g_A G0 n0)) (F0 m 58 ls []) := by
  have hx := X.1
  have hb := X.2.1
  induction fu with
  | zero =>
    intro G H locs hI x0 x1 x2 x3 h ls hl
    rw [f_X6_cast_58] at h
    cases h
  | succ fu ih =>
    intro G H locs hI x0 x1 x2 x3 h ls hl
    rw [f_X6_cast_58] at h
    refine lv_iload_n hx hb dX6_cast_58 rfl (lv_at hl 3 rfl) ?_
    refine lv_aload_n hx hb dX6_cast_59 rfl (lv_at hl 0 rfl) ?_
    obtain ⟨g1, eg1, h⟩ := gb_s h
    refine g_get X hI (g_fA_s eg1) (C := RX6) (T := TX6) (N := 17) rfl gu_X6 (by decide) tw_3_46 dX6_cast_60 ?_
    refine lv_iload_n hx hb dX6_cast_63 rfl (lv_at hl 1 rfl) ?_
    obtain ⟨v2, ev2, h⟩ := gb_s h
    refine g_iald X hI ev2 dX6_cast_64 ?_
    refine lv_icmp_ge (tgt := 102) hx hb dX6_cast_65 (by decide) (fun c => ?_) (fun c => ?_)
    · have h := g_t _ c h
      refine lv_aload_n hx hb dX6_cast_102 rfl (lv_at hl 0 rfl) ?_
      refine lv_iload_n hx hb dX6_cast_103 rfl (lv_at hl 2 rfl) ?_
      obtain ⟨cO, h⟩ := gck_s h
      obtain ⟨r3, G4, er3, h⟩ := gb2_s h
      refine g_callV X hI (q := (RX6, TX6, 17)) (b := x0) (av := [.int x2]) cO rfl (c_X6_made er3) gm_X6_made tw_3_103 tw_3_105 tw_p_20 ⟨by decide, by decide⟩ hl.1 (rest := []) rfl (Nat.le_of_ble_eq_true rfl) dX6_cast_104 ⟨by decide, by decide⟩ (st1 := [.int r3]) rfl (cells' := 0) (slots' := 0) rfl rfl (fun H locs hI => ?_)
      obtain ⟨h, h2⟩ := g_sp2 h
      subst h
      subst h2
      exact g_iret X hI dX6_cast_107
    · have h := g_f _ c h
      refine lv_aload_n hx hb dX6_cast_68 rfl (lv_at hl 0 rfl) ?_
      obtain ⟨g5, eg5, h⟩ := gb_s h
      refine g_get X hI (g_fA_s eg5) (C := RX6) (T := TX6) (N := 17) rfl gu_X6 (by decide) tw_3_49 dX6_cast_69 ?_
      refine lv_iload_n hx hb dX6_cast_72 rfl (lv_at hl 3 rfl) ?_
      refine lv_aload_n hx hb dX6_cast_73 rfl (lv_at hl 0 rfl) ?_
      obtain ⟨g6, eg6, h⟩ := gb_s h
      refine g_get X hI (g_fA_s eg6) (C := RX6) (T := TX6) (N := 17) rfl gu_X6 (by decide) tw_3_48 dX6_cast_74 ?_
      refine lv_sipush (v := 240) hx hb dX6_cast_77 (by decide) ?_
      refine lv_iload_n hx hb dX6_cast_80 rfl (lv_at hl 1 rfl) ?_
      refine lv_imul (x := 240) (y := x1) hx hb dX6_cast_81 ?_
      refine lv_iload_n hx hb dX6_cast_82 rfl (lv_at hl 3 rfl) ?_
      refine lv_iadd (x := ((240 : Int32) * x1)) (y := x3) hx hb dX6_cast_83 ?_
      obtain ⟨v7, ev7, h⟩ := gb_s h
      refine g_lald X hI ev7 dX6_cast_84 ?_
      refine lv_aload_n hx hb dX6_cast_85 rfl (lv_at hl 0 rfl) ?_
      obtain ⟨g8, eg8, h⟩ := gb_s h
      refine g_get X hI (g_fA_s eg8) (C := RX6) (T := TX6) (N := 17) rfl gu_X6 (by decide) tw_3_43 dX6_cast_86 ?_
      refine lv_iload_n hx hb dX6_cast_89 rfl (lv_at hl 1 rfl) ?_
      obtain ⟨v9, ev9, h⟩ := gb_s h
      refine g_iald X hI ev9 dX6_cast_90 ?_
      refine lv_iload_n hx hb dX6_cast_91 rfl (lv_at hl 2 rfl) ?_
      obtain ⟨r10, er10, h⟩ := gb_s h
      refine g_callS X hI (av := [.long v7, .int v9, .int x2]) (c_X6_to er10) gm_X6_to tw_3_195 tw_3_196 ⟨by decide, by decide⟩ hl.1 (rest := [.int x3, .ref g5]) rfl (Nat.le_of_ble_eq_true rfl) dX6_cast_92 ⟨by decide, by decide⟩ (st1 := [.long r10, .int x3, .ref g5]) rfl (cells' := 0) (slots' := 0) rfl rfl (fun H locs hI => ?_)
      obtain ⟨G11, eG11, h⟩ := gb_s h
      refine g_last X hI (G' := G11) eG11 dX6_cast_95 (fun H locs hI => ?_)
      obtain ⟨v12, ev12, h⟩ := gl_s h
      refine lv_iinc (v := v12) (lv' := [(3, .int v12), (0, .ref x0), (1, .int x1), (2, .int x2)]) hx hb dX6_cast_96 hl (k := 3) rfl (by rw [← ev12]; rfl) (by decide) rfl (fun ls hl => ?_)
      refine lv_goto (tgt := 58) hx hb dX6_cast_99 (by decide) ?_
      exact ih hI h (lv_sub hl [1, 2, 3, 0] rfl)
def f_X6_cast (G : gG) (th : Nat) (a1 : Int32) (a2 : Int32) : Option (Int32 × gG) :=
  gck (g_isO G th 5) <|
  gb (f_X6_isTensor G th a1) fun r1 =>
  if r1 = 0 then
    some ((-1), G)
  else
  if (f_X6_in (Int32.toInt64 a2) (0 : Int64) (5 : Int64)) = 0 then
    some ((-1), G)
  else
  gb (g_fI G th 5 0) fun v2 =>
  if v2 = 16 then
    some ((-2), G)
  else
  gb (g_fA G th 5 5) fun g3 =>
  gb (g_zl G g3 a1) fun v4 =>
  if v4 = 0 then
    gck (g_isO G th 5) <|
    gb (f_X6_begin G th a1) fun G5 =>
    f_X6_cast_58 5000 G5 th a1 a2 0
  else
  gck (g_isO G th 5) <|
  gb2 (f_X6_fails G th (1 : Int32) (-3 : Int32)) fun r6 G7 =>
  some (r6, G7)
theorem gm_X6_cast : g_M yX6_cast cX6_cast 4 (some .int) 2 := ⟨tw_4_75, tw_1_5, by decide +kernel, Or.inl (by decide +kernel)⟩
set_option maxHeartbeats 4000000 in
set_option maxRecDepth 100000 in
theorem c_X6_cast {l : Launch} {E : gE} {G : gG} {n : Nat} {th : Nat} {a1 : Int32} {a2 : Int32} {r : Int32} {Gr : gG} (h : f_X6_cast G th a1 a2 = some (r, Gr)) : g_Met l yX6_cast cX6_cast 4 (some .int) rm_X6_cast E G n [.ref th, .int a1, .int a2] (some (.int r)) Gr n := by
  refine g_ofW gm_X6_cast (Nat.le_of_ble_eq_true rfl) ?_
  intro p e s m below meth c ls X hl hI
  have hx := X.1
  have hb := X.2.1
  have X : g_X E G n p s m _ meth c cX6_cast 4 RX6 "cast" (some .int) := X
  have hl : lv_has ls 4 [(0, .ref th), (1, .int a1), (2, .int a2)] := hl
  unfold f_X6_cast at h
  refine lv_aload_n hx hb dX6_cast_0 rfl (lv_at hl 0 rfl) ?_
  refine lv_iload_n hx hb dX6_cast_1 rfl (lv_at hl 1 rfl) ?_
  obtain ⟨cO, h⟩ := gck_s h
  obtain ⟨r1, er1, h⟩ := gb_s h
  refine g_callV X hI (q := (RX6, TX6, 17)) (b := th) (av := [.int a1]) cO rfl (c_X6_isTensor er1) gm_X6_isTensor tw_3_119 tw_3_121 tw_p_22 ⟨by decide, by decide⟩ hl.1 (rest := []) rfl (Nat.le_of_ble_eq_true rfl) dX6_cast_2 ⟨by decide, by decide⟩ (st1 := [.int r1]) rfl (cells' := 0) (slots' := 0) rfl rfl (fun H locs hI => ?_)
  refine lv_if_eq (tgt := 20) hx hb dX6_cast_5 (by decide) (fun c => ?_) (fun c => ?_)
  · have h := g_t _ c h
    refine lv_iconst (v := (-1)) hx hb dX6_cast_20 (by decide) ?_
    obtain ⟨h, h2⟩ := g_sp2 h
    subst h
    subst h2
    exact g_iret X hI dX6_cast_21
  · have h := g_f _ c h
    refine lv_iload_n hx hb dX6_cast_8 rfl (lv_at hl 2 rfl) ?_
    refine lv_i2l (v := (Int32.toInt64 a2)) hx hb dX6_cast_9 rfl ?_
    refine lv_lconst (v := 0) hx hb dX6_cast_10 (by decide) ?_
    refine lv_ldc2 (v := 5) hx hb X.2.2.2.1 (X.2.2.2.2.1 _ tw_3_99) dX6_cast_11 ?_
    refine g_callS X hI (av := [.long (Int32.toInt64 a2), .long 0, .long 5]) (c_X6_in (Int32.toInt64 a2) (0 : Int64) (5 : Int64)) gm_X6_in tw_3_100 tw_3_101 ⟨by decide, by decide⟩ hl.1 (rest := []) rfl (Nat.le_of_ble_eq_true rfl) dX6_cast_14 ⟨by decide, by decide⟩ (st1 := [.int (f_X6_in (Int32.toInt64 a2) (0 : Int64) (5 : Int64))]) rfl (cells' := 0) (slots' := 0) rfl rfl (fun H locs hI => ?_)
    refine lv_if_ne (tgt := 22) hx hb dX6_cast_17 (by decide) (fun c => ?_) (fun c => ?_)
    · have h := g_f _ c h
      refine lv_aload_n hx hb dX6_cast_22 rfl (lv_at hl 0 rfl) ?_
      obtain ⟨v2, ev2, h⟩ := gb_s h
      refine g_get X hI (g_fI_s ev2) (C := RX6) (T := TX6) (N := 17) rfl gu_X6 (by decide) tw_3_42 dX6_cast_23 ?_
      refine lv_bipush (v := 16) hx hb dX6_cast_26 (by decide) ?_
      refine lv_icmp_ne (tgt := 34) hx hb dX6_cast_28 (by decide) (fun c => ?_) (fun c => ?_)
      · have h := g_f _ c h
        refine lv_aload_n hx hb dX6_cast_34 rfl (lv_at hl 0 rfl) ?_
        obtain ⟨g3, eg3, h⟩ := gb_s h
        refine g_get X hI (g_fA_s eg3) (C := RX6) (T := TX6) (N := 17) rfl gu_X6 (by decide) tw_3_47 dX6_cast_35 ?_
        refine lv_iload_n hx hb dX6_cast_38 rfl (lv_at hl 1 rfl) ?_
        obtain ⟨v4, ev4, h⟩ := gb_s h
        refine g_zald X hI ev4 dX6_cast_39 ?_
        refine lv_if_eq (tgt := 51) hx hb dX6_cast_40 (by decide) (fun c => ?_) (fun c => ?_)
        · have h := g_t _ c h
          refine lv_aload_n hx hb dX6_cast_51 rfl (lv_at hl 0 rfl) ?_
          refine lv_iload_n hx hb dX6_cast_52 rfl (lv_at hl 1 rfl) ?_
          obtain ⟨cO, h⟩ := gck_s h
          obtain ⟨G5, eG5, h⟩ := gb_s h
          refine g_callV X hI (q := (RX6, TX6, 17)) (b := th) (av := [.int a1]) cO rfl (c_X6_begin eG5) gm_X6_begin tw_3_175 tw_3_177 tw_p_25 ⟨by decide, by decide⟩ hl.1 (rest := []) rfl (Nat.le_of_ble_eq_true rfl) dX6_cast_53 ⟨by decide, by decide⟩ (st1 := []) rfl (cells' := 0) (slots' := 0) rfl rfl (fun H locs hI => ?_)
          refine lv_iconst (v := 0) hx hb dX6_cast_56 (by decide) ?_
          refine lv_istore_n (lv' := [(3, .int 0), (0, .ref th), (1, .int a1), (2, .int a2)]) hx hb dX6_cast_57 rfl hl (by decide) rfl (fun ls hl => ?_)
          exact b_X6_cast_58 X 5000 hI h (lv_sub hl [1, 2, 3, 0] rfl)
        · have h := g_f _ c h
          refine lv_aload_n hx hb dX6_cast_43 rfl (lv_at hl 0 rfl) ?_
          refine lv_iconst (v := 1) hx hb dX6_cast_44 (by decide) ?_
          refine lv_bipush (v := (-3)) hx hb dX6_cast_45 (by decide) ?_
          obtain ⟨cO, h⟩ := gck_s h
          obtain ⟨r6, G7, er6, h⟩ := gb2_s h
          refine g_callV X hI (q := (RX6, TX6, 17)) (b := th) (av := [.int 1, .int (-3)]) cO rfl (c_X6_fails er6) gm_X6_fails tw_3_111 tw_3_113 tw_p_21 ⟨by decide, by decide⟩ hl.1 (rest := []) rfl (Nat.le_of_ble_eq_true rfl) dX6_cast_47 ⟨by decide, by decide⟩ (st1 := [.int r6]) rfl (cells' := 0) (slots' := 0) rfl rfl (fun H locs hI => ?_)
          obtain ⟨h, h2⟩ := g_sp2 h
          subst h
          subst h2
          exact g_iret X hI dX6_cast_50
      · have h := g_t _ c h
        refine lv_bipush (v := (-2)) hx hb dX6_cast_31 (by decide) ?_
        obtain ⟨h, h2⟩ := g_sp2 h
        subst h
        subst h2
        exact g_iret X hI dX6_cast_33
    · have h := g_t _ c h
      refine lv_iconst (v := (-1)) hx hb dX6_cast_20 (by decide) ?_
      obtain ⟨h, h2⟩ := g_sp2 h
      subst h
      subst h2
      exact g_iret X hI dX6_cast_21
abbrev rm_X6_where : Room := { frames := 5, cells := 0, slots := 0, locals := 135 }
def f_X6_where_238 (k172 : gG → Nat → Int32 → Int32 → Int32 → Int32 → Int32 → Option (Int32 × gG)) (G : gG) (x0 : Nat) (x1 : Int32) (x2 : Int32) (x3 : Int32) (x5 : Int32) (x6 : Int32) (s0 : Int64) (s1 : Int32) (s2 : Nat) : Option (Int32 × gG) :=
  gb (g_ls G s2 s1 s0) fun G1 =>
  gl (x6 + 1 : Int32) fun v2 =>
  k172 G1 x0 x1 x2 x3 x5 v2
set_option maxHeartbeats 4000000 in
set_option maxRecDepth 100000 in
theorem b_X6_where_238 {p : Program} {l : Launch} {e : Env} {s : State} {m : MethodId} {args : Array Value} {below : List Frame} {meth : Method} {c : Code} {E : gE} {G0 : gG} {n0 : Nat} (X : g_X E G0 n0 p s m args meth c cX6_where 7 RX6 "where" (some .int)) {G : gG} {n : Nat} {r : Int32} {Gr : gG} {k172 : gG → Nat → Int32 → Int32 → Int32 → Int32 → Int32 → Option (Int32 × gG)} (hk172 : ∀ {G : gG} {H : Heap} {locs : List Loc} (_ : g_I E (g_A G0 n0) G n s.heap H locs) {x0 : Nat} {x1 : Int32} {x2 : Int32} {x3 : Int32} {x5 : Int32} {x6 : Int32}  (_ : k172 G x0 x1 x2 x3 x5 x6 = some (r, Gr)) {ls : Array Slot} (_ : lv_has ls 7 [(0, .ref x0), (1, .int x1), (2, .int x2), (3, .int x3), (5, .int x5), (6, .int x6)]), W p l e rm_X6_where s m args below meth c H locs 0 0 (MQ below (g_Q E G0 n0 (some (.int r)) Gr n) args s rm_X6_where.cells rm_X6_where.slots (g_A G0 n0)) (F0 m 172 ls [])) {H : Heap} {locs : List Loc} (hI : g_I E (g_A G0 n0) G n s.heap H locs) {x0 : Nat} {x1 : Int32} {x2 : Int32} {x3 : Int32} {x5 : Int32} {x6 : Int32} {s0 : Int64} {s1 : Int32} {s2 : Nat} (h : f_X6_where_238 k172 G x0 x1 x2 x3 x5 x6 s0 s1 s2 = some (r, Gr)) {ls : Array Slot} (hl : lv_has ls 7 [(0, .ref x0), (1, .int x1), (2, .int x2), (3, .int x3), (5, .int x5), (6, .int x6)]) : W p l e rm_X6_where s m args below meth c H locs 0 0 (MQ below (g_Q E G0 n0 (some (.int r)) Gr n) args s rm_X6_where.cells rm_X6_where.slots (g_A G0 n0)) (F0 m 238 ls [.long s0, .int s1, .ref s2]) := by
  have hx := X.1
  have hb := X.2.1
  unfold f_X6_where_238 at h
  obtain ⟨G1, eG1, h⟩ := gb_s h
  refine g_last X hI (G' := G1) eG1 dX6_where_238 (fun H locs hI => ?_)
  obtain ⟨v2, ev2, h⟩ := gl_s h
  refine lv_iinc (v := v2) (lv' := [(6, .int v2), (0, .ref x0), (1, .int x1), (2, .int x2), (3, .int x3), (5, .int x5)]) hx hb dX6_where_239 hl (k := 5) rfl (by rw [← ev2]; rfl) (by decide) rfl (fun ls hl => ?_)
  refine lv_goto (tgt := 172) hx hb dX6_where_242 (by decide) ?_
  exact hk172 hI h (lv_sub hl [1, 2, 3, 4, 5, 0] rfl)
def f_X6_where_172 : Nat → gG → Nat → Int32 → Int32 → Int32 → Int32 → Int32 → Option (Int32 × gG)
  | 0, _, _, _, _, _, _, _ => none
  | fu + 1, G, x0, x1, x2, x3, x5, x6 =>
    gb (g_fI G x0 5 14) fun v1 =>
    if v1 ≤ x6 then
      gck (g_isO G x0 5) <|
      gb2 (f_X6_made G x0 x5) fun r2 G3 =>
      some (r2, G3)
    else
    gb (g_fA G x0 5 7) fun g4 =>
    gck (g_isO G x0 5) <|
    gb (f_X6_at G x0 x1 x6) fun r5 =>
    if r5 = 0 then
      gck (g_isO G x0 5) <|
      gb (f_X6_at G x0 x3 x6) fun r6 =>
      gb (g_fA G x0 5 1) fun g7 =>
      gb (g_il G g7 x3) fun v8 =>
      gb (f_X6_to r6 v8 x5) fun r9 =>
      f_X6_where_238 (f_X6_where_172 fu) G x0 x1 x2 x3 x5 x6 r9 x6 g4
    else
    gck (g_isO G x0 5) <|
    gb (f_X6_at G x0 x2 x6) fun r10 =>
    gb (g_fA G x0 5 1) fun g11 =>
    gb (g_il G g11 x2) fun v12 =>
    gb (f_X6_to r10 v12 x5) fun r13 =>
    f_X6_where_238 (f_X6_where_172 fu) G x0 x1 x2 x3 x5 x6 r13 x6 g4
set_option maxHeartbeats 4000000 in
set_option maxRecDepth 100000 in
theorem b_X6_where_172 {p : Program} {l : Launch} {e : Env} {s : State} {m : MethodId} {args : Array Value} {below : List Frame} {meth : Method} {c : Code} {E : gE} {G0 : gG} {n0 : Nat} (X : g_X E G0 n0 p s m args meth c cX6_where 7 RX6 "where" (some .int)) {n : Nat} {r : Int32} {Gr : gG} (fu : Nat) : ∀ {G : gG} {H : Heap} {locs : List Loc} (_ : g_I E (g_A G0 n0) G n s.heap H locs) {x0 : Nat} {x1 : Int32} {x2 : Int32} {x3 : Int32} {x5 : Int32} {x6 : Int32} (_ : f_X6_where_172 fu G x0 x1 x2 x3 x5 x6 = some (r, Gr)) {ls : Array Slot} (_ : lv_has ls 7 [(0, .ref x0), (1, .int x1), (2, .int x2), (3, .int x3), (5, .int x5), (6, .int x6)]), W p l e rm_X6_where s m args below meth c H locs 0 0 (MQ below (g_Q E G0 n0 (some (.int r)) Gr n) args s rm_X6_where.cells rm_X6_where.slots (g_A G0 n0)) (F0 m 172 ls []) := by
  have hx := X.1
  have hb := X.2.1
  induction fu with
  | zero =>
    intro G H locs hI x0 x1 x2 x3 x5 x6 h ls hl
    rw [f_X6_where_172] at h
    cases h
  | succ fu ih =>
    intro G H locs hI x0 x1 x2 x3 x5 x6 h ls hl
    rw [f_X6_where_172] at h
    refine lv_iload hx hb dX6_where_172 (lv_at hl 5 rfl) ?_
    refine lv_aload_n hx hb dX6_where_174 rfl (lv_at hl 0 rfl) ?_
    obtain ⟨v1, ev1, h⟩ := gb_s h
    refine g_get X hI (g_fI_s ev1) (C := RX6) (T := TX6) (N := 17) rfl gu_X6 (by decide) tw_3_56 dX6_where_175 ?_
    refine lv_icmp_ge (tgt := 245) hx hb dX6_where_178 (by decide) (fun c => ?_) (fun c => ?_)
    · have h := g_t _ c h
      refine lv_aload_n hx hb dX6_where_245 rfl (lv_at hl 0 rfl) ?_
      refine lv_iload hx hb dX6_where_246 (lv_at hl 4 rfl) ?_
      obtain ⟨cO, h⟩ := gck_s h
      obtain ⟨r2, G3, er2, h⟩ := gb2_s h
      refine g_callV X hI (q := (RX6, TX6, 17)) (b := x0) (av := [.int x5]) cO rfl (c_X6_made er2) gm_X6_made tw_3_103 tw_3_105 tw_p_20 ⟨by decide, by decide⟩ hl.1 (rest := []) rfl (Nat.le_of_ble_eq_true rfl) dX6_where_248 ⟨by decide, by decide⟩ (st1 := [.int r2]) rfl (cells' := 0) (slots' := 0) rfl rfl (fun H locs hI => ?_)
      obtain ⟨h, h2⟩ := g_sp2 h
      subst h
      subst h2
      exact g_iret X hI dX6_where_251
    · have h := g_f _ c h
      refine lv_aload_n hx hb dX6_where_181 rfl (lv_at hl 0 rfl) ?_
      obtain ⟨g4, eg4, h⟩ := gb_s h
      refine g_get X hI (g_fA_s eg4) (C := RX6) (T := TX6) (N := 17) rfl gu_X6 (by decide) tw_3_49 dX6_where_182 ?_
      refine lv_iload hx hb dX6_where_185 (lv_at hl 5 rfl) ?_
      refine lv_aload_n hx hb dX6_where_187 rfl (lv_at hl 0 rfl) ?_
      refine lv_iload_n hx hb dX6_where_188 rfl (lv_at hl 1 rfl) ?_
      refine lv_iload hx hb dX6_where_189 (lv_at hl 5 rfl) ?_
      obtain ⟨cO, h⟩ := gck_s h
      obtain ⟨r5, er5, h⟩ := gb_s h
      refine g_callV X hI (q := (RX6, TX6, 17)) (b := x0) (av := [.int x1, .int x6]) cO rfl (c_X6_at er5) gm_X6_at tw_3_191 tw_3_193 tw_p_29 ⟨by decide, by decide⟩ hl.1 (rest := [.int x6, .ref g4]) rfl (Nat.le_of_ble_eq_true rfl) dX6_where_191 ⟨by decide, by decide⟩ (st1 := [.long r5, .int x6, .ref g4]) rfl (cells' := 0) (slots' := 0) rfl rfl (fun H locs hI => ?_)
      refine lv_lconst (v := 0) hx hb dX6_where_194 (by decide) ?_
      refine W.lcmp hx hb dX6_where_195 ?_
      refine lv_if_eq (tgt := 220) hx hb dX6_where_196 (by decide) (fun c => ?_) (fun c => ?_)
      · have h := g_t _ ((lg_cmp_eq _ _).mp c) h
        refine lv_aload_n hx hb dX6_where_220 rfl (lv_at hl 0 rfl) ?_
        refine lv_iload_n hx hb dX6_where_221 rfl (lv_at hl 3 rfl) ?_
        refine lv_iload hx hb dX6_where_222 (lv_at hl 5 rfl) ?_
        obtain ⟨cO, h⟩ := gck_s h
        obtain ⟨r6, er6, h⟩ := gb_s h
        refine g_callV X hI (q := (RX6, TX6, 17)) (b := x0) (av := [.int x3, .int x6]) cO rfl (c_X6_at er6) gm_X6_at tw_3_191 tw_3_193 tw_p_29 ⟨by decide, by decide⟩ hl.1 (rest := [.int x6, .ref g4]) rfl (Nat.le_of_ble_eq_true rfl) dX6_where_224 ⟨by decide, by decide⟩ (st1 := [.long r6, .int x6, .ref g4]) rfl (cells' := 0) (slots' := 0) rfl rfl (fun H locs hI => ?_)
        refine lv_aload_n hx hb dX6_where_227 rfl (lv_at hl 0 rfl) ?_
        obtain ⟨g7, eg7, h⟩ := gb_s h
        refine g_get X hI (g_fA_s eg7) (C := RX6) (T := TX6) (N := 17) rfl gu_X6 (by decide) tw_3_43 dX6_where_228 ?_
        refine lv_iload_n hx hb dX6_where_231 rfl (lv_at hl 3 rfl) ?_
        obtain ⟨v8, ev8, h⟩ := gb_s h
        refine g_iald X hI ev8 dX6_where_232 ?_
        refine lv_iload hx hb dX6_where_233 (lv_at hl 4 rfl) ?_
        obtain ⟨r9, er9, h⟩ := gb_s h
        refine g_callS X hI (av := [.long r6, .int v8, .int x5]) (c_X6_to er9) gm_X6_to tw_3_195 tw_3_196 ⟨by decide, by decide⟩ hl.1 (rest := [.int x6, .ref g4]) rfl (Nat.le_of_ble_eq_true rfl) dX6_where_235 ⟨by decide, by decide⟩ (st1 := [.long r9, .int x6, .ref g4]) rfl (cells' := 0) (slots' := 0) rfl rfl (fun H locs hI => ?_)
        exact b_X6_where_238 X ih hI h (lv_sub hl [0, 1, 2, 3, 4, 5] rfl)
      · have h := g_f _ (fun q => c ((lg_cmp_eq _ _).mpr q)) h
        refine lv_aload_n hx hb dX6_where_199 rfl (lv_at hl 0 rfl) ?_
        refine lv_iload_n hx hb dX6_where_200 rfl (lv_at hl 2 rfl) ?_
        refine lv_iload hx hb dX6_where_201 (lv_at hl 5 rfl) ?_
        obtain ⟨cO, h⟩ := gck_s h
        obtain ⟨r10, er10, h⟩ := gb_s h
        refine g_callV X hI (q := (RX6, TX6, 17)) (b := x0) (av := [.int x2, .int x6]) cO rfl (c_X6_at er10) gm_X6_at tw_3_191 tw_3_193 tw_p_29 ⟨by decide, by decide⟩ hl.1 (rest := [.int x6, .ref g4]) rfl (Nat.le_of_ble_eq_true rfl) dX6_where_203 ⟨by decide, by decide⟩ (st1 := [.long r10, .int x6, .ref g4]) rfl (cells' := 0) (slots' := 0) rfl rfl (fun H locs hI => ?_)
        refine lv_aload_n hx hb dX6_where_206 rfl (lv_at hl 0 rfl) ?_
        obtain ⟨g11, eg11, h⟩ := gb_s h
        refine g_get X hI (g_fA_s eg11) (C := RX6) (T := TX6) (N := 17) rfl gu_X6 (by decide) tw_3_43 dX6_where_207 ?_
        refine lv_iload_n hx hb dX6_where_210 rfl (lv_at hl 2 rfl) ?_
        obtain ⟨v12, ev12, h⟩ := gb_s h
        refine g_iald X hI ev12 dX6_where_211 ?_
        refine lv_iload hx hb dX6_where_212 (lv_at hl 4 rfl) ?_
        obtain ⟨r13, er13, h⟩ := gb_s h
        refine g_callS X hI (av := [.long r10, .int v12, .int x5]) (c_X6_to er13) gm_X6_to tw_3_195 tw_3_196 ⟨by decide, by decide⟩ hl.1 (rest := [.int x6, .ref g4]) rfl (Nat.le_of_ble_eq_true rfl) dX6_where_214 ⟨by decide, by decide⟩ (st1 := [.long r13, .int x6, .ref g4]) rfl (cells' := 0) (slots' := 0) rfl rfl (fun H locs hI => ?_)
        refine lv_goto (tgt := 238) hx hb dX6_where_217 (by decide) ?_
        exact b_X6_where_238 X ih hI h (lv_sub hl [0, 1, 2, 3, 4, 5] rfl)
def f_X6_where_117 (G : gG) (x0 : Nat) (x1 : Int32) (x2 : Int32) (x3 : Int32) (s0 : Int32) : Option (Int32 × gG) :=
  if s0 < 0 then
    gb (g_fI G x0 5 14) fun v1 =>
    if v1 ≤ 240 then
      gb (g_fA G x0 5 1) fun g2 =>
      gb (g_il G g2 x2) fun v3 =>
      gb (g_fA G x0 5 1) fun g4 =>
      gb (g_il G g4 x3) fun v5 =>
      gl ((f_X6_joined v3 v5) : Int32) fun v6 =>
      f_X6_where_172 5000 G x0 x1 x2 x3 v6 0
    else
    gck (g_isO G x0 5) <|
    gb2 (f_X6_fails G x0 (6 : Int32) (-3 : Int32)) fun r7 G8 =>
    some (r7, G8)
  else
  gck (g_isO G x0 5) <|
  gb2 (f_X6_fails G x0 (6 : Int32) s0) fun r9 G10 =>
  some (r9, G10)
set_option maxHeartbeats 4000000 in
set_option maxRecDepth 100000 in
theorem b_X6_where_117 {p : Program} {l : Launch} {e : Env} {s : State} {m : MethodId} {args : Array Value} {below : List Frame} {meth : Method} {c : Code} {E : gE} {G0 : gG} {n0 : Nat} (X : g_X E G0 n0 p s m args meth c cX6_where 7 RX6 "where" (some .int)) {G : gG} {n : Nat} {r : Int32} {Gr : gG} {H : Heap} {locs : List Loc} (hI : g_I E (g_A G0 n0) G n s.heap H locs) {x0 : Nat} {x1 : Int32} {x2 : Int32} {x3 : Int32} {s0 : Int32} (h : f_X6_where_117 G x0 x1 x2 x3 s0 = some (r, Gr)) {ls : Array Slot} (hl : lv_has ls 7 [(0, .ref x0), (1, .int x1), (2, .int x2), (3, .int x3)]) : W p l e rm_X6_where s m args below meth c H locs 0 0 (MQ below (g_Q E G0 n0 (some (.int r)) Gr n) args s rm_X6_where.cells rm_X6_where.slots (g_A G0 n0)) (F0 m 117 ls [.int s0]) := by
  have hx := X.1
  have hb := X.2.1
  unfold f_X6_where_117 at h
  refine lv_istore (lv' := [(4, .int s0), (0, .ref x0), (1, .int x1), (2, .int x2), (3, .int x3)]) hx hb dX6_where_117 hl (by decide) rfl (fun ls hl => ?_)
  refine lv_iload hx hb dX6_where_119 (lv_at hl 0 rfl) ?_
  refine lv_if_lt (tgt := 133) hx hb dX6_where_121 (by decide) (fun c => ?_) (fun c => ?_)
  · have h := g_t _ c h
    refine lv_aload_n hx hb dX6_where_133 rfl (lv_at hl 1 rfl) ?_
    obtain ⟨v1, ev1, h⟩ := gb_s h
    refine g_get X hI (g_fI_s ev1) (C := RX6) (T := TX6) (N := 17) rfl gu_X6 (by decide) tw_3_56 dX6_where_134 ?_
    refine lv_sipush (v := 240) hx hb dX6_where_137 (by decide) ?_
    refine lv_icmp_le (tgt := 152) hx hb dX6_where_140 (by decide) (fun c => ?_) (fun c => ?_)
    · have h := g_t _ c h
      refine lv_aload_n hx hb dX6_where_152 rfl (lv_at hl 1 rfl) ?_
      obtain ⟨g2, eg2, h⟩ := gb_s h
      refine g_get X hI (g_fA_s eg2) (C := RX6) (T := TX6) (N := 17) rfl gu_X6 (by decide) tw_3_43 dX6_where_153 ?_
      refine lv_iload_n hx hb dX6_where_156 rfl (lv_at hl 3 rfl) ?_
      obtain ⟨v3, ev3, h⟩ := gb_s h
      refine g_iald X hI ev3 dX6_where_157 ?_
      refine lv_aload_n hx hb dX6_where_158 rfl (lv_at hl 1 rfl) ?_
      obtain ⟨g4, eg4, h⟩ := gb_s h
      refine g_get X hI (g_fA_s eg4) (C := RX6) (T := TX6) (N := 17) rfl gu_X6 (by decide) tw_3_43 dX6_where_159 ?_
      refine lv_iload_n hx hb dX6_where_162 rfl (lv_at hl 4 rfl) ?_
      obtain ⟨v5, ev5, h⟩ := gb_s h
      refine g_iald X hI ev5 dX6_where_163 ?_
      refine g_callS X hI (av := [.int v3, .int v5]) (c_X6_joined v3 v5) gm_X6_joined tw_3_165 tw_3_166 ⟨by decide, by decide⟩ hl.1 (rest := []) rfl (Nat.le_of_ble_eq_true rfl) dX6_where_164 ⟨by decide, by decide⟩ (st1 := [.int (f_X6_joined v3 v5)]) rfl (cells' := 0) (slots' := 0) rfl rfl (fun H locs hI => ?_)
      obtain ⟨v6, ev6, h⟩ := gl_s h
      refine g_topi ev6 ?_
      refine lv_istore (lv' := [(5, .int v6), (4, .int s0), (0, .ref x0), (1, .int x1), (2, .int x2), (3, .int x3)]) hx hb dX6_where_167 hl (by decide) rfl (fun ls hl => ?_)
      refine lv_iconst (v := 0) hx hb dX6_where_169 (by decide) ?_
      refine lv_istore (lv' := [(6, .int 0), (5, .int v6), (4, .int s0), (0, .ref x0), (1, .int x1), (2, .int x2), (3, .int x3)]) hx hb dX6_where_170 hl (by decide) rfl (fun ls hl => ?_)
      exact b_X6_where_172 X 5000 hI h (lv_sub hl [3, 4, 5, 6, 1, 0] rfl)
    · have h := g_f _ c h
      refine lv_aload_n hx hb dX6_where_143 rfl (lv_at hl 1 rfl) ?_
      refine lv_bipush (v := 6) hx hb dX6_where_144 (by decide) ?_
      refine lv_bipush (v := (-3)) hx hb dX6_where_146 (by decide) ?_
      obtain ⟨cO, h⟩ := gck_s h
      obtain ⟨r7, G8, er7, h⟩ := gb2_s h
      refine g_callV X hI (q := (RX6, TX6, 17)) (b := x0) (av := [.int 6, .int (-3)]) cO rfl (c_X6_fails er7) gm_X6_fails tw_3_111 tw_3_113 tw_p_21 ⟨by decide, by decide⟩ hl.1 (rest := []) rfl (Nat.le_of_ble_eq_true rfl) dX6_where_148 ⟨by decide, by decide⟩ (st1 := [.int r7]) rfl (cells' := 0) (slots' := 0) rfl rfl (fun H locs hI => ?_)
      obtain ⟨h, h2⟩ := g_sp2 h
      subst h
      subst h2
      exact g_iret X hI dX6_where_151
  · have h := g_f _ c h
    refine lv_aload_n hx hb dX6_where_124 rfl (lv_at hl 1 rfl) ?_
    refine lv_bipush (v := 6) hx hb dX6_where_125 (by decide) ?_
    refine lv_iload hx hb dX6_where_127 (lv_at hl 0 rfl) ?_
    obtain ⟨cO, h⟩ := gck_s h
    obtain ⟨r9, G10, er9, h⟩ := gb2_s h
    refine g_callV X hI (q := (RX6, TX6, 17)) (b := x0) (av := [.int 6, .int s0]) cO rfl (c_X6_fails er9) gm_X6_fails tw_3_111 tw_3_113 tw_p_21 ⟨by decide, by decide⟩ hl.1 (rest := []) rfl (Nat.le_of_ble_eq_true rfl) dX6_where_129 ⟨by decide, by decide⟩ (st1 := [.int r9]) rfl (cells' := 0) (slots' := 0) rfl rfl (fun H locs hI => ?_)
    obtain ⟨h, h2⟩ := g_sp2 h
    subst h
    subst h2
    exact g_iret X hI dX6_where_132
def f_X6_where_65 (G : gG) (x0 : Nat) : Option (Int32 × gG) :=
  gck (g_isO G x0 5) <|
  gb2 (f_X6_fails G x0 (1 : Int32) (-3 : Int32)) fun r1 G2 =>
  some (r1, G2)
set_option maxHeartbeats 4000000 in
set_option maxRecDepth 100000 in
theorem b_X6_where_65 {p : Program} {l : Launch} {e : Env} {s : State} {m : MethodId} {args : Array Value} {below : List Frame} {meth : Method} {c : Code} {E : gE} {G0 : gG} {n0 : Nat} (X : g_X E G0 n0 p s m args meth c cX6_where 7 RX6 "where" (some .int)) {G : gG} {n : Nat} {r : Int32} {Gr : gG} {H : Heap} {locs : List Loc} (hI : g_I E (g_A G0 n0) G n s.heap H locs) {x0 : Nat} (h : f_X6_where_65 G x0 = some (r, Gr)) {ls : Array Slot} (hl : lv_has ls 7 [(0, .ref x0)]) : W p l e rm_X6_where s m args below meth c H locs 0 0 (MQ below (g_Q E G0 n0 (some (.int r)) Gr n) args s rm_X6_where.cells rm_X6_where.slots (g_A G0 n0)) (F0 m 65 ls []) := by
  have hx := X.1
  have hb := X.2.1
  unfold f_X6_where_65 at h
  refine lv_aload_n hx hb dX6_where_65 rfl (lv_at hl 0 rfl) ?_
  refine lv_iconst (v := 1) hx hb dX6_where_66 (by decide) ?_
  refine lv_bipush (v := (-3)) hx hb dX6_where_67 (by decide) ?_
  obtain ⟨cO, h⟩ := gck_s h
  obtain ⟨r1, G2, er1, h⟩ := gb2_s h
  refine g_callV X hI (q := (RX6, TX6, 17)) (b := x0) (av := [.int 1, .int (-3)]) cO rfl (c_X6_fails er1) gm_X6_fails tw_3_111 tw_3_113 tw_p_21 ⟨by decide, by decide⟩ hl.1 (rest := []) rfl (Nat.le_of_ble_eq_true rfl) dX6_where_69 ⟨by decide, by decide⟩ (st1 := [.int r1]) rfl (cells' := 0) (slots' := 0) rfl rfl (fun H locs hI => ?_)
  obtain ⟨h, h2⟩ := g_sp2 h
  subst h
  subst h2
  exact g_iret X hI dX6_where_72
def f_X6_where (G : gG) (th : Nat) (a1 : Int32) (a2 : Int32) (a3 : Int32) : Option (Int32 × gG) :=
  gck (g_isO G th 5) <|
  gb (f_X6_isTensor G th a1) fun r1 =>
  if r1 = 0 then
    some ((-1), G)
  else
  gck (g_isO G th 5) <|
  gb (f_X6_isTensor G th a2) fun r2 =>
  if r2 = 0 then
    some ((-1), G)
  else
  gck (g_isO G th 5) <|
  gb (f_X6_isTensor G th a3) fun r3 =>
  if r3 = 0 then
    some ((-1), G)
  else
  gb (g_fI G th 5 0) fun v4 =>
  if v4 = 16 then
    some ((-2), G)
  else
  gb (g_fA G th 5 5) fun g5 =>
  gb (g_zl G g5 a1) fun v6 =>
  if v6 = 0 then
    gb (g_fA G th 5 5) fun g7 =>
    gb (g_zl G g7 a2) fun v8 =>
    if v8 = 0 then
      gb (g_fA G th 5 5) fun g9 =>
      gb (g_zl G g9 a3) fun v10 =>
      if v10 = 0 then
        gb (g_fA G th 5 1) fun g11 =>
        gb (g_il G g11 a1) fun v12 =>
        if v12 = 0 then
          gck (g_isO G th 5) <|
          gb (f_X6_begin G th a2) fun G13 =>
          gck (g_isO G13 th 5) <|
          gb2 (f_X6_spreadWith G13 th a3) fun r14 G15 =>
          if r14 < 0 then
            gck (g_isO G15 th 5) <|
            gb2 (f_X6_spreadWith G15 th a1) fun r16 G17 =>
            f_X6_where_117 G17 th a1 a2 a3 r16
          else
          f_X6_where_117 G15 th a1 a2 a3 r14
        else
        gck (g_isO G th 5) <|
        gb2 (f_X6_fails G th (4 : Int32) (-3 : Int32)) fun r18 G19 =>
        some (r18, G19)
      else
      f_X6_where_65 G th
    else
    f_X6_where_65 G th
  else
  f_X6_where_65 G th
theorem gm_X6_where : g_M yX6_where cX6_where 7 (some .int) 3 := ⟨tw_4_79, tw_1_5, by decide +kernel, Or.inl (by decide +kernel)⟩
set_option maxHeartbeats 4000000 in
set_option maxRecDepth 100000 in
theorem c_X6_where {l : Launch} {E : gE} {G : gG} {n : Nat} {th : Nat} {a1 : Int32} {a2 : Int32} {a3 : Int32} {r : Int32} {Gr : gG} (h : f_X6_where G th a1 a2 a3 = some (r, Gr)) : g_Met l yX6_where cX6_where 7 (some .int) rm_X6_where E G n [.ref th, .int a1, .int a2, .int a3] (some (.int r)) Gr n := by
  refine g_ofW gm_X6_where (Nat.le_of_ble_eq_true rfl) ?_
  intro p e s m below meth c ls X hl hI
  have hx := X.1
  have hb := X.2.1
  have X : g_X E G n p s m _ meth c cX6_where 7 RX6 "where" (some .int) := X
  have hl : lv_has ls 7 [(0, .ref th), (1, .int a1), (2, .int a2), (3, .int a3)] := hl
  unfold f_X6_where at h
  refine lv_aload_n hx hb dX6_where_0 rfl (lv_at hl 0 rfl) ?_
  refine lv_iload_n hx hb dX6_where_1 rfl (lv_at hl 1 rfl) ?_
  obtain ⟨cO, h⟩ := gck_s h
  obtain ⟨r1, er1, h⟩ := gb_s h
  refine g_callV X hI (q := (RX6, TX6, 17)) (b := th) (av := [.int a1]) cO rfl (c_X6_isTensor er1) gm_X6_isTensor tw_3_119 tw_3_121 tw_p_22 ⟨by decide, by decide⟩ hl.1 (rest := []) rfl (Nat.le_of_ble_eq_true rfl) dX6_where_2 ⟨by decide, by decide⟩ (st1 := [.int r1]) rfl (cells' := 0) (slots' := 0) rfl rfl (fun H locs hI => ?_)
  refine lv_if_eq (tgt := 24) hx hb dX6_where_5 (by decide) (fun c => ?_) (fun c => ?_)
  · have h := g_t _ c h
    refine lv_iconst (v := (-1)) hx hb dX6_where_24 (by decide) ?_
    obtain ⟨h, h2⟩ := g_sp2 h
    subst h
    subst h2
    exact g_iret X hI dX6_where_25
  · have h := g_f _ c h
    refine lv_aload_n hx hb dX6_where_8 rfl (lv_at hl 0 rfl) ?_
    refine lv_iload_n hx hb dX6_where_9 rfl (lv_at hl 2 rfl) ?_
    obtain ⟨cO, h⟩ := gck_s h
    obtain ⟨r2, er2, h⟩ := gb_s h
    refine g_callV X hI (q := (RX6, TX6, 17)) (b := th) (av := [.int a2]) cO rfl (c_X6_isTensor er2) gm_X6_isTensor tw_3_119 tw_3_121 tw_p_22 ⟨by decide, by decide⟩ hl.1 (rest := []) rfl (Nat.le_of_ble_eq_true rfl) dX6_where_10 ⟨by decide, by decide⟩ (st1 := [.int r2]) rfl (cells' := 0) (slots' := 0) rfl rfl (fun H locs hI => ?_)
    refine lv_if_eq (tgt := 24) hx hb dX6_where_13 (by decide) (fun c => ?_) (fun c => ?_)
    · have h := g_t _ c h
      refine lv_iconst (v := (-1)) hx hb dX6_where_24 (by decide) ?_
      obtain ⟨h, h2⟩ := g_sp2 h
      subst h
      subst h2
      exact g_iret X hI dX6_where_25
    · have h := g_f _ c h
      refine lv_aload_n hx hb dX6_where_16 rfl (lv_at hl 0 rfl) ?_
      refine lv_iload_n hx hb dX6_where_17 rfl (lv_at hl 3 rfl) ?_
      obtain ⟨cO, h⟩ := gck_s h
      obtain ⟨r3, er3, h⟩ := gb_s h
      refine g_callV X hI (q := (RX6, TX6, 17)) (b := th) (av := [.int a3]) cO rfl (c_X6_isTensor er3) gm_X6_isTensor tw_3_119 tw_3_121 tw_p_22 ⟨by decide, by decide⟩ hl.1 (rest := []) rfl (Nat.le_of_ble_eq_true rfl) dX6_where_18 ⟨by decide, by decide⟩ (st1 := [.int r3]) rfl (cells' := 0) (slots' := 0) rfl rfl (fun H locs hI => ?_)
      refine lv_if_ne (tgt := 26) hx hb dX6_where_21 (by decide) (fun c => ?_) (fun c => ?_)
      · have h := g_f _ c h
        refine lv_aload_n hx hb dX6_where_26 rfl (lv_at hl 0 rfl) ?_
        obtain ⟨v4, ev4, h⟩ := gb_s h
        refine g_get X hI (g_fI_s ev4) (C := RX6) (T := TX6) (N := 17) rfl gu_X6 (by decide) tw_3_42 dX6_where_27 ?_
        refine lv_bipush (v := 16) hx hb dX6_where_30 (by decide) ?_
        refine lv_icmp_ne (tgt := 38) hx hb dX6_where_32 (by decide) (fun c => ?_) (fun c => ?_)
        · have h := g_f _ c h
          refine lv_aload_n hx hb dX6_where_38 rfl (lv_at hl 0 rfl) ?_
          obtain ⟨g5, eg5, h⟩ := gb_s h
          refine g_get X hI (g_fA_s eg5) (C := RX6) (T := TX6) (N := 17) rfl gu_X6 (by decide) tw_3_47 dX6_where_39 ?_
          refine lv_iload_n hx hb dX6_where_42 rfl (lv_at hl 1 rfl) ?_
          obtain ⟨v6, ev6, h⟩ := gb_s h
          refine g_zald X hI ev6 dX6_where_43 ?_
          refine lv_if_ne (tgt := 65) hx hb dX6_where_44 (by decide) (fun c => ?_) (fun c => ?_)
          · have h := g_f _ c h
            exact b_X6_where_65 X hI h (lv_sub hl [0] rfl)
          · have h := g_t _ c h
            refine lv_aload_n hx hb dX6_where_47 rfl (lv_at hl 0 rfl) ?_
            obtain ⟨g7, eg7, h⟩ := gb_s h
            refine g_get X hI (g_fA_s eg7) (C := RX6) (T := TX6) (N := 17) rfl gu_X6 (by decide) tw_3_47 dX6_where_48 ?_
            refine lv_iload_n hx hb dX6_where_51 rfl (lv_at hl 2 rfl) ?_
            obtain ⟨v8, ev8, h⟩ := gb_s h
            refine g_zald X hI ev8 dX6_where_52 ?_
            refine lv_if_ne (tgt := 65) hx hb dX6_where_53 (by decide) (fun c => ?_) (fun c => ?_)
            · have h := g_f _ c h
              exact b_X6_where_65 X hI h (lv_sub hl [0] rfl)
            · have h := g_t _ c h
              refine lv_aload_n hx hb dX6_where_56 rfl (lv_at hl 0 rfl) ?_
              obtain ⟨g9, eg9, h⟩ := gb_s h
              refine g_get X hI (g_fA_s eg9) (C := RX6) (T := TX6) (N := 17) rfl gu_X6 (by decide) tw_3_47 dX6_where_57 ?_
              refine lv_iload_n hx hb dX6_where_60 rfl (lv_at hl 3 rfl) ?_
              obtain ⟨v10, ev10, h⟩ := gb_s h
              refine g_zald X hI ev10 dX6_where_61 ?_
              refine lv_if_eq (tgt := 73) hx hb dX6_where_62 (by decide) (fun c => ?_) (fun c => ?_)
              · have h := g_t _ c h
                refine lv_aload_n hx hb dX6_where_73 rfl (lv_at hl 0 rfl) ?_
                obtain ⟨g11, eg11, h⟩ := gb_s h
                refine g_get X hI (g_fA_s eg11) (C := RX6) (T := TX6) (N := 17) rfl gu_X6 (by decide) tw_3_43 dX6_where_74 ?_
                refine lv_iload_n hx hb dX6_where_77 rfl (lv_at hl 1 rfl) ?_
                obtain ⟨v12, ev12, h⟩ := gb_s h
                refine g_iald X hI ev12 dX6_where_78 ?_
                refine lv_if_eq (tgt := 90) hx hb dX6_where_79 (by decide) (fun c => ?_) (fun c => ?_)
                · have h := g_t _ c h
                  refine lv_aload_n hx hb dX6_where_90 rfl (lv_at hl 0 rfl) ?_
                  refine lv_iload_n hx hb dX6_where_91 rfl (lv_at hl 2 rfl) ?_
                  obtain ⟨cO, h⟩ := gck_s h
                  obtain ⟨G13, eG13, h⟩ := gb_s h
                  refine g_callV X hI (q := (RX6, TX6, 17)) (b := th) (av := [.int a2]) cO rfl (c_X6_begin eG13) gm_X6_begin tw_3_175 tw_3_177 tw_p_25 ⟨by decide, by decide⟩ hl.1 (rest := []) rfl (Nat.le_of_ble_eq_true rfl) dX6_where_92 ⟨by decide, by decide⟩ (st1 := []) rfl (cells' := 0) (slots' := 0) rfl rfl (fun H locs hI => ?_)
                  refine lv_aload_n hx hb dX6_where_95 rfl (lv_at hl 0 rfl) ?_
                  refine lv_iload_n hx hb dX6_where_96 rfl (lv_at hl 3 rfl) ?_
                  obtain ⟨cO, h⟩ := gck_s h
                  obtain ⟨r14, G15, er14, h⟩ := gb2_s h
                  refine g_callV X hI (q := (RX6, TX6, 17)) (b := th) (av := [.int a3]) cO rfl (c_X6_spreadWith er14) gm_X6_spreadWith tw_3_183 tw_3_185 tw_p_27 ⟨by decide, by decide⟩ hl.1 (rest := []) rfl (Nat.le_of_ble_eq_true rfl) dX6_where_97 ⟨by decide, by decide⟩ (st1 := [.int r14]) rfl (cells' := 0) (slots' := 0) rfl rfl (fun H locs hI => ?_)
                  refine lv_istore (lv' := [(4, .int r14), (0, .ref th), (1, .int a1), (2, .int a2), (3, .int a3)]) hx hb dX6_where_100 hl (by decide) rfl (fun ls hl => ?_)
                  refine lv_iload hx hb dX6_where_102 (lv_at hl 0 rfl) ?_
                  refine lv_if_lt (tgt := 112) hx hb dX6_where_104 (by decide) (fun c => ?_) (fun c => ?_)
                  · have h := g_t _ c h
                    refine lv_aload_n hx hb dX6_where_112 rfl (lv_at hl 1 rfl) ?_
                    refine lv_iload_n hx hb dX6_where_113 rfl (lv_at hl 2 rfl) ?_
                    obtain ⟨cO, h⟩ := gck_s h
                    obtain ⟨r16, G17, er16, h⟩ := gb2_s h
                    refine g_callV X hI (q := (RX6, TX6, 17)) (b := th) (av := [.int a1]) cO rfl (c_X6_spreadWith er16) gm_X6_spreadWith tw_3_183 tw_3_185 tw_p_27 ⟨by decide, by decide⟩ hl.1 (rest := []) rfl (Nat.le_of_ble_eq_true rfl) dX6_where_114 ⟨by decide, by decide⟩ (st1 := [.int r16]) rfl (cells' := 0) (slots' := 0) rfl rfl (fun H locs hI => ?_)
                    exact b_X6_where_117 X hI h (lv_sub hl [1, 2, 3, 4] rfl)
                  · have h := g_f _ c h
                    refine lv_iload hx hb dX6_where_107 (lv_at hl 0 rfl) ?_
                    refine lv_goto (tgt := 117) hx hb dX6_where_109 (by decide) ?_
                    exact b_X6_where_117 X hI h (lv_sub hl [1, 2, 3, 4] rfl)
                · have h := g_f _ c h
                  refine lv_aload_n hx hb dX6_where_82 rfl (lv_at hl 0 rfl) ?_
                  refine lv_iconst (v := 4) hx hb dX6_where_83 (by decide) ?_
                  refine lv_bipush (v := (-3)) hx hb dX6_where_84 (by decide) ?_
                  obtain ⟨cO, h⟩ := gck_s h
                  obtain ⟨r18, G19, er18, h⟩ := gb2_s h
                  refine g_callV X hI (q := (RX6, TX6, 17)) (b := th) (av := [.int 4, .int (-3)]) cO rfl (c_X6_fails er18) gm_X6_fails tw_3_111 tw_3_113 tw_p_21 ⟨by decide, by decide⟩ hl.1 (rest := []) rfl (Nat.le_of_ble_eq_true rfl) dX6_where_86 ⟨by decide, by decide⟩ (st1 := [.int r18]) rfl (cells' := 0) (slots' := 0) rfl rfl (fun H locs hI => ?_)
                  obtain ⟨h, h2⟩ := g_sp2 h
                  subst h
                  subst h2
                  exact g_iret X hI dX6_where_89
              · have h := g_f _ c h
                exact b_X6_where_65 X hI h (lv_sub hl [0] rfl)
        · have h := g_t _ c h
          refine lv_bipush (v := (-2)) hx hb dX6_where_35 (by decide) ?_
          obtain ⟨h, h2⟩ := g_sp2 h
          subst h
          subst h2
          exact g_iret X hI dX6_where_37
      · have h := g_t _ c h
        refine lv_iconst (v := (-1)) hx hb dX6_where_24 (by decide) ?_
        obtain ⟨h, h2⟩ := g_sp2 h
        subst h
        subst h2
        exact g_iret X hI dX6_where_25
abbrev rm_X6_copy : Room := { frames := 2, cells := 0, slots := 0, locals := 46 }
def f_X6_copy_165 : Nat → gG → Nat → Int32 → Int32 → Int32 → Int32 → Option (Int32 × gG)
  | 0, _, _, _, _, _, _ => none
  | fu + 1, G, x0, x3, x4, x5, x6 =>
    if x5 ≤ x6 then
      some (x5, G)
    else
    gb (g_fA G x0 5 6) fun g1 =>
    gb (g_fA G x0 5 7) fun g2 =>
    gb (g_ll G g2 x6) fun v3 =>
    gb (g_ls G g1 ((((240 : Int32) * x3) + x4) + x6) v3) fun G4 =>
    gl (x6 + 1 : Int32) fun v5 =>
    f_X6_copy_165 fu G4 x0 x3 x4 x5 v5
set_option maxHeartbeats 4000000 in
set_option maxRecDepth 100000 in
theorem b_X6_copy_165 {p : Program} {l : Launch} {e : Env} {s : State} {m : MethodId} {args : Array Value} {below : List Frame} {meth : Method} {c : Code} {E : gE} {G0 : gG} {n0 : Nat} (X : g_X E G0 n0 p s m args meth c cX6_copy 7 RX6 "copy" (some .int)) {n : Nat} {r : Int32} {Gr : gG} (fu : Nat) : ∀ {G : gG} {H : Heap} {locs : List Loc} (_ : g_I E (g_A G0 n0) G n s.heap H locs) {x0 : Nat} {x3 : Int32} {x4 : Int32} {x5 : Int32} {x6 : Int32} (_ : f_X6_copy_165 fu G x0 x3 x4 x5 x6 = some (r, Gr)) {ls : Array Slot} (_ : lv_has ls 7 [(0, .ref x0), (3, .int x3), (4, .int x4), (5, .int x5), (6, .int x6)]), W p l e rm_X6_copy s m args below meth c H locs 0 0 (MQ below (g_Q E G0 n0 (some (.int r)) Gr n) args s rm_X6_copy.cells rm_X6_copy.slots (g_A G0 n0)) (F0 m 165 ls []) := by
  have hx := X.1
  have hb := X.2.1
  induction fu with
  | zero =>
    intro G H locs hI x0 x3 x4 x5 x6 h ls hl
    rw [f_X6_copy_165] at h
    cases h
  | succ fu ih =>
    intro G H locs hI x0 x3 x4 x5 x6 h ls hl
    rw [f_X6_copy_165] at h
    refine lv_iload hx hb dX6_copy_165 (lv_at hl 4 rfl) ?_
    refine lv_iload hx hb dX6_copy_167 (lv_at hl 3 rfl) ?_
    refine lv_icmp_ge (tgt := 201) hx hb dX6_copy_169 (by decide) (fun c => ?_) (fun c => ?_)
    · have h := g_t _ c h
      refine lv_iload hx hb dX6_copy_201 (lv_at hl 3 rfl) ?_
      obtain ⟨h, h2⟩ := g_sp2 h
      subst h
      subst h2
      exact g_iret X hI dX6_copy_203
    · have h := g_f _ c h
      refine lv_aload_n hx hb dX6_copy_172 rfl (lv_at hl 0 rfl) ?_
      obtain ⟨g1, eg1, h⟩ := gb_s h
      refine g_get X hI (g_fA_s eg1) (C := RX6) (T := TX6) (N := 17) rfl gu_X6 (by decide) tw_3_48 dX6_copy_173 ?_
      refine lv_sipush (v := 240) hx hb dX6_copy_176 (by decide) ?_
      refine lv_iload_n hx hb dX6_copy_179 rfl (lv_at hl 1 rfl) ?_
      refine lv_imul (x := 240) (y := x3) hx hb dX6_copy_180 ?_
      refine lv_iload hx hb dX6_copy_181 (lv_at hl 2 rfl) ?_
      refine lv_iadd (x := ((240 : Int32) * x3)) (y := x4) hx hb dX6_copy_183 ?_
      refine lv_iload hx hb dX6_copy_184 (lv_at hl 4 rfl) ?_
      refine lv_iadd (x := (((240 : Int32) * x3) + x4)) (y := x6) hx hb dX6_copy_186 ?_
      refine lv_aload_n hx hb dX6_copy_187 rfl (lv_at hl 0 rfl) ?_
      obtain ⟨g2, eg2, h⟩ := gb_s h
      refine g_get X hI (g_fA_s eg2) (C := RX6) (T := TX6) (N := 17) rfl gu_X6 (by decide) tw_3_49 dX6_copy_188 ?_
      refine lv_iload hx hb dX6_copy_191 (lv_at hl 4 rfl) ?_
      obtain ⟨v3, ev3, h⟩ := gb_s h
      refine g_lald X hI ev3 dX6_copy_193 ?_
      obtain ⟨G4, eG4, h⟩ := gb_s h
      refine g_last X hI (G' := G4) eG4 dX6_copy_194 (fun H locs hI => ?_)
      obtain ⟨v5, ev5, h⟩ := gl_s h
      refine lv_iinc (v := v5) (lv' := [(6, .int v5), (0, .ref x0), (3, .int x3), (4, .int x4), (5, .int x5)]) hx hb dX6_copy_195 hl (k := 4) rfl (by rw [← ev5]; rfl) (by decide) rfl (fun ls hl => ?_)
      refine lv_goto (tgt := 165) hx hb dX6_copy_198 (by decide) ?_
      exact ih hI h (lv_sub hl [1, 2, 3, 4, 0] rfl)
def f_X6_copy_127 : Nat → gG → Nat → Int32 → Int32 → Int32 → Int32 → Int32 → Int32 → Option (Int32 × gG)
  | 0, _, _, _, _, _, _, _, _ => none
  | fu + 1, G, x0, x1, x2, x3, x4, x5, x6 =>
    if x5 ≤ x6 then
      f_X6_copy_165 5000 G x0 x3 x4 x5 0
    else
    gb (g_fA G x0 5 7) fun g1 =>
    gb (g_fA G x0 5 6) fun g2 =>
    gb (g_ll G g2 ((((240 : Int32) * x1) + x2) + x6)) fun v3 =>
    gb (g_ls G g1 x6 v3) fun G4 =>
    gl (x6 + 1 : Int32) fun v5 =>
    f_X6_copy_127 fu G4 x0 x1 x2 x3 x4 x5 v5
set_option maxHeartbeats 4000000 in
set_option maxRecDepth 100000 in
theorem b_X6_copy_127 {p : Program} {l : Launch} {e : Env} {s : State} {m : MethodId} {args : Array Value} {below : List Frame} {meth : Method} {c : Code} {E : gE} {G0 : gG} {n0 : Nat} (X : g_X E G0 n0 p s m args meth c cX6_copy 7 RX6 "copy" (some .int)) {n : Nat} {r : Int32} {Gr : gG} (fu : Nat) : ∀ {G : gG} {H : Heap} {locs : List Loc} (_ : g_I E (g_A G0 n0) G n s.heap H locs) {x0 : Nat} {x1 : Int32} {x2 : Int32} {x3 : Int32} {x4 : Int32} {x5 : Int32} {x6 : Int32} (_ : f_X6_copy_127 fu G x0 x1 x2 x3 x4 x5 x6 = some (r, Gr)) {ls : Array Slot} (_ : lv_has ls 7 [(0, .ref x0), (1, .int x1), (2, .int x2), (3, .int x3), (4, .int x4), (5, .int x5), (6, .int x6)]), W p l e rm_X6_copy s m args below meth c H locs 0 0 (MQ below (g_Q E G0 n0 (some (.int r)) Gr n) args s rm_X6_copy.cells rm_X6_copy.slots (g_A G0 n0)) (F0 m 127 ls []) := by
  have hx := X.1
  have hb := X.2.1
  induction fu with
  | zero =>
    intro G H locs hI x0 x1 x2 x3 x4 x5 x6 h ls hl
    rw [f_X6_copy_127] at h
    cases h
  | succ fu ih =>
    intro G H locs hI x0 x1 x2 x3 x4 x5 x6 h ls hl
    rw [f_X6_copy_127] at h
    refine lv_iload hx hb dX6_copy_127 (lv_at hl 6 rfl) ?_
    refine lv_iload hx hb dX6_copy_129 (lv_at hl 5 rfl) ?_
    refine lv_icmp_ge (tgt := 162) hx hb dX6_copy_131 (by decide) (fun c => ?_) (fun c => ?_)
    · have h := g_t _ c h
      refine lv_iconst (v := 0) hx hb dX6_copy_162 (by decide) ?_
      refine lv_istore (lv' := [(6, .int 0), (0, .ref x0), (1, .int x1), (2, .int x2), (3, .int x3), (4, .int x4), (5, .int x5)]) hx hb dX6_copy_163 hl (by decide) rfl (fun ls hl => ?_)
      exact b_X6_copy_165 X 5000 hI h (lv_sub hl [1, 4, 5, 6, 0] rfl)
    · have h := g_f _ c h
      refine lv_aload_n hx hb dX6_copy_134 rfl (lv_at hl 0 rfl) ?_
      obtain ⟨g1, eg1, h⟩ := gb_s h
      refine g_get X hI (g_fA_s eg1) (C := RX6) (T := TX6) (N := 17) rfl gu_X6 (by decide) tw_3_49 dX6_copy_135 ?_
      refine lv_iload hx hb dX6_copy_138 (lv_at hl 6 rfl) ?_
      refine lv_aload_n hx hb dX6_copy_140 rfl (lv_at hl 0 rfl) ?_
      obtain ⟨g2, eg2, h⟩ := gb_s h
      refine g_get X hI (g_fA_s eg2) (C := RX6) (T := TX6) (N := 17) rfl gu_X6 (by decide) tw_3_48 dX6_copy_141 ?_
      refine lv_sipush (v := 240) hx hb dX6_copy_144 (by decide) ?_
      refine lv_iload_n hx hb dX6_copy_147 rfl (lv_at hl 1 rfl) ?_
      refine lv_imul (x := 240) (y := x1) hx hb dX6_copy_148 ?_
      refine lv_iload_n hx hb dX6_copy_149 rfl (lv_at hl 2 rfl) ?_
      refine lv_iadd (x := ((240 : Int32) * x1)) (y := x2) hx hb dX6_copy_150 ?_
      refine lv_iload hx hb dX6_copy_151 (lv_at hl 6 rfl) ?_
      refine lv_iadd (x := (((240 : Int32) * x1) + x2)) (y := x6) hx hb dX6_copy_153 ?_
      obtain ⟨v3, ev3, h⟩ := gb_s h
      refine g_lald X hI ev3 dX6_copy_154 ?_
      obtain ⟨G4, eG4, h⟩ := gb_s h
      refine g_last X hI (G' := G4) eG4 dX6_copy_155 (fun H locs hI => ?_)
      obtain ⟨v5, ev5, h⟩ := gl_s h
      refine lv_iinc (v := v5) (lv' := [(6, .int v5), (0, .ref x0), (1, .int x1), (2, .int x2), (3, .int x3), (4, .int x4), (5, .int x5)]) hx hb dX6_copy_156 hl (k := 6) rfl (by rw [← ev5]; rfl) (by decide) rfl (fun ls hl => ?_)
      refine lv_goto (tgt := 127) hx hb dX6_copy_159 (by decide) ?_
      exact ih hI h (lv_sub hl [1, 2, 3, 4, 5, 6, 0] rfl)
def f_X6_copy_116 (G : gG) (x0 : Nat) : Option (Int32 × gG) :=
  gck (g_isO G x0 5) <|
  gb2 (f_X6_fails G x0 (2 : Int32) (-3 : Int32)) fun r1 G2 =>
  some (r1, G2)
set_option maxHeartbeats 4000000 in
set_option maxRecDepth 100000 in
theorem b_X6_copy_116 {p : Program} {l : Launch} {e : Env} {s : State} {m : MethodId} {args : Array Value} {below : List Frame} {meth : Method} {c : Code} {E : gE} {G0 : gG} {n0 : Nat} (X : g_X E G0 n0 p s m args meth c cX6_copy 7 RX6 "copy" (some .int)) {G : gG} {n : Nat} {r : Int32} {Gr : gG} {H : Heap} {locs : List Loc} (hI : g_I E (g_A G0 n0) G n s.heap H locs) {x0 : Nat} (h : f_X6_copy_116 G x0 = some (r, Gr)) {ls : Array Slot} (hl : lv_has ls 7 [(0, .ref x0)]) : W p l e rm_X6_copy s m args below meth c H locs 0 0 (MQ below (g_Q E G0 n0 (some (.int r)) Gr n) args s rm_X6_copy.cells rm_X6_copy.slots (g_A G0 n0)) (F0 m 116 ls []) := by
  have hx := X.1
  have hb := X.2.1
  unfold f_X6_copy_116 at h
  refine lv_aload_n hx hb dX6_copy_116 rfl (lv_at hl 0 rfl) ?_
  refine lv_iconst (v := 2) hx hb dX6_copy_117 (by decide) ?_
  refine lv_bipush (v := (-3)) hx hb dX6_copy_118 (by decide) ?_
  obtain ⟨cO, h⟩ := gck_s h
  obtain ⟨r1, G2, er1, h⟩ := gb2_s h
  refine g_callV X hI (q := (RX6, TX6, 17)) (b := x0) (av := [.int 2, .int (-3)]) cO rfl (c_X6_fails er1) gm_X6_fails tw_3_111 tw_3_113 tw_p_21 ⟨by decide, by decide⟩ hl.1 (rest := []) rfl (Nat.le_of_ble_eq_true rfl) dX6_copy_120 ⟨by decide, by decide⟩ (st1 := [.int r1]) rfl (cells' := 0) (slots' := 0) rfl rfl (fun H locs hI => ?_)
  obtain ⟨h, h2⟩ := g_sp2 h
  subst h
  subst h2
  exact g_iret X hI dX6_copy_123
def f_X6_copy_36 (G : gG) (x0 : Nat) : Option (Int32 × gG) :=
  gck (g_isO G x0 5) <|
  gb2 (f_X6_fails G x0 (1 : Int32) (-3 : Int32)) fun r1 G2 =>
  some (r1, G2)
set_option maxHeartbeats 4000000 in
set_option maxRecDepth 100000 in
theorem b_X6_copy_36 {p : Program} {l : Launch} {e : Env} {s : State} {m : MethodId} {args : Array Value} {below : List Frame} {meth : Method} {c : Code} {E : gE} {G0 : gG} {n0 : Nat} (X : g_X E G0 n0 p s m args meth c cX6_copy 7 RX6 "copy" (some .int)) {G : gG} {n : Nat} {r : Int32} {Gr : gG} {H : Heap} {locs : List Loc} (hI : g_I E (g_A G0 n0) G n s.heap H locs) {x0 : Nat} (h : f_X6_copy_36 G x0 = some (r, Gr)) {ls : Array Slot} (hl : lv_has ls 7 [(0, .ref x0)]) : W p l e rm_X6_copy s m args below meth c H locs 0 0 (MQ below (g_Q E G0 n0 (some (.int r)) Gr n) args s rm_X6_copy.cells rm_X6_copy.slots (g_A G0 n0)) (F0 m 36 ls []) := by
  have hx := X.1
  have hb := X.2.1
  unfold f_X6_copy_36 at h
  refine lv_aload_n hx hb dX6_copy_36 rfl (lv_at hl 0 rfl) ?_
  refine lv_iconst (v := 1) hx hb dX6_copy_37 (by decide) ?_
  refine lv_bipush (v := (-3)) hx hb dX6_copy_38 (by decide) ?_
  obtain ⟨cO, h⟩ := gck_s h
  obtain ⟨r1, G2, er1, h⟩ := gb2_s h
  refine g_callV X hI (q := (RX6, TX6, 17)) (b := x0) (av := [.int 1, .int (-3)]) cO rfl (c_X6_fails er1) gm_X6_fails tw_3_111 tw_3_113 tw_p_21 ⟨by decide, by decide⟩ hl.1 (rest := []) rfl (Nat.le_of_ble_eq_true rfl) dX6_copy_40 ⟨by decide, by decide⟩ (st1 := [.int r1]) rfl (cells' := 0) (slots' := 0) rfl rfl (fun H locs hI => ?_)
  obtain ⟨h, h2⟩ := g_sp2 h
  subst h
  subst h2
  exact g_iret X hI dX6_copy_43
def f_X6_copy (G : gG) (th : Nat) (a1 : Int32) (a2 : Int32) (a3 : Int32) (a4 : Int32) (a5 : Int32) : Option (Int32 × gG) :=
  gck (g_isO G th 5) <|
  gb (f_X6_isTensor G th a1) fun r1 =>
  if r1 = 0 then
    some ((-1), G)
  else
  gck (g_isO G th 5) <|
  gb (f_X6_isTensor G th a3) fun r2 =>
  if r2 = 0 then
    some ((-1), G)
  else
  gb (g_fA G th 5 5) fun g3 =>
  gb (g_zl G g3 a1) fun v4 =>
  if v4 = 0 then
    gb (g_fA G th 5 5) fun g5 =>
    gb (g_zl G g5 a3) fun v6 =>
    if v6 = 0 then
      gb (g_fA G th 5 1) fun g7 =>
      gb (g_il G g7 a1) fun v8 =>
      gb (g_fA G th 5 1) fun g9 =>
      gb (g_il G g9 a3) fun v10 =>
      if v8 = v10 then
        if a2 < 0 then
          f_X6_copy_116 G th
        else
        if a4 < 0 then
          f_X6_copy_116 G th
        else
        if a5 < 0 then
          f_X6_copy_116 G th
        else
        gb (g_fA G th 5 4) fun g11 =>
        gb (g_il G g11 a1) fun v12 =>
        if (Int32.toInt64 v12) < ((Int32.toInt64 a2) + (Int32.toInt64 a5)) then
          f_X6_copy_116 G th
        else
        gb (g_fA G th 5 4) fun g13 =>
        gb (g_il G g13 a3) fun v14 =>
        if ((Int32.toInt64 a4) + (Int32.toInt64 a5)) ≤ (Int32.toInt64 v14) then
          f_X6_copy_127 5000 G th a1 a2 a3 a4 a5 0
        else
        f_X6_copy_116 G th
      else
      gck (g_isO G th 5) <|
      gb2 (f_X6_fails G th (4 : Int32) (-3 : Int32)) fun r15 G16 =>
      some (r15, G16)
    else
    f_X6_copy_36 G th
  else
  f_X6_copy_36 G th
theorem gm_X6_copy : g_M yX6_copy cX6_copy 7 (some .int) 5 := ⟨tw_4_83, tw_1_5, by decide +kernel, Or.inl (by decide +kernel)⟩
set_option maxHeartbeats 4000000 in
set_option maxRecDepth 100000 in
theorem c_X6_copy {l : Launch} {E : gE} {G : gG} {n : Nat} {th : Nat} {a1 : Int32} {a2 : Int32} {a3 : Int32} {a4 : Int32} {a5 : Int32} {r : Int32} {Gr : gG} (h : f_X6_copy G th a1 a2 a3 a4 a5 = some (r, Gr)) : g_Met l yX6_copy cX6_copy 7 (some .int) rm_X6_copy E G n [.ref th, .int a1, .int a2, .int a3, .int a4, .int a5] (some (.int r)) Gr n := by
  refine g_ofW gm_X6_copy (Nat.le_of_ble_eq_true rfl) ?_
  intro p e s m below meth c ls X hl hI
  have hx := X.1
  have hb := X.2.1
  have X : g_X E G n p s m _ meth c cX6_copy 7 RX6 "copy" (some .int) := X
  have hl : lv_has ls 7 [(0, .ref th), (1, .int a1), (2, .int a2), (3, .int a3), (4, .int a4), (5, .int a5)] := hl
  unfold f_X6_copy at h
  refine lv_aload_n hx hb dX6_copy_0 rfl (lv_at hl 0 rfl) ?_
  refine lv_iload_n hx hb dX6_copy_1 rfl (lv_at hl 1 rfl) ?_
  obtain ⟨cO, h⟩ := gck_s h
  obtain ⟨r1, er1, h⟩ := gb_s h
  refine g_callV X hI (q := (RX6, TX6, 17)) (b := th) (av := [.int a1]) cO rfl (c_X6_isTensor er1) gm_X6_isTensor tw_3_119 tw_3_121 tw_p_22 ⟨by decide, by decide⟩ hl.1 (rest := []) rfl (Nat.le_of_ble_eq_true rfl) dX6_copy_2 ⟨by decide, by decide⟩ (st1 := [.int r1]) rfl (cells' := 0) (slots' := 0) rfl rfl (fun H locs hI => ?_)
  refine lv_if_eq (tgt := 16) hx hb dX6_copy_5 (by decide) (fun c => ?_) (fun c => ?_)
  · have h := g_t _ c h
    refine lv_iconst (v := (-1)) hx hb dX6_copy_16 (by decide) ?_
    obtain ⟨h, h2⟩ := g_sp2 h
    subst h
    subst h2
    exact g_iret X hI dX6_copy_17
  · have h := g_f _ c h
    refine lv_aload_n hx hb dX6_copy_8 rfl (lv_at hl 0 rfl) ?_
    refine lv_iload_n hx hb dX6_copy_9 rfl (lv_at hl 3 rfl) ?_
    obtain ⟨cO, h⟩ := gck_s h
    obtain ⟨r2, er2, h⟩ := gb_s h
    refine g_callV X hI (q := (RX6, TX6, 17)) (b := th) (av := [.int a3]) cO rfl (c_X6_isTensor er2) gm_X6_isTensor tw_3_119 tw_3_121 tw_p_22 ⟨by decide, by decide⟩ hl.1 (rest := []) rfl (Nat.le_of_ble_eq_true rfl) dX6_copy_10 ⟨by decide, by decide⟩ (st1 := [.int r2]) rfl (cells' := 0) (slots' := 0) rfl rfl (fun H locs hI => ?_)
    refine lv_if_ne (tgt := 18) hx hb dX6_copy_13 (by decide) (fun c => ?_) (fun c => ?_)
    · have h := g_f _ c h
      refine lv_aload_n hx hb dX6_copy_18 rfl (lv_at hl 0 rfl) ?_
      obtain ⟨g3, eg3, h⟩ := gb_s h
      refine g_get X hI (g_fA_s eg3) (C := RX6) (T := TX6) (N := 17) rfl gu_X6 (by decide) tw_3_47 dX6_copy_19 ?_
      refine lv_iload_n hx hb dX6_copy_22 rfl (lv_at hl 1 rfl) ?_
      obtain ⟨v4, ev4, h⟩ := gb_s h
      refine g_zald X hI ev4 dX6_copy_23 ?_
      refine lv_if_ne (tgt := 36) hx hb dX6_copy_24 (by decide) (fun c => ?_) (fun c => ?_)
      · have h := g_f _ c h
        exact b_X6_copy_36 X hI h (lv_sub hl [0] rfl)
      · have h := g_t _ c h
        refine lv_aload_n hx hb dX6_copy_27 rfl (lv_at hl 0 rfl) ?_
        obtain ⟨g5, eg5, h⟩ := gb_s h
        refine g_get X hI (g_fA_s eg5) (C := RX6) (T := TX6) (N := 17) rfl gu_X6 (by decide) tw_3_47 dX6_copy_28 ?_
        refine lv_iload_n hx hb dX6_copy_31 rfl (lv_at hl 3 rfl) ?_
        obtain ⟨v6, ev6, h⟩ := gb_s h
        refine g_zald X hI ev6 dX6_copy_32 ?_
        refine lv_if_eq (tgt := 44) hx hb dX6_copy_33 (by decide) (fun c => ?_) (fun c => ?_)
        · have h := g_t _ c h
          refine lv_aload_n hx hb dX6_copy_44 rfl (lv_at hl 0 rfl) ?_
          obtain ⟨g7, eg7, h⟩ := gb_s h
          refine g_get X hI (g_fA_s eg7) (C := RX6) (T := TX6) (N := 17) rfl gu_X6 (by decide) tw_3_43 dX6_copy_45 ?_
          refine lv_iload_n hx hb dX6_copy_48 rfl (lv_at hl 1 rfl) ?_
          obtain ⟨v8, ev8, h⟩ := gb_s h
          refine g_iald X hI ev8 dX6_copy_49 ?_
          refine lv_aload_n hx hb dX6_copy_50 rfl (lv_at hl 0 rfl) ?_
          obtain ⟨g9, eg9, h⟩ := gb_s h
          refine g_get X hI (g_fA_s eg9) (C := RX6) (T := TX6) (N := 17) rfl gu_X6 (by decide) tw_3_43 dX6_copy_51 ?_
          refine lv_iload_n hx hb dX6_copy_54 rfl (lv_at hl 3 rfl) ?_
          obtain ⟨v10, ev10, h⟩ := gb_s h
          refine g_iald X hI ev10 dX6_copy_55 ?_
          refine lv_icmp_eq (tgt := 67) hx hb dX6_copy_56 (by decide) (fun c => ?_) (fun c => ?_)
          · have h := g_t _ c h
            refine lv_iload_n hx hb dX6_copy_67 rfl (lv_at hl 2 rfl) ?_
            refine lv_if_lt (tgt := 116) hx hb dX6_copy_68 (by decide) (fun c => ?_) (fun c => ?_)
            · have h := g_t _ c h
              exact b_X6_copy_116 X hI h (lv_sub hl [0] rfl)
            · have h := g_f _ c h
              refine lv_iload hx hb dX6_copy_71 (lv_at hl 4 rfl) ?_
              refine lv_if_lt (tgt := 116) hx hb dX6_copy_73 (by decide) (fun c => ?_) (fun c => ?_)
              · have h := g_t _ c h
                exact b_X6_copy_116 X hI h (lv_sub hl [0] rfl)
              · have h := g_f _ c h
                refine lv_iload hx hb dX6_copy_76 (lv_at hl 5 rfl) ?_
                refine lv_if_lt (tgt := 116) hx hb dX6_copy_78 (by decide) (fun c => ?_) (fun c => ?_)
                · have h := g_t _ c h
                  exact b_X6_copy_116 X hI h (lv_sub hl [0] rfl)
                · have h := g_f _ c h
                  refine lv_iload_n hx hb dX6_copy_81 rfl (lv_at hl 2 rfl) ?_
                  refine lv_i2l (v := (Int32.toInt64 a2)) hx hb dX6_copy_82 rfl ?_
                  refine lv_iload hx hb dX6_copy_83 (lv_at hl 5 rfl) ?_
                  refine lv_i2l (v := (Int32.toInt64 a5)) hx hb dX6_copy_85 rfl ?_
                  refine lv_ladd (x := (Int32.toInt64 a2)) (y := (Int32.toInt64 a5)) hx hb dX6_copy_86 ?_
                  refine lv_aload_n hx hb dX6_copy_87 rfl (lv_at hl 0 rfl) ?_
                  obtain ⟨g11, eg11, h⟩ := gb_s h
                  refine g_get X hI (g_fA_s eg11) (C := RX6) (T := TX6) (N := 17) rfl gu_X6 (by decide) tw_3_46 dX6_copy_88 ?_
                  refine lv_iload_n hx hb dX6_copy_91 rfl (lv_at hl 1 rfl) ?_
                  obtain ⟨v12, ev12, h⟩ := gb_s h
                  refine g_iald X hI ev12 dX6_copy_92 ?_
                  refine lv_i2l (v := (Int32.toInt64 v12)) hx hb dX6_copy_93 rfl ?_
                  refine W.lcmp hx hb dX6_copy_94 ?_
                  refine lv_if_gt (tgt := 116) hx hb dX6_copy_95 (by decide) (fun c => ?_) (fun c => ?_)
                  · have h := g_t _ ((lg_cmp_gt _ _).mp c) h
                    exact b_X6_copy_116 X hI h (lv_sub hl [0] rfl)
                  · have h := g_f _ (fun q => c ((lg_cmp_gt _ _).mpr q)) h
                    refine lv_iload hx hb dX6_copy_98 (lv_at hl 4 rfl) ?_
                    refine lv_i2l (v := (Int32.toInt64 a4)) hx hb dX6_copy_100 rfl ?_
                    refine lv_iload hx hb dX6_copy_101 (lv_at hl 5 rfl) ?_
                    refine lv_i2l (v := (Int32.toInt64 a5)) hx hb dX6_copy_103 rfl ?_
                    refine lv_ladd (x := (Int32.toInt64 a4)) (y := (Int32.toInt64 a5)) hx hb dX6_copy_104 ?_
                    refine lv_aload_n hx hb dX6_copy_105 rfl (lv_at hl 0 rfl) ?_
                    obtain ⟨g13, eg13, h⟩ := gb_s h
                    refine g_get X hI (g_fA_s eg13) (C := RX6) (T := TX6) (N := 17) rfl gu_X6 (by decide) tw_3_46 dX6_copy_106 ?_
                    refine lv_iload_n hx hb dX6_copy_109 rfl (lv_at hl 3 rfl) ?_
                    obtain ⟨v14, ev14, h⟩ := gb_s h
                    refine g_iald X hI ev14 dX6_copy_110 ?_
                    refine lv_i2l (v := (Int32.toInt64 v14)) hx hb dX6_copy_111 rfl ?_
                    refine W.lcmp hx hb dX6_copy_112 ?_
                    refine lv_if_le (tgt := 124) hx hb dX6_copy_113 (by decide) (fun c => ?_) (fun c => ?_)
                    · have h := g_t _ ((lg_cmp_le _ _).mp c) h
                      refine lv_iconst (v := 0) hx hb dX6_copy_124 (by decide) ?_
                      refine lv_istore (lv' := [(6, .int 0), (0, .ref th), (1, .int a1), (2, .int a2), (3, .int a3), (4, .int a4), (5, .int a5)]) hx hb dX6_copy_125 hl (by decide) rfl (fun ls hl => ?_)
                      exact b_X6_copy_127 X 5000 hI h (lv_sub hl [1, 2, 3, 4, 5, 6, 0] rfl)
                    · have h := g_f _ (fun q => c ((lg_cmp_le _ _).mpr q)) h
                      exact b_X6_copy_116 X hI h (lv_sub hl [0] rfl)
          · have h := g_f _ c h
            refine lv_aload_n hx hb dX6_copy_59 rfl (lv_at hl 0 rfl) ?_
            refine lv_iconst (v := 4) hx hb dX6_copy_60 (by decide) ?_
            refine lv_bipush (v := (-3)) hx hb dX6_copy_61 (by decide) ?_
            obtain ⟨cO, h⟩ := gck_s h
            obtain ⟨r15, G16, er15, h⟩ := gb2_s h
            refine g_callV X hI (q := (RX6, TX6, 17)) (b := th) (av := [.int 4, .int (-3)]) cO rfl (c_X6_fails er15) gm_X6_fails tw_3_111 tw_3_113 tw_p_21 ⟨by decide, by decide⟩ hl.1 (rest := []) rfl (Nat.le_of_ble_eq_true rfl) dX6_copy_63 ⟨by decide, by decide⟩ (st1 := [.int r15]) rfl (cells' := 0) (slots' := 0) rfl rfl (fun H locs hI => ?_)
            obtain ⟨h, h2⟩ := g_sp2 h
            subst h
            subst h2
            exact g_iret X hI dX6_copy_66
        · have h := g_f _ c h
          exact b_X6_copy_36 X hI h (lv_sub hl [0] rfl)
    · have h := g_t _ c h
      refine lv_iconst (v := (-1)) hx hb dX6_copy_16 (by decide) ?_
      obtain ⟨h, h2⟩ := g_sp2 h
      subst h
      subst h2
      exact g_iret X hI dX6_copy_17
abbrev rm_X6_same : Room := { frames := 2, cells := 0, slots := 0, locals := 46 }
def f_X6_same_182 (G : gG) (x3 : Int32) : Option (Int32 × gG) :=
  if x3 = 0 then
    some (0, G)
  else
  some (1, G)
set_option maxHeartbeats 4000000 in
set_option maxRecDepth 100000 in
theorem b_X6_same_182 {p : Program} {l : Launch} {e : Env} {s : State} {m : MethodId} {args : Array Value} {below : List Frame} {meth : Method} {c : Code} {E : gE} {G0 : gG} {n0 : Nat} (X : g_X E G0 n0 p s m args meth c cX6_same 5 RX6 "same" (some .int)) {G : gG} {n : Nat} {r : Int32} {Gr : gG} {H : Heap} {locs : List Loc} (hI : g_I E (g_A G0 n0) G n s.heap H locs) {x3 : Int32} (h : f_X6_same_182 G x3 = some (r, Gr)) {ls : Array Slot} (hl : lv_has ls 5 [(3, .int x3)]) : W p l e rm_X6_same s m args below meth c H locs 0 0 (MQ below (g_Q E G0 n0 (some (.int r)) Gr n) args s rm_X6_same.cells rm_X6_same.slots (g_A G0 n0)) (F0 m 182 ls []) := by
  have hx := X.1
  have hb := X.2.1
  unfold f_X6_same_182 at h
  refine lv_iload_n hx hb dX6_same_182 rfl (lv_at hl 0 rfl) ?_
  refine lv_if_eq (tgt := 190) hx hb dX6_same_183 (by decide) (fun c => ?_) (fun c => ?_)
  · have h := g_t _ c h
    refine lv_iconst (v := 0) hx hb dX6_same_190 (by decide) ?_
    obtain ⟨h, h2⟩ := g_sp2 h
    subst h
    subst h2
    exact g_iret X hI dX6_same_191
  · have h := g_f _ c h
    refine lv_iconst (v := 1) hx hb dX6_same_186 (by decide) ?_
    refine lv_goto (tgt := 191) hx hb dX6_same_187 (by decide) ?_
    obtain ⟨h, h2⟩ := g_sp2 h
    subst h
    subst h2
    exact g_iret X hI dX6_same_191
def f_X6_same_175 (k125 : gG → Nat → Int32 → Int32 → Int32 → Int32 → Option (Int32 × gG)) (G : gG) (x0 : Nat) (x1 : Int32) (x2 : Int32) (x4 : Int32) (s0 : Int32) : Option (Int32 × gG) :=
  gl (x4 + 1 : Int32) fun v1 =>
  k125 G x0 x1 x2 s0 v1
set_option maxHeartbeats 4000000 in
set_option maxRecDepth 100000 in
theorem b_X6_same_175 {p : Program} {l : Launch} {e : Env} {s : State} {m : MethodId} {args : Array Value} {below : List Frame} {meth : Method} {c : Code} {E : gE} {G0 : gG} {n0 : Nat} (X : g_X E G0 n0 p s m args meth c cX6_same 5 RX6 "same" (some .int)) {G : gG} {n : Nat} {r : Int32} {Gr : gG} {k125 : gG → Nat → Int32 → Int32 → Int32 → Int32 → Option (Int32 × gG)} (hk125 : ∀ {G : gG} {H : Heap} {locs : List Loc} (_ : g_I E (g_A G0 n0) G n s.heap H locs) {x0 : Nat} {x1 : Int32} {x2 : Int32} {x3 : Int32} {x4 : Int32}  (_ : k125 G x0 x1 x2 x3 x4 = some (r, Gr)) {ls : Array Slot} (_ : lv_has ls 5 [(0, .ref x0), (1, .int x1), (2, .int x2), (3, .int x3), (4, .int x4)]), W p l e rm_X6_same s m args below meth c H locs 0 0 (MQ below (g_Q E G0 n0 (some (.int r)) Gr n) args s rm_X6_same.cells rm_X6_same.slots (g_A G0 n0)) (F0 m 125 ls [])) {H : Heap} {locs : List Loc} (hI : g_I E (g_A G0 n0) G n s.heap H locs) {x0 : Nat} {x1 : Int32} {x2 : Int32} {x4 : Int32} {s0 : Int32} (h : f_X6_same_175 k125 G x0 x1 x2 x4 s0 = some (r, Gr)) {ls : Array Slot} (hl : lv_has ls 5 [(0, .ref x0), (1, .int x1), (2, .int x2), (4, .int x4)]) : W p l e rm_X6_same s m args below meth c H locs 0 0 (MQ below (g_Q E G0 n0 (some (.int r)) Gr n) args s rm_X6_same.cells rm_X6_same.slots (g_A G0 n0)) (F0 m 175 ls [.int s0]) := by
  have hx := X.1
  have hb := X.2.1
  unfold f_X6_same_175 at h
  refine lv_istore_n (lv' := [(3, .int s0), (0, .ref x0), (1, .int x1), (2, .int x2), (4, .int x4)]) hx hb dX6_same_175 rfl hl (by decide) rfl (fun ls hl => ?_)
  obtain ⟨v1, ev1, h⟩ := gl_s h
  refine lv_iinc (v := v1) (lv' := [(4, .int v1), (3, .int s0), (0, .ref x0), (1, .int x1), (2, .int x2)]) hx hb dX6_same_176 hl (k := 4) rfl (by rw [← ev1]; rfl) (by decide) rfl (fun ls hl => ?_)
  refine lv_goto (tgt := 125) hx hb dX6_same_179 (by decide) ?_
  exact hk125 hI h (lv_sub hl [2, 3, 4, 1, 0] rfl)
def f_X6_same_125 : Nat → gG → Nat → Int32 → Int32 → Int32 → Int32 → Option (Int32 × gG)
  | 0, _, _, _, _, _, _ => none
  | fu + 1, G, x0, x1, x2, x3, x4 =>
    gb (g_fA G x0 5 4) fun g1 =>
    gb (g_il G g1 x1) fun v2 =>
    if v2 ≤ x4 then
      f_X6_same_182 G x3
    else
    if x3 = 0 then
      f_X6_same_182 G x3
    else
    gb (g_fA G x0 5 6) fun g3 =>
    gb (g_ll G g3 (((240 : Int32) * x1) + x4)) fun v4 =>
    gb (g_fA G x0 5 6) fun g5 =>
    gb (g_ll G g5 (((240 : Int32) * x2) + x4)) fun v6 =>
    if v4 = v6 then
      f_X6_same_175 (f_X6_same_125 fu) G x0 x1 x2 x4 1
    else
    f_X6_same_175 (f_X6_same_125 fu) G x0 x1 x2 x4 0
set_option maxHeartbeats 4000000 in
set_option maxRecDepth 100000 in
theorem b_X6_same_125 {p : Program} {l : Launch} {e : Env} {s : State} {m : MethodId} {args : Array Value} {below : List Frame} {meth : Method} {c : Code} {E : gE} {G0 : gG} {n0 : Nat} (X : g_X E G0 n0 p s m args meth c cX6_same 5 RX6 "same" (some .int)) {n : Nat} {r : Int32} {Gr : gG} (fu : Nat) : ∀ {G : gG} {H : Heap} {locs : List Loc} (_ : g_I E (g_A G0 n0) G n s.heap H locs) {x0 : Nat} {x1 : Int32} {x2 : Int32} {x3 : Int32} {x4 : Int32} (_ : f_X6_same_125 fu G x0 x1 x2 x3 x4 = some (r, Gr)) {ls : Array Slot} (_ : lv_has ls 5 [(0, .ref x0), (1, .int x1), (2, .int x2), (3, .int x3), (4, .int x4)]), W p l e rm_X6_same s m args below meth c H locs 0 0 (MQ below (g_Q E G0 n0 (some (.int r)) Gr n) args s rm_X6_same.cells rm_X6_same.slots (g_A G0 n0)) (F0 m 125 ls []) := by
  have hx := X.1
  have hb := X.2.1
  induction fu with
  | zero =>
    intro G H locs hI x0 x1 x2 x3 x4 h ls hl
    rw [f_X6_same_125] at h
    cases h
  | succ fu ih =>
    intro G H locs hI x0 x1 x2 x3 x4 h ls hl
    rw [f_X6_same_125] at h
    refine lv_iload hx hb dX6_same_125 (lv_at hl 4 rfl) ?_
    refine lv_aload_n hx hb dX6_same_127 rfl (lv_at hl 0 rfl) ?_
    obtain ⟨g1, eg1, h⟩ := gb_s h
    refine g_get X hI (g_fA_s eg1) (C := RX6) (T := TX6) (N := 17) rfl gu_X6 (by decide) tw_3_46 dX6_same_128 ?_
    refine lv_iload_n hx hb dX6_same_131 rfl (lv_at hl 1 rfl) ?_
    obtain ⟨v2, ev2, h⟩ := gb_s h
    refine g_iald X hI ev2 dX6_same_132 ?_
    refine lv_icmp_ge (tgt := 182) hx hb dX6_same_133 (by decide) (fun c => ?_) (fun c => ?_)
    · have h := g_t _ c h
      exact b_X6_same_182 X hI h (lv_sub hl [3] rfl)
    · have h := g_f _ c h
      refine lv_iload_n hx hb dX6_same_136 rfl (lv_at hl 3 rfl) ?_
      refine lv_if_eq (tgt := 182) hx hb dX6_same_137 (by decide) (fun c => ?_) (fun c => ?_)
      · have h := g_t _ c h
        exact b_X6_same_182 X hI h (lv_sub hl [3] rfl)
      · have h := g_f _ c h
        refine lv_aload_n hx hb dX6_same_140 rfl (lv_at hl 0 rfl) ?_
        obtain ⟨g3, eg3, h⟩ := gb_s h
        refine g_get X hI (g_fA_s eg3) (C := RX6) (T := TX6) (N := 17) rfl gu_X6 (by decide) tw_3_48 dX6_same_141 ?_
        refine lv_sipush (v := 240) hx hb dX6_same_144 (by decide) ?_
        refine lv_iload_n hx hb dX6_same_147 rfl (lv_at hl 1 rfl) ?_
        refine lv_imul (x := 240) (y := x1) hx hb dX6_same_148 ?_
        refine lv_iload hx hb dX6_same_149 (lv_at hl 4 rfl) ?_
        refine lv_iadd (x := ((240 : Int32) * x1)) (y := x4) hx hb dX6_same_151 ?_
        obtain ⟨v4, ev4, h⟩ := gb_s h
        refine g_lald X hI ev4 dX6_same_152 ?_
        refine lv_aload_n hx hb dX6_same_153 rfl (lv_at hl 0 rfl) ?_
        obtain ⟨g5, eg5, h⟩ := gb_s h
        refine g_get X hI (g_fA_s eg5) (C := RX6) (T := TX6) (N := 17) rfl gu_X6 (by decide) tw_3_48 dX6_same_154 ?_
        refine lv_sipush (v := 240) hx hb dX6_same_157 (by decide) ?_
        refine lv_iload_n hx hb dX6_same_160 rfl (lv_at hl 2 rfl) ?_
        refine lv_imul (x := 240) (y := x2) hx hb dX6_same_161 ?_
        refine lv_iload hx hb dX6_same_162 (lv_at hl 4 rfl) ?_
        refine lv_iadd (x := ((240 : Int32) * x2)) (y := x4) hx hb dX6_same_164 ?_
        obtain ⟨v6, ev6, h⟩ := gb_s h
        refine g_lald X hI ev6 dX6_same_165 ?_
        refine W.lcmp hx hb dX6_same_166 ?_
        refine lv_if_ne (tgt := 174) hx hb dX6_same_167 (by decide) (fun c => ?_) (fun c => ?_)
        · have h := g_f _ ((not_congr (lg_cmp_eq _ _)).mp c) h
          refine lv_iconst (v := 0) hx hb dX6_same_174 (by decide) ?_
          exact b_X6_same_175 X ih hI h (lv_sub hl [0, 1, 2, 4] rfl)
        · have h := g_t _ ((lg_cmp_eq _ _).mp c) h
          refine lv_iconst (v := 1) hx hb dX6_same_170 (by decide) ?_
          refine lv_goto (tgt := 175) hx hb dX6_same_171 (by decide) ?_
          exact b_X6_same_175 X ih hI h (lv_sub hl [0, 1, 2, 4] rfl)
def f_X6_same_115 (k83 : gG → Nat → Int32 → Int32 → Int32 → Int32 → Option (Int32 × gG)) (G : gG) (x0 : Nat) (x1 : Int32) (x2 : Int32) (x4 : Int32) (s0 : Int32) : Option (Int32 × gG) :=
  gl (x4 + 1 : Int32) fun v1 =>
  k83 G x0 x1 x2 s0 v1
set_option maxHeartbeats 4000000 in
set_option maxRecDepth 100000 in
theorem b_X6_same_115 {p : Program} {l : Launch} {e : Env} {s : State} {m : MethodId} {args : Array Value} {below : List Frame} {meth : Method} {c : Code} {E : gE} {G0 : gG} {n0 : Nat} (X : g_X E G0 n0 p s m args meth c cX6_same 5 RX6 "same" (some .int)) {G : gG} {n : Nat} {r : Int32} {Gr : gG} {k83 : gG → Nat → Int32 → Int32 → Int32 → Int32 → Option (Int32 × gG)} (hk83 : ∀ {G : gG} {H : Heap} {locs : List Loc} (_ : g_I E (g_A G0 n0) G n s.heap H locs) {x0 : Nat} {x1 : Int32} {x2 : Int32} {x3 : Int32} {x4 : Int32}  (_ : k83 G x0 x1 x2 x3 x4 = some (r, Gr)) {ls : Array Slot} (_ : lv_has ls 5 [(0, .ref x0), (1, .int x1), (2, .int x2), (3, .int x3), (4, .int x4)]), W p l e rm_X6_same s m args below meth c H locs 0 0 (MQ below (g_Q E G0 n0 (some (.int r)) Gr n) args s rm_X6_same.cells rm_X6_same.slots (g_A G0 n0)) (F0 m 83 ls [])) {H : Heap} {locs : List Loc} (hI : g_I E (g_A G0 n0) G n s.heap H locs) {x0 : Nat} {x1 : Int32} {x2 : Int32} {x4 : Int32} {s0 : Int32} (h : f_X6_same_115 k83 G x0 x1 x2 x4 s0 = some (r, Gr)) {ls : Array Slot} (hl : lv_has ls 5 [(0, .ref x0), (1, .int x1), (2, .int x2), (4, .int x4)]) : W p l e rm_X6_same s m args below meth c H locs 0 0 (MQ below (g_Q E G0 n0 (some (.int r)) Gr n) args s rm_X6_same.cells rm_X6_same.slots (g_A G0 n0)) (F0 m 115 ls [.int s0]) := by
  have hx := X.1
  have hb := X.2.1
  unfold f_X6_same_115 at h
  refine lv_istore_n (lv' := [(3, .int s0), (0, .ref x0), (1, .int x1), (2, .int x2), (4, .int x4)]) hx hb dX6_same_115 rfl hl (by decide) rfl (fun ls hl => ?_)
  obtain ⟨v1, ev1, h⟩ := gl_s h
  refine lv_iinc (v := v1) (lv' := [(4, .int v1), (3, .int s0), (0, .ref x0), (1, .int x1), (2, .int x2)]) hx hb dX6_same_116 hl (k := 4) rfl (by rw [← ev1]; rfl) (by decide) rfl (fun ls hl => ?_)
  refine lv_goto (tgt := 83) hx hb dX6_same_119 (by decide) ?_
  exact hk83 hI h (lv_sub hl [2, 3, 4, 1, 0] rfl)
def f_X6_same_114 (k83 : gG → Nat → Int32 → Int32 → Int32 → Int32 → Option (Int32 × gG)) (G : gG) (x0 : Nat) (x1 : Int32) (x2 : Int32) (x4 : Int32) : Option (Int32 × gG) :=
  f_X6_same_115 k83 G x0 x1 x2 x4 0
set_option maxHeartbeats 4000000 in
set_option maxRecDepth 100000 in
theorem b_X6_same_114 {p : Program} {l : Launch} {e : Env} {s : State} {m : MethodId} {args : Array Value} {below : List Frame} {meth : Method} {c : Code} {E : gE} {G0 : gG} {n0 : Nat} (X : g_X E G0 n0 p s m args meth c cX6_same 5 RX6 "same" (some .int)) {G : gG} {n : Nat} {r : Int32} {Gr : gG} {k83 : gG → Nat → Int32 → Int32 → Int32 → Int32 → Option (Int32 × gG)} (hk83 : ∀ {G : gG} {H : Heap} {locs : List Loc} (_ : g_I E (g_A G0 n0) G n s.heap H locs) {x0 : Nat} {x1 : Int32} {x2 : Int32} {x3 : Int32} {x4 : Int32}  (_ : k83 G x0 x1 x2 x3 x4 = some (r, Gr)) {ls : Array Slot} (_ : lv_has ls 5 [(0, .ref x0), (1, .int x1), (2, .int x2), (3, .int x3), (4, .int x4)]), W p l e rm_X6_same s m args below meth c H locs 0 0 (MQ below (g_Q E G0 n0 (some (.int r)) Gr n) args s rm_X6_same.cells rm_X6_same.slots (g_A G0 n0)) (F0 m 83 ls [])) {H : Heap} {locs : List Loc} (hI : g_I E (g_A G0 n0) G n s.heap H locs) {x0 : Nat} {x1 : Int32} {x2 : Int32} {x4 : Int32} (h : f_X6_same_114 k83 G x0 x1 x2 x4 = some (r, Gr)) {ls : Array Slot} (hl : lv_has ls 5 [(0, .ref x0), (1, .int x1), (2, .int x2), (4, .int x4)]) : W p l e rm_X6_same s m args below meth c H locs 0 0 (MQ below (g_Q E G0 n0 (some (.int r)) Gr n) args s rm_X6_same.cells rm_X6_same.slots (g_A G0 n0)) (F0 m 114 ls []) := by
  have hx := X.1
  have hb := X.2.1
  unfold f_X6_same_114 at h
  refine lv_iconst (v := 0) hx hb dX6_same_114 (by decide) ?_
  exact b_X6_same_115 X hk83 hI h (lv_sub hl [0, 1, 2, 3] rfl)
def f_X6_same_83 : Nat → gG → Nat → Int32 → Int32 → Int32 → Int32 → Option (Int32 × gG)
  | 0, _, _, _, _, _, _ => none
  | fu + 1, G, x0, x1, x2, x3, x4 =>
    if (3 : Int32) ≤ x4 then
      f_X6_same_125 5000 G x0 x1 x2 x3 0
    else
    if x3 = 0 then
      f_X6_same_114 (f_X6_same_83 fu) G x0 x1 x2 x4
    else
    gck (g_isO G x0 5) <|
    gb (f_X6_extent G x0 x1 x4) fun r1 =>
    gck (g_isO G x0 5) <|
    gb (f_X6_extent G x0 x2 x4) fun r2 =>
    if r1 = r2 then
      f_X6_same_115 (f_X6_same_83 fu) G x0 x1 x2 x4 1
    else
    f_X6_same_114 (f_X6_same_83 fu) G x0 x1 x2 x4
set_option maxHeartbeats 4000000 in
set_option maxRecDepth 100000 in
theorem b_X6_same_83 {p : Program} {l : Launch} {e : Env} {s : State} {m : MethodId} {args : Array Value} {below : List Frame} {meth : Method} {c : Code} {E : gE} {G0 : gG} {n0 : Nat} (X : g_X E G0 n0 p s m args meth c cX6_same 5 RX6 "same" (some .int)) {n : Nat} {r : Int32} {Gr : gG} (fu : Nat) : ∀ {G : gG} {H : Heap} {locs : List Loc} (_ : g_I E (g_A G0 n0) G n s.heap H locs) {x0 : Nat} {x1 : Int32} {x2 : Int32} {x3 : Int32} {x4 : Int32} (_ : f_X6_same_83 fu G x0 x1 x2 x3 x4 = some (r, Gr)) {ls : Array Slot} (_ : lv_has ls 5 [(0, .ref x0), (1, .int x1), (2, .int x2), (3, .int x3), (4, .int x4)]), W p l e rm_X6_same s m args below meth c H locs 0 0 (MQ below (g_Q E G0 n0 (some (.int r)) Gr n) args s rm_X6_same.cells rm_X6_same.slots (g_A G0 n0)) (F0 m 83 ls []) := by
  have hx := X.1
  have hb := X.2.1
  induction fu with
  | zero =>
    intro G H locs hI x0 x1 x2 x3 x4 h ls hl
    rw [f_X6_same_83] at h
    cases h
  | succ fu ih =>
    intro G H locs hI x0 x1 x2 x3 x4 h ls hl
    rw [f_X6_same_83] at h
    refine lv_iload hx hb dX6_same_83 (lv_at hl 4 rfl) ?_
    refine lv_iconst (v := 3) hx hb dX6_same_85 (by decide) ?_
    refine lv_icmp_ge (tgt := 122) hx hb dX6_same_86 (by decide) (fun c => ?_) (fun c => ?_)
    · have h := g_t _ c h
      refine lv_iconst (v := 0) hx hb dX6_same_122 (by decide) ?_
      refine lv_istore (lv' := [(4, .int 0), (0, .ref x0), (1, .int x1), (2, .int x2), (3, .int x3)]) hx hb dX6_same_123 hl (by decide) rfl (fun ls hl => ?_)
      exact b_X6_same_125 X 5000 hI h (lv_sub hl [1, 2, 3, 4, 0] rfl)
    · have h := g_f _ c h
      refine lv_iload_n hx hb dX6_same_89 rfl (lv_at hl 3 rfl) ?_
      refine lv_if_eq (tgt := 114) hx hb dX6_same_90 (by decide) (fun c => ?_) (fun c => ?_)
      · have h := g_t _ c h
        exact b_X6_same_114 X ih hI h (lv_sub hl [0, 1, 2, 4] rfl)
      · have h := g_f _ c h
        refine lv_aload_n hx hb dX6_same_93 rfl (lv_at hl 0 rfl) ?_
        refine lv_iload_n hx hb dX6_same_94 rfl (lv_at hl 1 rfl) ?_
        refine lv_iload hx hb dX6_same_95 (lv_at hl 4 rfl) ?_
        obtain ⟨cO, h⟩ := gck_s h
        obtain ⟨r1, er1, h⟩ := gb_s h
        refine g_callV X hI (q := (RX6, TX6, 17)) (b := x0) (av := [.int x1, .int x4]) cO rfl (c_X6_extent er1) gm_X6_extent tw_3_179 tw_3_181 tw_p_26 ⟨by decide, by decide⟩ hl.1 (rest := []) rfl (Nat.le_of_ble_eq_true rfl) dX6_same_97 ⟨by decide, by decide⟩ (st1 := [.int r1]) rfl (cells' := 0) (slots' := 0) rfl rfl (fun H locs hI => ?_)
        refine lv_aload_n hx hb dX6_same_100 rfl (lv_at hl 0 rfl) ?_
        refine lv_iload_n hx hb dX6_same_101 rfl (lv_at hl 2 rfl) ?_
        refine lv_iload hx hb dX6_same_102 (lv_at hl 4 rfl) ?_
        obtain ⟨cO, h⟩ := gck_s h
        obtain ⟨r2, er2, h⟩ := gb_s h
        refine g_callV X hI (q := (RX6, TX6, 17)) (b := x0) (av := [.int x2, .int x4]) cO rfl (c_X6_extent er2) gm_X6_extent tw_3_179 tw_3_181 tw_p_26 ⟨by decide, by decide⟩ hl.1 (rest := [.int r1]) rfl (Nat.le_of_ble_eq_true rfl) dX6_same_104 ⟨by decide, by decide⟩ (st1 := [.int r2, .int r1]) rfl (cells' := 0) (slots' := 0) rfl rfl (fun H locs hI => ?_)
        refine lv_icmp_ne (tgt := 114) hx hb dX6_same_107 (by decide) (fun c => ?_) (fun c => ?_)
        · have h := g_f _ c h
          exact b_X6_same_114 X ih hI h (lv_sub hl [0, 1, 2, 4] rfl)
        · have h := g_t _ c h
          refine lv_iconst (v := 1) hx hb dX6_same_110 (by decide) ?_
          refine lv_goto (tgt := 115) hx hb dX6_same_111 (by decide) ?_
          exact b_X6_same_115 X ih hI h (lv_sub hl [0, 1, 2, 4] rfl)
def f_X6_same_79 (G : gG) (x0 : Nat) (x1 : Int32) (x2 : Int32) (s0 : Int32) : Option (Int32 × gG) :=
  f_X6_same_83 5000 G x0 x1 x2 s0 0
set_option maxHeartbeats 4000000 in
set_option maxRecDepth 100000 in
theorem b_X6_same_79 {p : Program} {l : Launch} {e : Env} {s : State} {m : MethodId} {args : Array Value} {below : List Frame} {meth : Method} {c : Code} {E : gE} {G0 : gG} {n0 : Nat} (X : g_X E G0 n0 p s m args meth c cX6_same 5 RX6 "same" (some .int)) {G : gG} {n : Nat} {r : Int32} {Gr : gG} {H : Heap} {locs : List Loc} (hI : g_I E (g_A G0 n0) G n s.heap H locs) {x0 : Nat} {x1 : Int32} {x2 : Int32} {s0 : Int32} (h : f_X6_same_79 G x0 x1 x2 s0 = some (r, Gr)) {ls : Array Slot} (hl : lv_has ls 5 [(0, .ref x0), (1, .int x1), (2, .int x2)]) : W p l e rm_X6_same s m args below meth c H locs 0 0 (MQ below (g_Q E G0 n0 (some (.int r)) Gr n) args s rm_X6_same.cells rm_X6_same.slots (g_A G0 n0)) (F0 m 79 ls [.int s0]) := by
  have hx := X.1
  have hb := X.2.1
  unfold f_X6_same_79 at h
  refine lv_istore_n (lv' := [(3, .int s0), (0, .ref x0), (1, .int x1), (2, .int x2)]) hx hb dX6_same_79 rfl hl (by decide) rfl (fun ls hl => ?_)
  refine lv_iconst (v := 0) hx hb dX6_same_80 (by decide) ?_
  refine lv_istore (lv' := [(4, .int 0), (3, .int s0), (0, .ref x0), (1, .int x1), (2, .int x2)]) hx hb dX6_same_81 hl (by decide) rfl (fun ls hl => ?_)
  exact b_X6_same_83 X 5000 hI h (lv_sub hl [2, 3, 4, 1, 0] rfl)
def f_X6_same_78 (G : gG) (x0 : Nat) (x1 : Int32) (x2 : Int32) : Option (Int32 × gG) :=
  f_X6_same_79 G x0 x1 x2 0
set_option maxHeartbeats 4000000 in
set_option maxRecDepth 100000 in
theorem b_X6_same_78 {p : Program} {l : Launch} {e : Env} {s : State} {m : MethodId} {args : Array Value} {below : List Frame} {meth : Method} {c : Code} {E : gE} {G0 : gG} {n0 : Nat} (X : g_X E G0 n0 p s m args meth c cX6_same 5 RX6 "same" (some .int)) {G : gG} {n : Nat} {r : Int32} {Gr : gG} {H : Heap} {locs : List Loc} (hI : g_I E (g_A G0 n0) G n s.heap H locs) {x0 : Nat} {x1 : Int32} {x2 : Int32} (h : f_X6_same_78 G x0 x1 x2 = some (r, Gr)) {ls : Array Slot} (hl : lv_has ls 5 [(0, .ref x0), (1, .int x1), (2, .int x2)]) : W p l e rm_X6_same s m args below meth c H locs 0 0 (MQ below (g_Q E G0 n0 (some (.int r)) Gr n) args s rm_X6_same.cells rm_X6_same.slots (g_A G0 n0)) (F0 m 78 ls []) := by
  have hx := X.1
  have hb := X.2.1
  unfold f_X6_same_78 at h
  refine lv_iconst (v := 0) hx hb dX6_same_78 (by decide) ?_
  exact b_X6_same_79 X hI h (lv_sub hl [0, 1, 2] rfl)
def f_X6_same_36 (G : gG) (x0 : Nat) : Option (Int32 × gG) :=
  gck (g_isO G x0 5) <|
  gb2 (f_X6_fails G x0 (1 : Int32) (-3 : Int32)) fun r1 G2 =>
  some (r1, G2)
set_option maxHeartbeats 4000000 in
set_option maxRecDepth 100000 in
theorem b_X6_same_36 {p : Program} {l : Launch} {e : Env} {s : State} {m : MethodId} {args : Array Value} {below : List Frame} {meth : Method} {c : Code} {E : gE} {G0 : gG} {n0 : Nat} (X : g_X E G0 n0 p s m args meth c cX6_same 5 RX6 "same" (some .int)) {G : gG} {n : Nat} {r : Int32} {Gr : gG} {H : Heap} {locs : List Loc} (hI : g_I E (g_A G0 n0) G n s.heap H locs) {x0 : Nat} (h : f_X6_same_36 G x0 = some (r, Gr)) {ls : Array Slot} (hl : lv_has ls 5 [(0, .ref x0)]) : W p l e rm_X6_same s m args below meth c H locs 0 0 (MQ below (g_Q E G0 n0 (some (.int r)) Gr n) args s rm_X6_same.cells rm_X6_same.slots (g_A G0 n0)) (F0 m 36 ls []) := by
  have hx := X.1
  have hb := X.2.1
  unfold f_X6_same_36 at h
  refine lv_aload_n hx hb dX6_same_36 rfl (lv_at hl 0 rfl) ?_
  refine lv_iconst (v := 1) hx hb dX6_same_37 (by decide) ?_
  refine lv_bipush (v := (-3)) hx hb dX6_same_38 (by decide) ?_
  obtain ⟨cO, h⟩ := gck_s h
  obtain ⟨r1, G2, er1, h⟩ := gb2_s h
  refine g_callV X hI (q := (RX6, TX6, 17)) (b := x0) (av := [.int 1, .int (-3)]) cO rfl (c_X6_fails er1) gm_X6_fails tw_3_111 tw_3_113 tw_p_21 ⟨by decide, by decide⟩ hl.1 (rest := []) rfl (Nat.le_of_ble_eq_true rfl) dX6_same_40 ⟨by decide, by decide⟩ (st1 := [.int r1]) rfl (cells' := 0) (slots' := 0) rfl rfl (fun H locs hI => ?_)
  obtain ⟨h, h2⟩ := g_sp2 h
  subst h
  subst h2
  exact g_iret X hI dX6_same_43
def f_X6_same (G : gG) (th : Nat) (a1 : Int32) (a2 : Int32) : Option (Int32 × gG) :=
  gck (g_isO G th 5) <|
  gb (f_X6_isTensor G th a1) fun r1 =>
  if r1 = 0 then
    some ((-1), G)
  else
  gck (g_isO G th 5) <|
  gb (f_X6_isTensor G th a2) fun r2 =>
  if r2 = 0 then
    some ((-1), G)
  else
  gb (g_fA G th 5 5) fun g3 =>
  gb (g_zl G g3 a1) fun v4 =>
  if v4 = 0 then
    gb (g_fA G th 5 5) fun g5 =>
    gb (g_zl G g5 a2) fun v6 =>
    if v6 = 0 then
      gb (g_fA G th 5 1) fun g7 =>
      gb (g_il G g7 a1) fun v8 =>
      gb (g_fA G th 5 1) fun g9 =>
      gb (g_il G g9 a2) fun v10 =>
      if v8 = v10 then
        gb (g_fA G th 5 2) fun g11 =>
        gb (g_il G g11 a1) fun v12 =>
        gb (g_fA G th 5 2) fun g13 =>
        gb (g_il G g13 a2) fun v14 =>
        if v12 = v14 then
          f_X6_same_79 G th a1 a2 1
        else
        f_X6_same_78 G th a1 a2
      else
      f_X6_same_78 G th a1 a2
    else
    f_X6_same_36 G th
  else
  f_X6_same_36 G th
theorem gm_X6_same : g_M yX6_same cX6_same 5 (some .int) 2 := ⟨tw_4_87, tw_1_5, by decide +kernel, Or.inl (by decide +kernel)⟩
set_option maxHeartbeats 4000000 in
set_option maxRecDepth 100000 in
theorem c_X6_same {l : Launch} {E : gE} {G : gG} {n : Nat} {th : Nat} {a1 : Int32} {a2 : Int32} {r : Int32} {Gr : gG} (h : f_X6_same G th a1 a2 = some (r, Gr)) : g_Met l yX6_same cX6_same 5 (some .int) rm_X6_same E G n [.ref th, .int a1, .int a2] (some (.int r)) Gr n := by
  refine g_ofW gm_X6_same (Nat.le_of_ble_eq_true rfl) ?_
  intro p e s m below meth c ls X hl hI
  have hx := X.1
  have hb := X.2.1
  have X : g_X E G n p s m _ meth c cX6_same 5 RX6 "same" (some .int) := X
  have hl : lv_has ls 5 [(0, .ref th), (1, .int a1), (2, .int a2)] := hl
  unfold f_X6_same at h
  refine lv_aload_n hx hb dX6_same_0 rfl (lv_at hl 0 rfl) ?_
  refine lv_iload_n hx hb dX6_same_1 rfl (lv_at hl 1 rfl) ?_
  obtain ⟨cO, h⟩ := gck_s h
  obtain ⟨r1, er1, h⟩ := gb_s h
  refine g_callV X hI (q := (RX6, TX6, 17)) (b := th) (av := [.int a1]) cO rfl (c_X6_isTensor er1) gm_X6_isTensor tw_3_119 tw_3_121 tw_p_22 ⟨by decide, by decide⟩ hl.1 (rest := []) rfl (Nat.le_of_ble_eq_true rfl) dX6_same_2 ⟨by decide, by decide⟩ (st1 := [.int r1]) rfl (cells' := 0) (slots' := 0) rfl rfl (fun H locs hI => ?_)
  refine lv_if_eq (tgt := 16) hx hb dX6_same_5 (by decide) (fun c => ?_) (fun c => ?_)
  · have h := g_t _ c h
    refine lv_iconst (v := (-1)) hx hb dX6_same_16 (by decide) ?_
    obtain ⟨h, h2⟩ := g_sp2 h
    subst h
    subst h2
    exact g_iret X hI dX6_same_17
  · have h := g_f _ c h
    refine lv_aload_n hx hb dX6_same_8 rfl (lv_at hl 0 rfl) ?_
    refine lv_iload_n hx hb dX6_same_9 rfl (lv_at hl 2 rfl) ?_
    obtain ⟨cO, h⟩ := gck_s h
    obtain ⟨r2, er2, h⟩ := gb_s h
    refine g_callV X hI (q := (RX6, TX6, 17)) (b := th) (av := [.int a2]) cO rfl (c_X6_isTensor er2) gm_X6_isTensor tw_3_119 tw_3_121 tw_p_22 ⟨by decide, by decide⟩ hl.1 (rest := []) rfl (Nat.le_of_ble_eq_true rfl) dX6_same_10 ⟨by decide, by decide⟩ (st1 := [.int r2]) rfl (cells' := 0) (slots' := 0) rfl rfl (fun H locs hI => ?_)
    refine lv_if_ne (tgt := 18) hx hb dX6_same_13 (by decide) (fun c => ?_) (fun c => ?_)
    · have h := g_f _ c h
      refine lv_aload_n hx hb dX6_same_18 rfl (lv_at hl 0 rfl) ?_
      obtain ⟨g3, eg3, h⟩ := gb_s h
      refine g_get X hI (g_fA_s eg3) (C := RX6) (T := TX6) (N := 17) rfl gu_X6 (by decide) tw_3_47 dX6_same_19 ?_
      refine lv_iload_n hx hb dX6_same_22 rfl (lv_at hl 1 rfl) ?_
      obtain ⟨v4, ev4, h⟩ := gb_s h
      refine g_zald X hI ev4 dX6_same_23 ?_
      refine lv_if_ne (tgt := 36) hx hb dX6_same_24 (by decide) (fun c => ?_) (fun c => ?_)
      · have h := g_f _ c h
        exact b_X6_same_36 X hI h (lv_sub hl [0] rfl)
      · have h := g_t _ c h
        refine lv_aload_n hx hb dX6_same_27 rfl (lv_at hl 0 rfl) ?_
        obtain ⟨g5, eg5, h⟩ := gb_s h
        refine g_get X hI (g_fA_s eg5) (C := RX6) (T := TX6) (N := 17) rfl gu_X6 (by decide) tw_3_47 dX6_same_28 ?_
        refine lv_iload_n hx hb dX6_same_31 rfl (lv_at hl 2 rfl) ?_
        obtain ⟨v6, ev6, h⟩ := gb_s h
        refine g_zald X hI ev6 dX6_same_32 ?_
        refine lv_if_eq (tgt := 44) hx hb dX6_same_33 (by decide) (fun c => ?_) (fun c => ?_)
        · have h := g_t _ c h
          refine lv_aload_n hx hb dX6_same_44 rfl (lv_at hl 0 rfl) ?_
          obtain ⟨g7, eg7, h⟩ := gb_s h
          refine g_get X hI (g_fA_s eg7) (C := RX6) (T := TX6) (N := 17) rfl gu_X6 (by decide) tw_3_43 dX6_same_45 ?_
          refine lv_iload_n hx hb dX6_same_48 rfl (lv_at hl 1 rfl) ?_
          obtain ⟨v8, ev8, h⟩ := gb_s h
          refine g_iald X hI ev8 dX6_same_49 ?_
          refine lv_aload_n hx hb dX6_same_50 rfl (lv_at hl 0 rfl) ?_
          obtain ⟨g9, eg9, h⟩ := gb_s h
          refine g_get X hI (g_fA_s eg9) (C := RX6) (T := TX6) (N := 17) rfl gu_X6 (by decide) tw_3_43 dX6_same_51 ?_
          refine lv_iload_n hx hb dX6_same_54 rfl (lv_at hl 2 rfl) ?_
          obtain ⟨v10, ev10, h⟩ := gb_s h
          refine g_iald X hI ev10 dX6_same_55 ?_
          refine lv_icmp_ne (tgt := 78) hx hb dX6_same_56 (by decide) (fun c => ?_) (fun c => ?_)
          · have h := g_f _ c h
            exact b_X6_same_78 X hI h (lv_sub hl [0, 1, 2] rfl)
          · have h := g_t _ c h
            refine lv_aload_n hx hb dX6_same_59 rfl (lv_at hl 0 rfl) ?_
            obtain ⟨g11, eg11, h⟩ := gb_s h
            refine g_get X hI (g_fA_s eg11) (C := RX6) (T := TX6) (N := 17) rfl gu_X6 (by decide) tw_3_44 dX6_same_60 ?_
            refine lv_iload_n hx hb dX6_same_63 rfl (lv_at hl 1 rfl) ?_
            obtain ⟨v12, ev12, h⟩ := gb_s h
            refine g_iald X hI ev12 dX6_same_64 ?_
            refine lv_aload_n hx hb dX6_same_65 rfl (lv_at hl 0 rfl) ?_
            obtain ⟨g13, eg13, h⟩ := gb_s h
            refine g_get X hI (g_fA_s eg13) (C := RX6) (T := TX6) (N := 17) rfl gu_X6 (by decide) tw_3_44 dX6_same_66 ?_
            refine lv_iload_n hx hb dX6_same_69 rfl (lv_at hl 2 rfl) ?_
            obtain ⟨v14, ev14, h⟩ := gb_s h
            refine g_iald X hI ev14 dX6_same_70 ?_
            refine lv_icmp_ne (tgt := 78) hx hb dX6_same_71 (by decide) (fun c => ?_) (fun c => ?_)
            · have h := g_f _ c h
              exact b_X6_same_78 X hI h (lv_sub hl [0, 1, 2] rfl)
            · have h := g_t _ c h
              refine lv_iconst (v := 1) hx hb dX6_same_74 (by decide) ?_
              refine lv_goto (tgt := 79) hx hb dX6_same_75 (by decide) ?_
              exact b_X6_same_79 X hI h (lv_sub hl [0, 1, 2] rfl)
        · have h := g_f _ c h
          exact b_X6_same_36 X hI h (lv_sub hl [0] rfl)
    · have h := g_t _ c h
      refine lv_iconst (v := (-1)) hx hb dX6_same_16 (by decide) ?_
      obtain ⟨h, h2⟩ := g_sp2 h
      subst h
      subst h2
      exact g_iret X hI dX6_same_17
abbrev rm_X6_place : Room := { frames := 0, cells := 0, slots := 0, locals := 0 }
def f_X6_place (G : gG) (th : Nat) : Option Int32 :=
  gb (g_fI G th 5 11) fun v1 =>
  some v1
theorem gm_X6_place : g_M yX6_place cX6_place 1 (some .int) 0 := ⟨tw_4_91, tw_1_5, by decide +kernel, Or.inl (by decide +kernel)⟩
set_option maxHeartbeats 4000000 in
set_option maxRecDepth 100000 in
theorem c_X6_place {l : Launch} {E : gE} {G : gG} {n : Nat} {th : Nat} {r : Int32} (h : f_X6_place G th = some r) : g_Met l yX6_place cX6_place 1 (some .int) rm_X6_place E G n [.ref th] (some (.int r)) G n := by
  refine g_ofW gm_X6_place (Nat.le_of_ble_eq_true rfl) ?_
  intro p e s m below meth c ls X hl hI
  have hx := X.1
  have hb := X.2.1
  have X : g_X E G n p s m _ meth c cX6_place 1 RX6 "place" (some .int) := X
  have hl : lv_has ls 1 [(0, .ref th)] := hl
  unfold f_X6_place at h
  refine lv_aload_n hx hb dX6_place_0 rfl (lv_at hl 0 rfl) ?_
  obtain ⟨v1, ev1, h⟩ := gb_s h
  refine g_get X hI (g_fI_s ev1) (C := RX6) (T := TX6) (N := 17) rfl gu_X6 (by decide) tw_3_53 dX6_place_1 ?_
  have h := Option.some.inj h
  subst h
  exact g_iret X hI dX6_place_4
abbrev rm_X6_count : Room := { frames := 0, cells := 0, slots := 0, locals := 0 }
def f_X6_count_27 (k4 : gG → Nat → Int32 → Int32 → Int32 → Option Int32) (G : gG) (x0 : Nat) (x1 : Int32) (x3 : Int32) (s0 : Int32) (s1 : Int32) : Option Int32 :=
  gl ((s1 + s0) : Int32) fun v1 =>
  gl (x3 + 1 : Int32) fun v2 =>
  k4 G x0 x1 v1 v2
set_option maxHeartbeats 4000000 in
set_option maxRecDepth 100000 in
theorem b_X6_count_27 {p : Program} {l : Launch} {e : Env} {s : State} {m : MethodId} {args : Array Value} {below : List Frame} {meth : Method} {c : Code} {E : gE} {G0 : gG} {n0 : Nat} (X : g_X E G0 n0 p s m args meth c cX6_count 4 RX6 "count" (some .int)) {G : gG} {n : Nat} {r : Int32} {k4 : gG → Nat → Int32 → Int32 → Int32 → Option Int32} (hk4 : ∀ {H : Heap} {locs : List Loc} (_ : g_I E (g_A G0 n0) G n s.heap H locs) {x0 : Nat} {x1 : Int32} {x2 : Int32} {x3 : Int32}  (_ : k4 G x0 x1 x2 x3 = some r) {ls : Array Slot} (_ : lv_has ls 4 [(0, .ref x0), (1, .int x1), (2, .int x2), (3, .int x3)]), W p l e rm_X6_count s m args below meth c H locs 0 0 (MQ below (g_Q E G0 n0 (some (.int r)) G n) args s rm_X6_count.cells rm_X6_count.slots (g_A G0 n0)) (F0 m 4 ls [])) {H : Heap} {locs : List Loc} (hI : g_I E (g_A G0 n0) G n s.heap H locs) {x0 : Nat} {x1 : Int32} {x3 : Int32} {s0 : Int32} {s1 : Int32} (h : f_X6_count_27 k4 G x0 x1 x3 s0 s1 = some r) {ls : Array Slot} (hl : lv_has ls 4 [(0, .ref x0), (1, .int x1), (3, .int x3)]) : W p l e rm_X6_count s m args below meth c H locs 0 0 (MQ below (g_Q E G0 n0 (some (.int r)) G n) args s rm_X6_count.cells rm_X6_count.slots (g_A G0 n0)) (F0 m 27 ls [.int s0, .int s1]) := by
  have hx := X.1
  have hb := X.2.1
  unfold f_X6_count_27 at h
  refine lv_iadd (x := s1) (y := s0) hx hb dX6_count_27 ?_
  obtain ⟨v1, ev1, h⟩ := gl_s h
  refine g_topi ev1 ?_
  refine lv_istore_n (lv' := [(2, .int v1), (0, .ref x0), (1, .int x1), (3, .int x3)]) hx hb dX6_count_28 rfl hl (by decide) rfl (fun ls hl => ?_)
  obtain ⟨v2, ev2, h⟩ := gl_s h
  refine lv_iinc (v := v2) (lv' := [(3, .int v2), (2, .int v1), (0, .ref x0), (1, .int x1)]) hx hb dX6_count_29 hl (k := 3) rfl (by rw [← ev2]; rfl) (by decide) rfl (fun ls hl => ?_)
  refine lv_goto (tgt := 4) hx hb dX6_count_32 (by decide) ?_
  exact hk4 hI h (lv_sub hl [2, 3, 1, 0] rfl)
def f_X6_count_4 : Nat → gG → Nat → Int32 → Int32 → Int32 → Option Int32
  | 0, _, _, _, _, _ => none
  | fu + 1, G, x0, x1, x2, x3 =>
    gb (g_fI G x0 5 0) fun v1 =>
    if v1 ≤ x3 then
      if x1 = 0 then
        gb (g_fI G x0 5 0) fun v4 =>
        some v4
      else
      if x1 = 1 then
        some x2
      else
      if x1 = 2 then
        gb (g_fI G x0 5 9) fun v3 =>
        some v3
      else
      if x1 = 3 then
        gb (g_fI G x0 5 10) fun v2 =>
        some v2
      else
      some (-1)
    else
    gb (g_fA G x0 5 5) fun g5 =>
    gb (g_zl G g5 x3) fun v6 =>
    if v6 = 0 then
      f_X6_count_27 (f_X6_count_4 fu) G x0 x1 x3 1 x2
    else
    f_X6_count_27 (f_X6_count_4 fu) G x0 x1 x3 0 x2
set_option maxHeartbeats 4000000 in
set_option maxRecDepth 100000 in
theorem b_X6_count_4 {p : Program} {l : Launch} {e : Env} {s : State} {m : MethodId} {args : Array Value} {below : List Frame} {meth : Method} {c : Code} {E : gE} {G0 : gG} {n0 : Nat} (X : g_X E G0 n0 p s m args meth c cX6_count 4 RX6 "count" (some .int)) {G : gG} {n : Nat} {r : Int32} (fu : Nat) : ∀ {H : Heap} {locs : List Loc} (_ : g_I E (g_A G0 n0) G n s.heap H locs) {x0 : Nat} {x1 : Int32} {x2 : Int32} {x3 : Int32} (_ : f_X6_count_4 fu G x0 x1 x2 x3 = some r) {ls : Array Slot} (_ : lv_has ls 4 [(0, .ref x0), (1, .int x1), (2, .int x2), (3, .int x3)]), W p l e rm_X6_count s m args below meth c H locs 0 0 (MQ below (g_Q E G0 n0 (some (.int r)) G n) args s rm_X6_count.cells rm_X6_count.slots (g_A G0 n0)) (F0 m 4 ls []) := by
  have hx := X.1
  have hb := X.2.1
  induction fu with
  | zero =>
    intro H locs hI x0 x1 x2 x3 h ls hl
    rw [f_X6_count_4] at h
    cases h
  | succ fu ih =>
    intro H locs hI x0 x1 x2 x3 h ls hl
    rw [f_X6_count_4] at h
    refine lv_iload_n hx hb dX6_count_4 rfl (lv_at hl 3 rfl) ?_
    refine lv_aload_n hx hb dX6_count_5 rfl (lv_at hl 0 rfl) ?_
    obtain ⟨v1, ev1, h⟩ := gb_s h
    refine g_get X hI (g_fI_s ev1) (C := RX6) (T := TX6) (N := 17) rfl gu_X6 (by decide) tw_3_42 dX6_count_6 ?_
    refine lv_icmp_ge (tgt := 35) hx hb dX6_count_9 (by decide) (fun c => ?_) (fun c => ?_)
    · have h := g_t _ c h
      refine lv_iload_n hx hb dX6_count_35 rfl (lv_at hl 1 rfl) ?_
      refine lv_if_ne (tgt := 46) hx hb dX6_count_36 (by decide) (fun c => ?_) (fun c => ?_)
      · have h := g_f _ c h
        refine lv_iload_n hx hb dX6_count_46 rfl (lv_at hl 1 rfl) ?_
        refine lv_iconst (v := 1) hx hb dX6_count_47 (by decide) ?_
        refine lv_icmp_ne (tgt := 55) hx hb dX6_count_48 (by decide) (fun c => ?_) (fun c => ?_)
        · have h := g_f _ c h
          refine lv_iload_n hx hb dX6_count_55 rfl (lv_at hl 1 rfl) ?_
          refine lv_iconst (v := 2) hx hb dX6_count_56 (by decide) ?_
          refine lv_icmp_ne (tgt := 67) hx hb dX6_count_57 (by decide) (fun c => ?_) (fun c => ?_)
          · have h := g_f _ c h
            refine lv_iload_n hx hb dX6_count_67 rfl (lv_at hl 1 rfl) ?_
            refine lv_iconst (v := 3) hx hb dX6_count_68 (by decide) ?_
            refine lv_icmp_ne (tgt := 79) hx hb dX6_count_69 (by decide) (fun c => ?_) (fun c => ?_)
            · have h := g_f _ c h
              refine lv_iconst (v := (-1)) hx hb dX6_count_79 (by decide) ?_
              have h := Option.some.inj h
              subst h
              exact g_iret X hI dX6_count_80
            · have h := g_t _ c h
              refine lv_aload_n hx hb dX6_count_72 rfl (lv_at hl 0 rfl) ?_
              obtain ⟨v2, ev2, h⟩ := gb_s h
              refine g_get X hI (g_fI_s ev2) (C := RX6) (T := TX6) (N := 17) rfl gu_X6 (by decide) tw_3_52 dX6_count_73 ?_
              refine lv_goto (tgt := 80) hx hb dX6_count_76 (by decide) ?_
              have h := Option.some.inj h
              subst h
              exact g_iret X hI dX6_count_80
          · have h := g_t _ c h
            refine lv_aload_n hx hb dX6_count_60 rfl (lv_at hl 0 rfl) ?_
            obtain ⟨v3, ev3, h⟩ := gb_s h
            refine g_get X hI (g_fI_s ev3) (C := RX6) (T := TX6) (N := 17) rfl gu_X6 (by decide) tw_3_51 dX6_count_61 ?_
            refine lv_goto (tgt := 80) hx hb dX6_count_64 (by decide) ?_
            have h := Option.some.inj h
            subst h
            exact g_iret X hI dX6_count_80
        · have h := g_t _ c h
          refine lv_iload_n hx hb dX6_count_51 rfl (lv_at hl 2 rfl) ?_
          refine lv_goto (tgt := 80) hx hb dX6_count_52 (by decide) ?_
          have h := Option.some.inj h
          subst h
          exact g_iret X hI dX6_count_80
      · have h := g_t _ c h
        refine lv_aload_n hx hb dX6_count_39 rfl (lv_at hl 0 rfl) ?_
        obtain ⟨v4, ev4, h⟩ := gb_s h
        refine g_get X hI (g_fI_s ev4) (C := RX6) (T := TX6) (N := 17) rfl gu_X6 (by decide) tw_3_42 dX6_count_40 ?_
        refine lv_goto (tgt := 80) hx hb dX6_count_43 (by decide) ?_
        have h := Option.some.inj h
        subst h
        exact g_iret X hI dX6_count_80
    · have h := g_f _ c h
      refine lv_iload_n hx hb dX6_count_12 rfl (lv_at hl 2 rfl) ?_
      refine lv_aload_n hx hb dX6_count_13 rfl (lv_at hl 0 rfl) ?_
      obtain ⟨g5, eg5, h⟩ := gb_s h
      refine g_get X hI (g_fA_s eg5) (C := RX6) (T := TX6) (N := 17) rfl gu_X6 (by decide) tw_3_47 dX6_count_14 ?_
      refine lv_iload_n hx hb dX6_count_17 rfl (lv_at hl 3 rfl) ?_
      obtain ⟨v6, ev6, h⟩ := gb_s h
      refine g_zald X hI ev6 dX6_count_18 ?_
      refine lv_if_eq (tgt := 26) hx hb dX6_count_19 (by decide) (fun c => ?_) (fun c => ?_)
      · have h := g_t _ c h
        refine lv_iconst (v := 1) hx hb dX6_count_26 (by decide) ?_
        exact b_X6_count_27 X ih hI h (lv_sub hl [0, 1, 3] rfl)
      · have h := g_f _ c h
        refine lv_iconst (v := 0) hx hb dX6_count_22 (by decide) ?_
        refine lv_goto (tgt := 27) hx hb dX6_count_23 (by decide) ?_
        exact b_X6_count_27 X ih hI h (lv_sub hl [0, 1, 3] rfl)
def f_X6_count (G : gG) (th : Nat) (a1 : Int32) : Option Int32 :=
  f_X6_count_4 5000 G th a1 0 0
theorem gm_X6_count : g_M yX6_count cX6_count 4 (some .int) 1 := ⟨tw_4_95, tw_1_5, by decide +kernel, Or.inl (by decide +kernel)⟩
set_option maxHeartbeats 4000000 in
set_option maxRecDepth 100000 in
theorem c_X6_count {l : Launch} {E : gE} {G : gG} {n : Nat} {th : Nat} {a1 : Int32} {r : Int32} (h : f_X6_count G th a1 = some r) : g_Met l yX6_count cX6_count 4 (some .int) rm_X6_count E G n [.ref th, .int a1] (some (.int r)) G n := by
  refine g_ofW gm_X6_count (Nat.le_of_ble_eq_true rfl) ?_
  intro p e s m below meth c ls X hl hI
  have hx := X.1
  have hb := X.2.1
  have X : g_X E G n p s m _ meth c cX6_count 4 RX6 "count" (some .int) := X
  have hl : lv_has ls 4 [(0, .ref th), (1, .int a1)] := hl
  unfold f_X6_count at h
  refine lv_iconst (v := 0) hx hb dX6_count_0 (by decide) ?_
  refine lv_istore_n (lv' := [(2, .int 0), (0, .ref th), (1, .int a1)]) hx hb dX6_count_1 rfl hl (by decide) rfl (fun ls hl => ?_)
  refine lv_iconst (v := 0) hx hb dX6_count_2 (by decide) ?_
  refine lv_istore_n (lv' := [(3, .int 0), (2, .int 0), (0, .ref th), (1, .int a1)]) hx hb dX6_count_3 rfl hl (by decide) rfl (fun ls hl => ?_)
  exact b_X6_count_4 X 5000 hI h (lv_sub hl [2, 3, 1, 0] rfl)
