abbrev rm_X5_init : Room := { frames := 3, cells := 8, slots := 276, locals := 80 }
def f_X5_init (G : gG) (n : Nat) (th : Nat) : Option (gG × Nat) :=
  gl (g_up G n (.inr (.inr (.inr (.inr (16, fun _ => none)))))) fun G1 =>
  gb (g_sA G1 th 4 0 n) fun G2 =>
  gl (g_up G2 (n + 1) (.inl (0, [.null, .null, .null]))) fun G3 =>
  gb2 (f_X0_init G3 ((n + 1) + 1) (n + 1)) fun G4 n5 =>
  gb (g_sA G4 th 4 1 (n + 1)) fun G6 =>
  gl (g_up G6 n5 (.inl (2, [.int 0, .null]))) fun G7 =>
  gb2 (f_X3_init G7 (n5 + 1) n5) fun G8 n9 =>
  gb (g_sA G8 th 4 2 n5) fun G10 =>
  gl (g_up G10 n9 (.inr (.inr (.inl (240, fun _ => 0))))) fun G11 =>
  gb (g_sA G11 th 4 3 n9) fun G12 =>
  gb (g_sI G12 th 4 4 0) fun G13 =>
  gb (g_sI G13 th 4 5 0) fun G14 =>
  gb (g_sI G14 th 4 6 0) fun G15 =>
  gb (g_sI G15 th 4 7 0) fun G16 =>
  gb (g_sI G16 th 4 8 (-3)) fun G17 =>
  some (G17, (n9 + 1))
theorem gm_X5_init : g_M yX5_init cX5_init 1 none 0 := ⟨tw_1_14, tw_1_1, by decide +kernel, Or.inl (by decide +kernel)⟩
set_option maxHeartbeats 4000000 in
set_option maxRecDepth 100000 in
theorem c_X5_init {l : Launch} {E : gE} {G : gG} {n : Nat} {th : Nat} {Gr : gG} {nr : Nat} (h : f_X5_init G n th = some (Gr, nr)) : g_Met l yX5_init cX5_init 1 none rm_X5_init E G n [.ref th] none Gr nr := by
  refine g_ofW gm_X5_init (Nat.le_of_ble_eq_true rfl) ?_
  intro p e s m below meth c ls X hl hI
  have hx := X.1
  have hb := X.2.1
  have X : g_X E G n p s m _ meth c cX5_init 1 RX5 "<init>" none := X
  have hl : lv_has ls 1 [(0, .ref th)] := hl
  unfold f_X5_init at h
  refine lv_aload_n hx hb dX5_init_0 rfl (lv_at hl 0 rfl) ?_
  refine g_obji X tw_1_15 tw_1_16 tw_1_17 hl.1 dX5_init_1 (by decide) (by decide) ?_
  refine lv_aload_n hx hb dX5_init_4 rfl (lv_at hl 0 rfl) ?_
  refine lv_bipush (v := 16) hx hb dX5_init_5 (by decide) ?_
  obtain ⟨G1, eG1, h⟩ := gl_s h
  refine g_newT X hI tw_1_18 (N := 16) (by decide) (by decide) (by decide) (by decide) (by decide) dX5_init_7 (fun H hI => ?_)
  rw [eG1] at hI
  refine W.cs (cells' := 1) (slots' := 16) rfl rfl ?_
  obtain ⟨G2, eG2, h⟩ := gb_s h
  refine g_putF X hI (k := 0) (v := .ref n) (G' := G2) eG2 (C := RX5) (T := TX5) (N := 9) rfl gu_X5 tyX5 tyX5_ok nmX5 (by decide) tw_1_72 rfl rfl rfl rfl rfl dX5_init_10 (fun H locs hI => ?_)
  refine lv_aload_n hx hb dX5_init_13 rfl (lv_at hl 0 rfl) ?_
  obtain ⟨G3, eG3, h⟩ := gl_s h
  refine g_new X hI (ci := 0) (fs := [.null, .null, .null]) (C := RX0) (T := TX0) (N := 3) rfl gu_X0 tyX0 tyX0_ok tw_1_20 tw_1_21 tw_1_2 (fun j hj => by rcases (show j = 0 ∨ j = 1 ∨ j = 2 by omega) with rfl | rfl | rfl <;> rfl) (by decide) (by decide) dX5_init_14 (fun H hI => ?_)
  rw [eG3] at hI
  refine W.cs (cells' := 2) (slots' := 19) rfl rfl ?_
  refine lv_dup hx hb dX5_init_17 rfl ?_
  obtain ⟨G4, n5, eG4, h⟩ := gb2_s h
  refine g_callN X hI (b := (n + 1)) (av := []) (c_X0_init eG4) gm_X0_init X.2.2.2.2.2.1.2.2.2.2.1 tw_1_23 rfl ⟨by decide, by decide⟩ hl.1 (rest := [.ref (n + 1), .ref th]) rfl (Nat.le_of_ble_eq_true rfl) dX5_init_18 ⟨by decide, by decide⟩ (st1 := [.ref (n + 1), .ref th]) rfl (cells' := 5) (slots' := 31) rfl rfl (fun H locs hI => ?_)
  obtain ⟨G6, eG6, h⟩ := gb_s h
  refine g_putF X hI (k := 1) (v := .ref (n + 1)) (G' := G6) eG6 (C := RX5) (T := TX5) (N := 9) rfl gu_X5 tyX5 tyX5_ok nmX5 (by decide) tw_1_73 rfl rfl rfl rfl rfl dX5_init_21 (fun H locs hI => ?_)
  refine lv_aload_n hx hb dX5_init_24 rfl (lv_at hl 0 rfl) ?_
  obtain ⟨G7, eG7, h⟩ := gl_s h
  refine g_new X hI (ci := 2) (fs := [.int 0, .null]) (C := RX3) (T := TX3) (N := 2) rfl gu_X3 tyX3 tyX3_ok tw_1_57 tw_1_58 tw_1_4 (fun j hj => by rcases (show j = 0 ∨ j = 1 by omega) with rfl | rfl <;> rfl) (by decide) (by decide) dX5_init_25 (fun H hI => ?_)
  rw [eG7] at hI
  refine W.cs (cells' := 6) (slots' := 33) rfl rfl ?_
  refine lv_dup hx hb dX5_init_28 rfl ?_
  obtain ⟨G8, n9, eG8, h⟩ := gb2_s h
  refine g_callN X hI (b := n5) (av := []) (c_X3_init eG8) gm_X3_init X.2.2.2.2.2.1.2.2.2.2.2 tw_1_60 rfl ⟨by decide, by decide⟩ hl.1 (rest := [.ref n5, .ref th]) rfl (Nat.le_of_ble_eq_true rfl) dX5_init_29 ⟨by decide, by decide⟩ (st1 := [.ref n5, .ref th]) rfl (cells' := 7) (slots' := 36) rfl rfl (fun H locs hI => ?_)
  obtain ⟨G10, eG10, h⟩ := gb_s h
  refine g_putF X hI (k := 2) (v := .ref n5) (G' := G10) eG10 (C := RX5) (T := TX5) (N := 9) rfl gu_X5 tyX5 tyX5_ok nmX5 (by decide) tw_1_74 rfl rfl rfl rfl rfl dX5_init_32 (fun H locs hI => ?_)
  refine lv_aload_n hx hb dX5_init_35 rfl (lv_at hl 0 rfl) ?_
  refine lv_sipush (v := 240) hx hb dX5_init_36 (by decide) ?_
  obtain ⟨G11, eG11, h⟩ := gl_s h
  refine g_newJ X hI tw_1_100 (N := 240) (by decide) (by decide) (by decide) (by decide) (by decide) dX5_init_39 (fun H hI => ?_)
  rw [eG11] at hI
  refine W.cs (cells' := 8) (slots' := 276) rfl rfl ?_
  obtain ⟨G12, eG12, h⟩ := gb_s h
  refine g_putF X hI (k := 3) (v := .ref n9) (G' := G12) eG12 (C := RX5) (T := TX5) (N := 9) rfl gu_X5 tyX5 tyX5_ok nmX5 (by decide) tw_1_75 rfl rfl rfl rfl rfl dX5_init_41 (fun H locs hI => ?_)
  refine lv_aload_n hx hb dX5_init_44 rfl (lv_at hl 0 rfl) ?_
  refine lv_iconst (v := 0) hx hb dX5_init_45 (by decide) ?_
  obtain ⟨G13, eG13, h⟩ := gb_s h
  refine g_put X hI (k := 4) (v := .int 0) (G' := G13) eG13 (C := RX5) (T := TX5) (N := 9) rfl gu_X5 tyX5 tyX5_ok nmX5 (by decide) tw_1_76 rfl rfl rfl dX5_init_46 (fun H locs hI => ?_)
  refine lv_aload_n hx hb dX5_init_49 rfl (lv_at hl 0 rfl) ?_
  refine lv_iconst (v := 0) hx hb dX5_init_50 (by decide) ?_
  obtain ⟨G14, eG14, h⟩ := gb_s h
  refine g_put X hI (k := 5) (v := .int 0) (G' := G14) eG14 (C := RX5) (T := TX5) (N := 9) rfl gu_X5 tyX5 tyX5_ok nmX5 (by decide) tw_1_77 rfl rfl rfl dX5_init_51 (fun H locs hI => ?_)
  refine lv_aload_n hx hb dX5_init_54 rfl (lv_at hl 0 rfl) ?_
  refine lv_iconst (v := 0) hx hb dX5_init_55 (by decide) ?_
  obtain ⟨G15, eG15, h⟩ := gb_s h
  refine g_put X hI (k := 6) (v := .int 0) (G' := G15) eG15 (C := RX5) (T := TX5) (N := 9) rfl gu_X5 tyX5 tyX5_ok nmX5 (by decide) tw_1_78 rfl rfl rfl dX5_init_56 (fun H locs hI => ?_)
  refine lv_aload_n hx hb dX5_init_59 rfl (lv_at hl 0 rfl) ?_
  refine lv_iconst (v := 0) hx hb dX5_init_60 (by decide) ?_
  obtain ⟨G16, eG16, h⟩ := gb_s h
  refine g_put X hI (k := 7) (v := .int 0) (G' := G16) eG16 (C := RX5) (T := TX5) (N := 9) rfl gu_X5 tyX5 tyX5_ok nmX5 (by decide) tw_1_79 rfl rfl rfl dX5_init_61 (fun H locs hI => ?_)
  refine lv_aload_n hx hb dX5_init_64 rfl (lv_at hl 0 rfl) ?_
  refine lv_bipush (v := (-3)) hx hb dX5_init_65 (by decide) ?_
  obtain ⟨G17, eG17, h⟩ := gb_s h
  refine g_put X hI (k := 8) (v := .int (-3)) (G' := G17) eG17 (C := RX5) (T := TX5) (N := 9) rfl gu_X5 tyX5 tyX5_ok nmX5 (by decide) tw_1_80 rfl rfl rfl dX5_init_67 (fun H locs hI => ?_)
  obtain ⟨h, h2⟩ := g_sp2 h
  subst h
  subst h2
  exact g_vret X hI dX5_init_70
abbrev rm_X5_isFull : Room := { frames := 0, cells := 0, slots := 0, locals := 0 }
def f_X5_isFull (G : gG) (th : Nat) : Option Int32 :=
  gb (g_fI G th 4 4) fun v1 =>
  if v1 < 16 then
    some 0
  else
  some 1
theorem gm_X5_isFull : g_M yX5_isFull cX5_isFull 1 (some .boolean) 0 := ⟨tw_1_111, tw_1_1, by decide +kernel, Or.inl (by decide +kernel)⟩
set_option maxHeartbeats 4000000 in
set_option maxRecDepth 100000 in
theorem c_X5_isFull {l : Launch} {E : gE} {G : gG} {n : Nat} {th : Nat} {r : Int32} (h : f_X5_isFull G th = some r) : g_Met l yX5_isFull cX5_isFull 1 (some .boolean) rm_X5_isFull E G n [.ref th] (some (.int r)) G n := by
  refine g_ofW gm_X5_isFull (Nat.le_of_ble_eq_true rfl) ?_
  intro p e s m below meth c ls X hl hI
  have hx := X.1
  have hb := X.2.1
  have X : g_X E G n p s m _ meth c cX5_isFull 1 RX5 "isFull" (some .boolean) := X
  have hl : lv_has ls 1 [(0, .ref th)] := hl
  unfold f_X5_isFull at h
  refine lv_aload_n hx hb dX5_isFull_0 rfl (lv_at hl 0 rfl) ?_
  obtain ⟨v1, ev1, h⟩ := gb_s h
  refine g_get X hI (g_fI_s ev1) (C := RX5) (T := TX5) (N := 9) rfl gu_X5 (by decide) tw_1_76 dX5_isFull_1 ?_
  refine lv_bipush (v := 16) hx hb dX5_isFull_4 (by decide) ?_
  refine lv_icmp_lt (tgt := 13) hx hb dX5_isFull_6 (by decide) (fun c => ?_) (fun c => ?_)
  · have h := g_t _ c h
    refine lv_iconst (v := 0) hx hb dX5_isFull_13 (by decide) ?_
    have h := Option.some.inj h
    subst h
    exact g_zret X hI (Or.inl rfl) dX5_isFull_14
  · have h := g_f _ c h
    refine lv_iconst (v := 1) hx hb dX5_isFull_9 (by decide) ?_
    refine lv_goto (tgt := 14) hx hb dX5_isFull_10 (by decide) ?_
    have h := Option.some.inj h
    subst h
    exact g_zret X hI (Or.inr rfl) dX5_isFull_14
abbrev rm_X5_madeOfRow : Room := { frames := 3, cells := 4, slots := 249, locals := 83 }
def f_X5_madeOfRow (G : gG) (n : Nat) (th : Nat) (a1 : Int32) : Option (Int32 × gG × Nat) :=
  gb (g_fA G th 4 2) fun g1 =>
  gck (g_isO G g1 2) <|
  gb (f_X3_size G g1) fun r2 =>
  gb (g_fI G th 4 4) fun v3 =>
  if v3 < 0 then
    some ((-2), G, n)
  else
  gb (g_fI G th 4 4) fun v4 =>
  gb (g_fA G th 4 0) fun g5 =>
  gb (g_len G g5) fun v6 =>
  if v6 ≤ v4 then
    some ((-2), G, n)
  else
  if r2 < 0 then
    some ((-2), G, n)
  else
  gb (g_fA G th 4 3) fun g7 =>
  gb (g_len G g7) fun v8 =>
  if r2 ≤ v8 then
    gl (g_up G n (.inl (3, [.int 0, .null, .null, .int 0]))) fun G9 =>
    gb (g_fA G9 th 4 2) fun g10 =>
    gb2 (f_X4_init G9 (n + 1) n a1 g10 r2) fun G11 n12 =>
    gb (g_fA G11 th 4 3) fun g13 =>
    gb (g_fA G11 n 3 2) fun g14 =>
    gb (g_cp G11 g13 0 g14 0 r2) fun G15 =>
    gb (g_fA G15 th 4 0) fun g16 =>
    gb (g_fI G15 th 4 4) fun v17 =>
    gb (g_as G15 g16 v17 n) fun G18 =>
    gb (g_fI G18 th 4 4) fun v19 =>
    gb (g_sI G18 th 4 4 (v19 + 1)) fun G20 =>
    gb (g_fI G20 th 4 4) fun v21 =>
    some ((v21 - 1), G20, n12)
  else
  some ((-2), G, n)
theorem gm_X5_madeOfRow : g_M yX5_madeOfRow cX5_madeOfRow 4 (some .int) 1 := ⟨tw_1_127, tw_1_1, by decide +kernel, Or.inl (by decide +kernel)⟩
set_option maxHeartbeats 4000000 in
set_option maxRecDepth 100000 in
theorem c_X5_madeOfRow {l : Launch} {E : gE} {G : gG} {n : Nat} {th : Nat} {a1 : Int32} {r : Int32} {Gr : gG} {nr : Nat} (h : f_X5_madeOfRow G n th a1 = some (r, Gr, nr)) : g_Met l yX5_madeOfRow cX5_madeOfRow 4 (some .int) rm_X5_madeOfRow E G n [.ref th, .int a1] (some (.int r)) Gr nr := by
  refine g_ofW gm_X5_madeOfRow (Nat.le_of_ble_eq_true rfl) ?_
  intro p e s m below meth c ls X hl hI
  have hx := X.1
  have hb := X.2.1
  have X : g_X E G n p s m _ meth c cX5_madeOfRow 4 RX5 "madeOfRow" (some .int) := X
  have hl : lv_has ls 4 [(0, .ref th), (1, .int a1)] := hl
  unfold f_X5_madeOfRow at h
  refine lv_aload_n hx hb dX5_madeOfRow_0 rfl (lv_at hl 0 rfl) ?_
  obtain ⟨g1, eg1, h⟩ := gb_s h
  refine g_get X hI (g_fA_s eg1) (C := RX5) (T := TX5) (N := 9) rfl gu_X5 (by decide) tw_1_74 dX5_madeOfRow_1 ?_
  obtain ⟨cO, h⟩ := gck_s h
  obtain ⟨r2, er2, h⟩ := gb_s h
  refine g_callV X hI (q := (RX3, TX3, 2)) (b := g1) (av := []) cO rfl (c_X3_size er2) gm_X3_size tw_1_128 tw_1_129 tw_1_130 ⟨by decide, by decide⟩ hl.1 (rest := []) rfl (Nat.le_of_ble_eq_true rfl) dX5_madeOfRow_4 ⟨by decide, by decide⟩ (st1 := [.int r2]) rfl (cells' := 0) (slots' := 0) rfl rfl (fun H locs hI => ?_)
  refine lv_istore_n (lv' := [(2, .int r2), (0, .ref th), (1, .int a1)]) hx hb dX5_madeOfRow_7 rfl hl (by decide) rfl (fun ls hl => ?_)
  refine lv_aload_n hx hb dX5_madeOfRow_8 rfl (lv_at hl 1 rfl) ?_
  obtain ⟨v3, ev3, h⟩ := gb_s h
  refine g_get X hI (g_fI_s ev3) (C := RX5) (T := TX5) (N := 9) rfl gu_X5 (by decide) tw_1_76 dX5_madeOfRow_9 ?_
  refine lv_if_lt (tgt := 40) hx hb dX5_madeOfRow_12 (by decide) (fun c => ?_) (fun c => ?_)
  · have h := g_t _ c h
    refine lv_bipush (v := (-2)) hx hb dX5_madeOfRow_40 (by decide) ?_
    obtain ⟨h, h2, h3⟩ := g_sp3 h
    subst h
    subst h2
    subst h3
    refine W.widen (k := 4) (n := 249) (by decide) (by decide) ?_
    exact g_iret X hI dX5_madeOfRow_42
  · have h := g_f _ c h
    refine lv_aload_n hx hb dX5_madeOfRow_15 rfl (lv_at hl 1 rfl) ?_
    obtain ⟨v4, ev4, h⟩ := gb_s h
    refine g_get X hI (g_fI_s ev4) (C := RX5) (T := TX5) (N := 9) rfl gu_X5 (by decide) tw_1_76 dX5_madeOfRow_16 ?_
    refine lv_aload_n hx hb dX5_madeOfRow_19 rfl (lv_at hl 1 rfl) ?_
    obtain ⟨g5, eg5, h⟩ := gb_s h
    refine g_get X hI (g_fA_s eg5) (C := RX5) (T := TX5) (N := 9) rfl gu_X5 (by decide) tw_1_72 dX5_madeOfRow_20 ?_
    obtain ⟨v6, ev6, h⟩ := gb_s h
    refine g_alen X hI ev6 dX5_madeOfRow_23 ?_
    refine lv_icmp_ge (tgt := 40) hx hb dX5_madeOfRow_24 (by decide) (fun c => ?_) (fun c => ?_)
    · have h := g_t _ c h
      refine lv_bipush (v := (-2)) hx hb dX5_madeOfRow_40 (by decide) ?_
      obtain ⟨h, h2, h3⟩ := g_sp3 h
      subst h
      subst h2
      subst h3
      refine W.widen (k := 4) (n := 249) (by decide) (by decide) ?_
      exact g_iret X hI dX5_madeOfRow_42
    · have h := g_f _ c h
      refine lv_iload_n hx hb dX5_madeOfRow_27 rfl (lv_at hl 0 rfl) ?_
      refine lv_if_lt (tgt := 40) hx hb dX5_madeOfRow_28 (by decide) (fun c => ?_) (fun c => ?_)
      · have h := g_t _ c h
        refine lv_bipush (v := (-2)) hx hb dX5_madeOfRow_40 (by decide) ?_
        obtain ⟨h, h2, h3⟩ := g_sp3 h
        subst h
        subst h2
        subst h3
        refine W.widen (k := 4) (n := 249) (by decide) (by decide) ?_
        exact g_iret X hI dX5_madeOfRow_42
      · have h := g_f _ c h
        refine lv_iload_n hx hb dX5_madeOfRow_31 rfl (lv_at hl 0 rfl) ?_
        refine lv_aload_n hx hb dX5_madeOfRow_32 rfl (lv_at hl 1 rfl) ?_
        obtain ⟨g7, eg7, h⟩ := gb_s h
        refine g_get X hI (g_fA_s eg7) (C := RX5) (T := TX5) (N := 9) rfl gu_X5 (by decide) tw_1_75 dX5_madeOfRow_33 ?_
        obtain ⟨v8, ev8, h⟩ := gb_s h
        refine g_alen X hI ev8 dX5_madeOfRow_36 ?_
        refine lv_icmp_le (tgt := 43) hx hb dX5_madeOfRow_37 (by decide) (fun c => ?_) (fun c => ?_)
        · have h := g_t _ c h
          obtain ⟨G9, eG9, h⟩ := gl_s h
          refine g_new X hI (ci := 3) (fs := [.int 0, .null, .null, .int 0]) (C := RX4) (T := TX4) (N := 4) rfl gu_X4 tyX4 tyX4_ok tw_1_18 tw_1_132 tw_1_7 (fun j hj => by rcases (show j = 0 ∨ j = 1 ∨ j = 2 ∨ j = 3 by omega) with rfl | rfl | rfl | rfl <;> rfl) (by decide) (by decide) dX5_madeOfRow_43 (fun H hI => ?_)
          rw [eG9] at hI
          refine W.cs (cells' := 1) (slots' := 4) rfl rfl ?_
          refine lv_dup hx hb dX5_madeOfRow_46 rfl ?_
          refine lv_iload_n hx hb dX5_madeOfRow_47 rfl (lv_at hl 2 rfl) ?_
          refine lv_aload_n hx hb dX5_madeOfRow_48 rfl (lv_at hl 1 rfl) ?_
          obtain ⟨g10, eg10, h⟩ := gb_s h
          refine g_get X hI (g_fA_s eg10) (C := RX5) (T := TX5) (N := 9) rfl gu_X5 (by decide) tw_1_74 dX5_madeOfRow_49 ?_
          refine lv_iload_n hx hb dX5_madeOfRow_52 rfl (lv_at hl 0 rfl) ?_
          obtain ⟨G11, n12, eG11, h⟩ := gb2_s h
          refine g_callI X hI (b := n) (av := [.int a1, .ref g10, .int r2]) (c_X4_init eG11) gm_X4_init tw_1_133 tw_1_134 rfl ⟨by decide, by decide⟩ hl.1 (rest := [.ref n]) rfl (Nat.le_of_ble_eq_true rfl) dX5_madeOfRow_53 ⟨by decide, by decide⟩ (st1 := [.ref n]) rfl (cells' := 4) (slots' := 249) rfl rfl (fun H locs hI => ?_)
          refine lv_astore_n (lv' := [(3, .ref n), (2, .int r2), (0, .ref th), (1, .int a1)]) hx hb dX5_madeOfRow_56 rfl hl (by decide) rfl (fun ls hl => ?_)
          refine lv_aload_n hx hb dX5_madeOfRow_57 rfl (lv_at hl 2 rfl) ?_
          obtain ⟨g13, eg13, h⟩ := gb_s h
          refine g_get X hI (g_fA_s eg13) (C := RX5) (T := TX5) (N := 9) rfl gu_X5 (by decide) tw_1_75 dX5_madeOfRow_58 ?_
          refine lv_iconst (v := 0) hx hb dX5_madeOfRow_61 (by decide) ?_
          refine lv_aload_n hx hb dX5_madeOfRow_62 rfl (lv_at hl 0 rfl) ?_
          obtain ⟨g14, eg14, h⟩ := gb_s h
          refine g_get X hI (g_fA_s eg14) (C := RX4) (T := TX4) (N := 4) rfl gu_X4 (by decide) tw_1_148 dX5_madeOfRow_63 ?_
          refine lv_iconst (v := 0) hx hb dX5_madeOfRow_66 (by decide) ?_
          refine lv_iload_n hx hb dX5_madeOfRow_67 rfl (lv_at hl 1 rfl) ?_
          obtain ⟨G15, eG15, h⟩ := gb_s h
          refine g_cpl X hI (G' := G15) eG15 hl.1 tw_1_160 tw_1_162 tw_1_161 tw_1_8 (by decide) (by decide +kernel) dX5_madeOfRow_68 (fun H locs hI => ?_)
          refine lv_aload_n hx hb dX5_madeOfRow_71 rfl (lv_at hl 2 rfl) ?_
          obtain ⟨g16, eg16, h⟩ := gb_s h
          refine g_get X hI (g_fA_s eg16) (C := RX5) (T := TX5) (N := 9) rfl gu_X5 (by decide) tw_1_72 dX5_madeOfRow_72 ?_
          refine lv_aload_n hx hb dX5_madeOfRow_75 rfl (lv_at hl 2 rfl) ?_
          obtain ⟨v17, ev17, h⟩ := gb_s h
          refine g_get X hI (g_fI_s ev17) (C := RX5) (T := TX5) (N := 9) rfl gu_X5 (by decide) tw_1_76 dX5_madeOfRow_76 ?_
          refine lv_aload_n hx hb dX5_madeOfRow_79 rfl (lv_at hl 0 rfl) ?_
          obtain ⟨G18, eG18, h⟩ := gb_s h
          refine g_aast X hI (G' := G18) eG18 dX5_madeOfRow_80 (fun H locs hI => ?_)
          refine lv_aload_n hx hb dX5_madeOfRow_81 rfl (lv_at hl 2 rfl) ?_
          refine lv_dup hx hb dX5_madeOfRow_82 rfl ?_
          obtain ⟨v19, ev19, h⟩ := gb_s h
          refine g_get X hI (g_fI_s ev19) (C := RX5) (T := TX5) (N := 9) rfl gu_X5 (by decide) tw_1_76 dX5_madeOfRow_83 ?_
          refine lv_iconst (v := 1) hx hb dX5_madeOfRow_86 (by decide) ?_
          refine lv_iadd (x := v19) (y := 1) hx hb dX5_madeOfRow_87 ?_
          obtain ⟨G20, eG20, h⟩ := gb_s h
          refine g_put X hI (k := 4) (v := .int (v19 + 1)) (G' := G20) eG20 (C := RX5) (T := TX5) (N := 9) rfl gu_X5 tyX5 tyX5_ok nmX5 (by decide) tw_1_76 rfl rfl rfl dX5_madeOfRow_88 (fun H locs hI => ?_)
          refine lv_aload_n hx hb dX5_madeOfRow_91 rfl (lv_at hl 2 rfl) ?_
          obtain ⟨v21, ev21, h⟩ := gb_s h
          refine g_get X hI (g_fI_s ev21) (C := RX5) (T := TX5) (N := 9) rfl gu_X5 (by decide) tw_1_76 dX5_madeOfRow_92 ?_
          refine lv_iconst (v := 1) hx hb dX5_madeOfRow_95 (by decide) ?_
          refine lv_isub (x := v21) (y := 1) hx hb dX5_madeOfRow_96 ?_
          obtain ⟨h, h2, h3⟩ := g_sp3 h
          subst h
          subst h2
          subst h3
          exact g_iret X hI dX5_madeOfRow_97
        · have h := g_f _ c h
          refine lv_bipush (v := (-2)) hx hb dX5_madeOfRow_40 (by decide) ?_
          obtain ⟨h, h2, h3⟩ := g_sp3 h
          subst h
          subst h2
          subst h3
          refine W.widen (k := 4) (n := 249) (by decide) (by decide) ?_
          exact g_iret X hI dX5_madeOfRow_42
abbrev rm_X5_madeOfZeros : Room := { frames := 4, cells := 4, slots := 249, locals := 106 }
def f_X5_madeOfZeros_2 : Nat → gG → Nat → Nat → Int32 → Int32 → Option (Int32 × gG × Nat)
  | 0, _, _, _, _, _ => none
  | fu + 1, G, n, x0, x1, x2 =>
    gb (g_fA G x0 4 3) fun g1 =>
    gb (g_len G g1) fun v2 =>
    if v2 ≤ x2 then
      gck (g_isO G x0 4) <|
      gb3 (f_X5_madeOfRow G n x0 x1) fun r3 G4 n5 =>
      some (r3, G4, n5)
    else
    gb (g_fA G x0 4 3) fun g6 =>
    gb (g_ls G g6 x2 0) fun G7 =>
    gl (x2 + 1 : Int32) fun v8 =>
    f_X5_madeOfZeros_2 fu G7 n x0 x1 v8
set_option maxHeartbeats 4000000 in
set_option maxRecDepth 100000 in
theorem b_X5_madeOfZeros_2 {p : Program} {l : Launch} {e : Env} {s : State} {m : MethodId} {args : Array Value} {below : List Frame} {meth : Method} {c : Code} {E : gE} {G0 : gG} {n0 : Nat} (X : g_X E G0 n0 p s m args meth c cX5_madeOfZeros 3 RX5 "madeOfZeros" (some .int)) {r : Int32} {Gr : gG} {nr : Nat} (fu : Nat) : ∀ {G : gG} {n : Nat} {H : Heap} {locs : List Loc} (_ : g_I E (g_A G0 n0) G n s.heap H locs) {x0 : Nat} {x1 : Int32} {x2 : Int32} (_ : f_X5_madeOfZeros_2 fu G n x0 x1 x2 = some (r, Gr, nr)) {ls : Array Slot} (_ : lv_has ls 3 [(0, .ref x0), (1, .int x1), (2, .int x2)]), W p l e rm_X5_madeOfZeros s m args below meth c H locs 0 0 (MQ below (g_Q E G0 n0 (some (.int r)) Gr nr) args s rm_X5_madeOfZeros.cells rm_X5_madeOfZeros.slots (g_A G0 n0)) (F0 m 2 ls []) := by
  have hx := X.1
  have hb := X.2.1
  induction fu with
  | zero =>
    intro G n H locs hI x0 x1 x2 h ls hl
    rw [f_X5_madeOfZeros_2] at h
    cases h
  | succ fu ih =>
    intro G n H locs hI x0 x1 x2 h ls hl
    rw [f_X5_madeOfZeros_2] at h
    refine lv_iload_n hx hb dX5_madeOfZeros_2 rfl (lv_at hl 2 rfl) ?_
    refine lv_aload_n hx hb dX5_madeOfZeros_3 rfl (lv_at hl 0 rfl) ?_
    obtain ⟨g1, eg1, h⟩ := gb_s h
    refine g_get X hI (g_fA_s eg1) (C := RX5) (T := TX5) (N := 9) rfl gu_X5 (by decide) tw_1_75 dX5_madeOfZeros_4 ?_
    obtain ⟨v2, ev2, h⟩ := gb_s h
    refine g_alen X hI ev2 dX5_madeOfZeros_7 ?_
    refine lv_icmp_ge (tgt := 24) hx hb dX5_madeOfZeros_8 (by decide) (fun c => ?_) (fun c => ?_)
    · have h := g_t _ c h
      refine lv_aload_n hx hb dX5_madeOfZeros_24 rfl (lv_at hl 0 rfl) ?_
      refine lv_iload_n hx hb dX5_madeOfZeros_25 rfl (lv_at hl 1 rfl) ?_
      obtain ⟨cO, h⟩ := gck_s h
      obtain ⟨r3, G4, n5, er3, h⟩ := gb3_s h
      refine g_callV X hI (q := (RX5, TX5, 9)) (b := x0) (av := [.int x1]) cO rfl (c_X5_madeOfRow er3) gm_X5_madeOfRow tw_1_124 tw_1_126 tw_p_3 ⟨by decide, by decide⟩ hl.1 (rest := []) rfl (Nat.le_of_ble_eq_true rfl) dX5_madeOfZeros_26 ⟨by decide, by decide⟩ (st1 := [.int r3]) rfl (cells' := 4) (slots' := 249) rfl rfl (fun H locs hI => ?_)
      obtain ⟨h, h2, h3⟩ := g_sp3 h
      subst h
      subst h2
      subst h3
      exact g_iret X hI dX5_madeOfZeros_29
    · have h := g_f _ c h
      refine lv_aload_n hx hb dX5_madeOfZeros_11 rfl (lv_at hl 0 rfl) ?_
      obtain ⟨g6, eg6, h⟩ := gb_s h
      refine g_get X hI (g_fA_s eg6) (C := RX5) (T := TX5) (N := 9) rfl gu_X5 (by decide) tw_1_75 dX5_madeOfZeros_12 ?_
      refine lv_iload_n hx hb dX5_madeOfZeros_15 rfl (lv_at hl 2 rfl) ?_
      refine lv_lconst (v := 0) hx hb dX5_madeOfZeros_16 (by decide) ?_
      obtain ⟨G7, eG7, h⟩ := gb_s h
      refine g_last X hI (G' := G7) eG7 dX5_madeOfZeros_17 (fun H locs hI => ?_)
      obtain ⟨v8, ev8, h⟩ := gl_s h
      refine lv_iinc (v := v8) (lv' := [(2, .int v8), (0, .ref x0), (1, .int x1)]) hx hb dX5_madeOfZeros_18 hl (k := 2) rfl (by rw [← ev8]; rfl) (by decide) rfl (fun ls hl => ?_)
      refine lv_goto (tgt := 2) hx hb dX5_madeOfZeros_21 (by decide) ?_
      exact ih hI h (lv_sub hl [1, 2, 0] rfl)
def f_X5_madeOfZeros (G : gG) (n : Nat) (th : Nat) (a1 : Int32) : Option (Int32 × gG × Nat) :=
  f_X5_madeOfZeros_2 5000 G n th a1 0
theorem gm_X5_madeOfZeros : g_M yX5_madeOfZeros cX5_madeOfZeros 3 (some .int) 1 := ⟨tw_1_123, tw_1_1, by decide +kernel, Or.inl (by decide +kernel)⟩
set_option maxHeartbeats 4000000 in
set_option maxRecDepth 100000 in
theorem c_X5_madeOfZeros {l : Launch} {E : gE} {G : gG} {n : Nat} {th : Nat} {a1 : Int32} {r : Int32} {Gr : gG} {nr : Nat} (h : f_X5_madeOfZeros G n th a1 = some (r, Gr, nr)) : g_Met l yX5_madeOfZeros cX5_madeOfZeros 3 (some .int) rm_X5_madeOfZeros E G n [.ref th, .int a1] (some (.int r)) Gr nr := by
  refine g_ofW gm_X5_madeOfZeros (Nat.le_of_ble_eq_true rfl) ?_
  intro p e s m below meth c ls X hl hI
  have hx := X.1
  have hb := X.2.1
  have X : g_X E G n p s m _ meth c cX5_madeOfZeros 3 RX5 "madeOfZeros" (some .int) := X
  have hl : lv_has ls 3 [(0, .ref th), (1, .int a1)] := hl
  unfold f_X5_madeOfZeros at h
  refine lv_iconst (v := 0) hx hb dX5_madeOfZeros_0 (by decide) ?_
  refine lv_istore_n (lv' := [(2, .int 0), (0, .ref th), (1, .int a1)]) hx hb dX5_madeOfZeros_1 rfl hl (by decide) rfl (fun ls hl => ?_)
  exact b_X5_madeOfZeros_2 X 5000 hI h (lv_sub hl [1, 2, 0] rfl)
abbrev rm_X5_tensor : Room := { frames := 5, cells := 4, slots := 249, locals := 128 }
def f_X5_tensor (G : gG) (n : Nat) (th : Nat) (a1 : Int32) : Option (Int32 × gG × Nat) :=
  if (f_X1_isLane a1) = 0 then
    some ((-1), G, n)
  else
  gck (g_isO G th 4) <|
  gb (f_X5_isFull G th) fun r1 =>
  if r1 = 0 then
    gb (g_fA G th 4 2) fun g2 =>
    gck (g_isO G g2 2) <|
    gb (f_X3_setFromFirst G g2 (-3 : Int32) (-3 : Int32) (-3 : Int32)) fun G3 =>
    gck (g_isO G3 th 4) <|
    gb3 (f_X5_madeOfZeros G3 n th a1) fun r4 G5 n6 =>
    some (r4, G5, n6)
  else
  some ((-2), G, n)
theorem gm_X5_tensor : g_M yX5_tensor cX5_tensor 2 (some .int) 1 := ⟨tw_1_104, tw_1_1, by decide +kernel, Or.inl (by decide +kernel)⟩
set_option maxHeartbeats 4000000 in
set_option maxRecDepth 100000 in
theorem c_X5_tensor {l : Launch} {E : gE} {G : gG} {n : Nat} {th : Nat} {a1 : Int32} {r : Int32} {Gr : gG} {nr : Nat} (h : f_X5_tensor G n th a1 = some (r, Gr, nr)) : g_Met l yX5_tensor cX5_tensor 2 (some .int) rm_X5_tensor E G n [.ref th, .int a1] (some (.int r)) Gr nr := by
  refine g_ofW gm_X5_tensor (Nat.le_of_ble_eq_true rfl) ?_
  intro p e s m below meth c ls X hl hI
  have hx := X.1
  have hb := X.2.1
  have X : g_X E G n p s m _ meth c cX5_tensor 2 RX5 "tensor" (some .int) := X
  have hl : lv_has ls 2 [(0, .ref th), (1, .int a1)] := hl
  unfold f_X5_tensor at h
  refine lv_iload_n hx hb dX5_tensor_0 rfl (lv_at hl 1 rfl) ?_
  refine g_callS X hI (av := [.int a1]) (c_X1_isLane a1) gm_X1_isLane tw_1_105 tw_1_106 ⟨by decide, by decide⟩ hl.1 (rest := []) rfl (Nat.le_of_ble_eq_true rfl) dX5_tensor_1 ⟨by decide, by decide⟩ (st1 := [.int (f_X1_isLane a1)]) rfl (cells' := 0) (slots' := 0) rfl rfl (fun H locs hI => ?_)
  refine lv_if_ne (tgt := 9) hx hb dX5_tensor_4 (by decide) (fun c => ?_) (fun c => ?_)
  · have h := g_f _ c h
    refine lv_aload_n hx hb dX5_tensor_9 rfl (lv_at hl 0 rfl) ?_
    obtain ⟨cO, h⟩ := gck_s h
    obtain ⟨r1, er1, h⟩ := gb_s h
    refine g_callV X hI (q := (RX5, TX5, 9)) (b := th) (av := []) cO rfl (c_X5_isFull er1) gm_X5_isFull tw_1_108 tw_1_110 tw_p_0 ⟨by decide, by decide⟩ hl.1 (rest := []) rfl (Nat.le_of_ble_eq_true rfl) dX5_tensor_10 ⟨by decide, by decide⟩ (st1 := [.int r1]) rfl (cells' := 0) (slots' := 0) rfl rfl (fun H locs hI => ?_)
    refine lv_if_eq (tgt := 19) hx hb dX5_tensor_13 (by decide) (fun c => ?_) (fun c => ?_)
    · have h := g_t _ c h
      refine lv_aload_n hx hb dX5_tensor_19 rfl (lv_at hl 0 rfl) ?_
      obtain ⟨g2, eg2, h⟩ := gb_s h
      refine g_get X hI (g_fA_s eg2) (C := RX5) (T := TX5) (N := 9) rfl gu_X5 (by decide) tw_1_74 dX5_tensor_20 ?_
      refine lv_bipush (v := (-3)) hx hb dX5_tensor_23 (by decide) ?_
      refine lv_bipush (v := (-3)) hx hb dX5_tensor_25 (by decide) ?_
      refine lv_bipush (v := (-3)) hx hb dX5_tensor_27 (by decide) ?_
      obtain ⟨cO, h⟩ := gck_s h
      obtain ⟨G3, eG3, h⟩ := gb_s h
      refine g_callV X hI (q := (RX3, TX3, 2)) (b := g2) (av := [.int (-3), .int (-3), .int (-3)]) cO rfl (c_X3_setFromFirst eG3) gm_X3_setFromFirst tw_1_112 tw_1_113 tw_1_114 ⟨by decide, by decide⟩ hl.1 (rest := []) rfl (Nat.le_of_ble_eq_true rfl) dX5_tensor_29 ⟨by decide, by decide⟩ (st1 := []) rfl (cells' := 0) (slots' := 0) rfl rfl (fun H locs hI => ?_)
      refine lv_aload_n hx hb dX5_tensor_32 rfl (lv_at hl 0 rfl) ?_
      refine lv_iload_n hx hb dX5_tensor_33 rfl (lv_at hl 1 rfl) ?_
      obtain ⟨cO, h⟩ := gck_s h
      obtain ⟨r4, G5, n6, er4, h⟩ := gb3_s h
      refine g_callV X hI (q := (RX5, TX5, 9)) (b := th) (av := [.int a1]) cO rfl (c_X5_madeOfZeros er4) gm_X5_madeOfZeros tw_1_120 tw_1_122 tw_p_2 ⟨by decide, by decide⟩ hl.1 (rest := []) rfl (Nat.le_of_ble_eq_true rfl) dX5_tensor_34 ⟨by decide, by decide⟩ (st1 := [.int r4]) rfl (cells' := 4) (slots' := 249) rfl rfl (fun H locs hI => ?_)
      obtain ⟨h, h2, h3⟩ := g_sp3 h
      subst h
      subst h2
      subst h3
      exact g_iret X hI dX5_tensor_37
    · have h := g_f _ c h
      refine lv_bipush (v := (-2)) hx hb dX5_tensor_16 (by decide) ?_
      obtain ⟨h, h2, h3⟩ := g_sp3 h
      subst h
      subst h2
      subst h3
      refine W.widen (k := 4) (n := 249) (by decide) (by decide) ?_
      exact g_iret X hI dX5_tensor_18
  · have h := g_t _ c h
    refine lv_iconst (v := (-1)) hx hb dX5_tensor_7 (by decide) ?_
    obtain ⟨h, h2, h3⟩ := g_sp3 h
    subst h
    subst h2
    subst h3
    refine W.widen (k := 4) (n := 249) (by decide) (by decide) ?_
    exact g_iret X hI dX5_tensor_8
abbrev rm_X5_failed : Room := { frames := 0, cells := 0, slots := 0, locals := 0 }
def f_X5_failed (G : gG) (th : Nat) (a1 : Int32) (a2 : Int32) : Option (Int32 × gG) :=
  gb (g_fI G th 4 7) fun v1 =>
  gb (g_sI G th 4 7 (v1 + 1)) fun G2 =>
  gb (g_sI G2 th 4 8 a2) fun G3 =>
  some (((-10 : Int32) - a1), G3)
theorem gm_X5_failed : g_M yX5_failed cX5_failed 3 (some .int) 2 := ⟨tw_1_170, tw_1_1, by decide +kernel, Or.inl (by decide +kernel)⟩
set_option maxHeartbeats 4000000 in
set_option maxRecDepth 100000 in
theorem c_X5_failed {l : Launch} {E : gE} {G : gG} {n : Nat} {th : Nat} {a1 : Int32} {a2 : Int32} {r : Int32} {Gr : gG} (h : f_X5_failed G th a1 a2 = some (r, Gr)) : g_Met l yX5_failed cX5_failed 3 (some .int) rm_X5_failed E G n [.ref th, .int a1, .int a2] (some (.int r)) Gr n := by
  refine g_ofW gm_X5_failed (Nat.le_of_ble_eq_true rfl) ?_
  intro p e s m below meth c ls X hl hI
  have hx := X.1
  have hb := X.2.1
  have X : g_X E G n p s m _ meth c cX5_failed 3 RX5 "failed" (some .int) := X
  have hl : lv_has ls 3 [(0, .ref th), (1, .int a1), (2, .int a2)] := hl
  unfold f_X5_failed at h
  refine lv_aload_n hx hb dX5_failed_0 rfl (lv_at hl 0 rfl) ?_
  refine lv_dup hx hb dX5_failed_1 rfl ?_
  obtain ⟨v1, ev1, h⟩ := gb_s h
  refine g_get X hI (g_fI_s ev1) (C := RX5) (T := TX5) (N := 9) rfl gu_X5 (by decide) tw_1_79 dX5_failed_2 ?_
  refine lv_iconst (v := 1) hx hb dX5_failed_5 (by decide) ?_
  refine lv_iadd (x := v1) (y := 1) hx hb dX5_failed_6 ?_
  obtain ⟨G2, eG2, h⟩ := gb_s h
  refine g_put X hI (k := 7) (v := .int (v1 + 1)) (G' := G2) eG2 (C := RX5) (T := TX5) (N := 9) rfl gu_X5 tyX5 tyX5_ok nmX5 (by decide) tw_1_79 rfl rfl rfl dX5_failed_7 (fun H locs hI => ?_)
  refine lv_aload_n hx hb dX5_failed_10 rfl (lv_at hl 0 rfl) ?_
  refine lv_iload_n hx hb dX5_failed_11 rfl (lv_at hl 2 rfl) ?_
  obtain ⟨G3, eG3, h⟩ := gb_s h
  refine g_put X hI (k := 8) (v := .int a2) (G' := G3) eG3 (C := RX5) (T := TX5) (N := 9) rfl gu_X5 tyX5 tyX5_ok nmX5 (by decide) tw_1_80 rfl rfl rfl dX5_failed_12 (fun H locs hI => ?_)
  refine lv_bipush (v := (-10)) hx hb dX5_failed_15 (by decide) ?_
  refine lv_iload_n hx hb dX5_failed_17 rfl (lv_at hl 1 rfl) ?_
  refine lv_isub (x := (-10)) (y := a1) hx hb dX5_failed_18 ?_
  obtain ⟨h, h2⟩ := g_sp2 h
  subst h
  subst h2
  exact g_iret X hI dX5_failed_19
abbrev rm_X5_shaped : Room := { frames := 5, cells := 4, slots := 249, locals := 128 }
def f_X5_shaped_85 (G : gG) (n : Nat) (x0 : Nat) (x1 : Int32) (x2 : Int32) (x3 : Int32) (x4 : Int32) : Option (Int32 × gG × Nat) :=
  gb (g_fA G x0 4 2) fun g1 =>
  gck (g_isO G g1 2) <|
  gb (f_X3_setFromFirst G g1 x2 x3 x4) fun G2 =>
  gb (g_fA G2 x0 4 2) fun g3 =>
  gck (g_isO G2 g3 2) <|
  gb (f_X3_size G2 g3) fun r4 =>
  if r4 ≤ 240 then
    gck (g_isO G2 x0 4) <|
    gb3 (f_X5_madeOfZeros G2 n x0 x1) fun r5 G6 n7 =>
    some (r5, G6, n7)
  else
  gck (g_isO G2 x0 4) <|
  gb2 (f_X5_failed G2 x0 (6 : Int32) (-3 : Int32)) fun r8 G9 =>
  some (r8, G9, n)
set_option maxHeartbeats 4000000 in
set_option maxRecDepth 100000 in
theorem b_X5_shaped_85 {p : Program} {l : Launch} {e : Env} {s : State} {m : MethodId} {args : Array Value} {below : List Frame} {meth : Method} {c : Code} {E : gE} {G0 : gG} {n0 : Nat} (X : g_X E G0 n0 p s m args meth c cX5_shaped 5 RX5 "shaped" (some .int)) {G : gG} {n : Nat} {r : Int32} {Gr : gG} {nr : Nat} {H : Heap} {locs : List Loc} (hI : g_I E (g_A G0 n0) G n s.heap H locs) {x0 : Nat} {x1 : Int32} {x2 : Int32} {x3 : Int32} {x4 : Int32} (h : f_X5_shaped_85 G n x0 x1 x2 x3 x4 = some (r, Gr, nr)) {ls : Array Slot} (hl : lv_has ls 5 [(0, .ref x0), (1, .int x1), (2, .int x2), (3, .int x3), (4, .int x4)]) : W p l e rm_X5_shaped s m args below meth c H locs 0 0 (MQ below (g_Q E G0 n0 (some (.int r)) Gr nr) args s rm_X5_shaped.cells rm_X5_shaped.slots (g_A G0 n0)) (F0 m 85 ls []) := by
  have hx := X.1
  have hb := X.2.1
  unfold f_X5_shaped_85 at h
  refine lv_aload_n hx hb dX5_shaped_85 rfl (lv_at hl 0 rfl) ?_
  obtain ⟨g1, eg1, h⟩ := gb_s h
  refine g_get X hI (g_fA_s eg1) (C := RX5) (T := TX5) (N := 9) rfl gu_X5 (by decide) tw_1_74 dX5_shaped_86 ?_
  refine lv_iload_n hx hb dX5_shaped_89 rfl (lv_at hl 2 rfl) ?_
  refine lv_iload_n hx hb dX5_shaped_90 rfl (lv_at hl 3 rfl) ?_
  refine lv_iload hx hb dX5_shaped_91 (lv_at hl 4 rfl) ?_
  obtain ⟨cO, h⟩ := gck_s h
  obtain ⟨G2, eG2, h⟩ := gb_s h
  refine g_callV X hI (q := (RX3, TX3, 2)) (b := g1) (av := [.int x2, .int x3, .int x4]) cO rfl (c_X3_setFromFirst eG2) gm_X3_setFromFirst tw_1_112 tw_1_113 tw_1_114 ⟨by decide, by decide⟩ hl.1 (rest := []) rfl (Nat.le_of_ble_eq_true rfl) dX5_shaped_93 ⟨by decide, by decide⟩ (st1 := []) rfl (cells' := 0) (slots' := 0) rfl rfl (fun H locs hI => ?_)
  refine lv_aload_n hx hb dX5_shaped_96 rfl (lv_at hl 0 rfl) ?_
  obtain ⟨g3, eg3, h⟩ := gb_s h
  refine g_get X hI (g_fA_s eg3) (C := RX5) (T := TX5) (N := 9) rfl gu_X5 (by decide) tw_1_74 dX5_shaped_97 ?_
  obtain ⟨cO, h⟩ := gck_s h
  obtain ⟨r4, er4, h⟩ := gb_s h
  refine g_callV X hI (q := (RX3, TX3, 2)) (b := g3) (av := []) cO rfl (c_X3_size er4) gm_X3_size tw_1_128 tw_1_129 tw_1_130 ⟨by decide, by decide⟩ hl.1 (rest := []) rfl (Nat.le_of_ble_eq_true rfl) dX5_shaped_100 ⟨by decide, by decide⟩ (st1 := [.int r4]) rfl (cells' := 0) (slots' := 0) rfl rfl (fun H locs hI => ?_)
  refine lv_sipush (v := 240) hx hb dX5_shaped_103 (by decide) ?_
  refine lv_icmp_le (tgt := 118) hx hb dX5_shaped_106 (by decide) (fun c => ?_) (fun c => ?_)
  · have h := g_t _ c h
    refine lv_aload_n hx hb dX5_shaped_118 rfl (lv_at hl 0 rfl) ?_
    refine lv_iload_n hx hb dX5_shaped_119 rfl (lv_at hl 1 rfl) ?_
    obtain ⟨cO, h⟩ := gck_s h
    obtain ⟨r5, G6, n7, er5, h⟩ := gb3_s h
    refine g_callV X hI (q := (RX5, TX5, 9)) (b := x0) (av := [.int x1]) cO rfl (c_X5_madeOfZeros er5) gm_X5_madeOfZeros tw_1_120 tw_1_122 tw_p_2 ⟨by decide, by decide⟩ hl.1 (rest := []) rfl (Nat.le_of_ble_eq_true rfl) dX5_shaped_120 ⟨by decide, by decide⟩ (st1 := [.int r5]) rfl (cells' := 4) (slots' := 249) rfl rfl (fun H locs hI => ?_)
    obtain ⟨h, h2, h3⟩ := g_sp3 h
    subst h
    subst h2
    subst h3
    exact g_iret X hI dX5_shaped_123
  · have h := g_f _ c h
    refine lv_aload_n hx hb dX5_shaped_109 rfl (lv_at hl 0 rfl) ?_
    refine lv_bipush (v := 6) hx hb dX5_shaped_110 (by decide) ?_
    refine lv_bipush (v := (-3)) hx hb dX5_shaped_112 (by decide) ?_
    obtain ⟨cO, h⟩ := gck_s h
    obtain ⟨r8, G9, er8, h⟩ := gb2_s h
    refine g_callV X hI (q := (RX5, TX5, 9)) (b := x0) (av := [.int 6, .int (-3)]) cO rfl (c_X5_failed er8) gm_X5_failed tw_1_167 tw_1_169 tw_p_4 ⟨by decide, by decide⟩ hl.1 (rest := []) rfl (Nat.le_of_ble_eq_true rfl) dX5_shaped_114 ⟨by decide, by decide⟩ (st1 := [.int r8]) rfl (cells' := 0) (slots' := 0) rfl rfl (fun H locs hI => ?_)
    obtain ⟨h, h2, h3⟩ := g_sp3 h
    subst h
    subst h2
    subst h3
    refine W.widen (k := 4) (n := 249) (by decide) (by decide) ?_
    exact g_iret X hI dX5_shaped_117
def f_X5_shaped_77 (G : gG) (n : Nat) (x0 : Nat) : Option (Int32 × gG × Nat) :=
  gck (g_isO G x0 4) <|
  gb2 (f_X5_failed G x0 (3 : Int32) (-3 : Int32)) fun r1 G2 =>
  some (r1, G2, n)
set_option maxHeartbeats 4000000 in
set_option maxRecDepth 100000 in
theorem b_X5_shaped_77 {p : Program} {l : Launch} {e : Env} {s : State} {m : MethodId} {args : Array Value} {below : List Frame} {meth : Method} {c : Code} {E : gE} {G0 : gG} {n0 : Nat} (X : g_X E G0 n0 p s m args meth c cX5_shaped 5 RX5 "shaped" (some .int)) {G : gG} {n : Nat} {r : Int32} {Gr : gG} {nr : Nat} {H : Heap} {locs : List Loc} (hI : g_I E (g_A G0 n0) G n s.heap H locs) {x0 : Nat} (h : f_X5_shaped_77 G n x0 = some (r, Gr, nr)) {ls : Array Slot} (hl : lv_has ls 5 [(0, .ref x0)]) : W p l e rm_X5_shaped s m args below meth c H locs 0 0 (MQ below (g_Q E G0 n0 (some (.int r)) Gr nr) args s rm_X5_shaped.cells rm_X5_shaped.slots (g_A G0 n0)) (F0 m 77 ls []) := by
  have hx := X.1
  have hb := X.2.1
  unfold f_X5_shaped_77 at h
  refine lv_aload_n hx hb dX5_shaped_77 rfl (lv_at hl 0 rfl) ?_
  refine lv_iconst (v := 3) hx hb dX5_shaped_78 (by decide) ?_
  refine lv_bipush (v := (-3)) hx hb dX5_shaped_79 (by decide) ?_
  obtain ⟨cO, h⟩ := gck_s h
  obtain ⟨r1, G2, er1, h⟩ := gb2_s h
  refine g_callV X hI (q := (RX5, TX5, 9)) (b := x0) (av := [.int 3, .int (-3)]) cO rfl (c_X5_failed er1) gm_X5_failed tw_1_167 tw_1_169 tw_p_4 ⟨by decide, by decide⟩ hl.1 (rest := []) rfl (Nat.le_of_ble_eq_true rfl) dX5_shaped_81 ⟨by decide, by decide⟩ (st1 := [.int r1]) rfl (cells' := 0) (slots' := 0) rfl rfl (fun H locs hI => ?_)
  obtain ⟨h, h2, h3⟩ := g_sp3 h
  subst h
  subst h2
  subst h3
  refine W.widen (k := 4) (n := 249) (by decide) (by decide) ?_
  exact g_iret X hI dX5_shaped_84
def f_X5_shaped_65 (G : gG) (n : Nat) (x0 : Nat) (x1 : Int32) (x2 : Int32) (x3 : Int32) (x4 : Int32) : Option (Int32 × gG × Nat) :=
  if (0 : Int32) ≤ x4 then
    f_X5_shaped_85 G n x0 x1 x2 x3 x4
  else
  if x4 = (-3) then
    f_X5_shaped_85 G n x0 x1 x2 x3 x4
  else
  f_X5_shaped_77 G n x0
set_option maxHeartbeats 4000000 in
set_option maxRecDepth 100000 in
theorem b_X5_shaped_65 {p : Program} {l : Launch} {e : Env} {s : State} {m : MethodId} {args : Array Value} {below : List Frame} {meth : Method} {c : Code} {E : gE} {G0 : gG} {n0 : Nat} (X : g_X E G0 n0 p s m args meth c cX5_shaped 5 RX5 "shaped" (some .int)) {G : gG} {n : Nat} {r : Int32} {Gr : gG} {nr : Nat} {H : Heap} {locs : List Loc} (hI : g_I E (g_A G0 n0) G n s.heap H locs) {x0 : Nat} {x1 : Int32} {x2 : Int32} {x3 : Int32} {x4 : Int32} (h : f_X5_shaped_65 G n x0 x1 x2 x3 x4 = some (r, Gr, nr)) {ls : Array Slot} (hl : lv_has ls 5 [(0, .ref x0), (1, .int x1), (2, .int x2), (3, .int x3), (4, .int x4)]) : W p l e rm_X5_shaped s m args below meth c H locs 0 0 (MQ below (g_Q E G0 n0 (some (.int r)) Gr nr) args s rm_X5_shaped.cells rm_X5_shaped.slots (g_A G0 n0)) (F0 m 65 ls []) := by
  have hx := X.1
  have hb := X.2.1
  unfold f_X5_shaped_65 at h
  refine lv_iload hx hb dX5_shaped_65 (lv_at hl 4 rfl) ?_
  refine lv_if_ge (tgt := 85) hx hb dX5_shaped_67 (by decide) (fun c => ?_) (fun c => ?_)
  · have h := g_t _ c h
    exact b_X5_shaped_85 X hI h (lv_sub hl [0, 1, 2, 3, 4] rfl)
  · have h := g_f _ c h
    refine lv_iload hx hb dX5_shaped_70 (lv_at hl 4 rfl) ?_
    refine lv_bipush (v := (-3)) hx hb dX5_shaped_72 (by decide) ?_
    refine lv_icmp_eq (tgt := 85) hx hb dX5_shaped_74 (by decide) (fun c => ?_) (fun c => ?_)
    · have h := g_t _ c h
      exact b_X5_shaped_85 X hI h (lv_sub hl [0, 1, 2, 3, 4] rfl)
    · have h := g_f _ c h
      exact b_X5_shaped_77 X hI h (lv_sub hl [0] rfl)
def f_X5_shaped_41 (G : gG) (n : Nat) (x0 : Nat) (x1 : Int32) (x2 : Int32) (x3 : Int32) (x4 : Int32) : Option (Int32 × gG × Nat) :=
  gck (g_isO G x0 4) <|
  gb (f_X5_isFull G x0) fun r1 =>
  if r1 = 0 then
    if x2 < 0 then
      f_X5_shaped_77 G n x0
    else
    if (0 : Int32) ≤ x3 then
      f_X5_shaped_65 G n x0 x1 x2 x3 x4
    else
    if x3 = (-3) then
      f_X5_shaped_65 G n x0 x1 x2 x3 x4
    else
    f_X5_shaped_77 G n x0
  else
  some ((-2), G, n)
set_option maxHeartbeats 4000000 in
set_option maxRecDepth 100000 in
theorem b_X5_shaped_41 {p : Program} {l : Launch} {e : Env} {s : State} {m : MethodId} {args : Array Value} {below : List Frame} {meth : Method} {c : Code} {E : gE} {G0 : gG} {n0 : Nat} (X : g_X E G0 n0 p s m args meth c cX5_shaped 5 RX5 "shaped" (some .int)) {G : gG} {n : Nat} {r : Int32} {Gr : gG} {nr : Nat} {H : Heap} {locs : List Loc} (hI : g_I E (g_A G0 n0) G n s.heap H locs) {x0 : Nat} {x1 : Int32} {x2 : Int32} {x3 : Int32} {x4 : Int32} (h : f_X5_shaped_41 G n x0 x1 x2 x3 x4 = some (r, Gr, nr)) {ls : Array Slot} (hl : lv_has ls 5 [(0, .ref x0), (1, .int x1), (2, .int x2), (3, .int x3), (4, .int x4)]) : W p l e rm_X5_shaped s m args below meth c H locs 0 0 (MQ below (g_Q E G0 n0 (some (.int r)) Gr nr) args s rm_X5_shaped.cells rm_X5_shaped.slots (g_A G0 n0)) (F0 m 41 ls []) := by
  have hx := X.1
  have hb := X.2.1
  unfold f_X5_shaped_41 at h
  refine lv_aload_n hx hb dX5_shaped_41 rfl (lv_at hl 0 rfl) ?_
  obtain ⟨cO, h⟩ := gck_s h
  obtain ⟨r1, er1, h⟩ := gb_s h
  refine g_callV X hI (q := (RX5, TX5, 9)) (b := x0) (av := []) cO rfl (c_X5_isFull er1) gm_X5_isFull tw_1_108 tw_1_110 tw_p_0 ⟨by decide, by decide⟩ hl.1 (rest := []) rfl (Nat.le_of_ble_eq_true rfl) dX5_shaped_42 ⟨by decide, by decide⟩ (st1 := [.int r1]) rfl (cells' := 0) (slots' := 0) rfl rfl (fun H locs hI => ?_)
  refine lv_if_eq (tgt := 51) hx hb dX5_shaped_45 (by decide) (fun c => ?_) (fun c => ?_)
  · have h := g_t _ c h
    refine lv_iload_n hx hb dX5_shaped_51 rfl (lv_at hl 2 rfl) ?_
    refine lv_if_lt (tgt := 77) hx hb dX5_shaped_52 (by decide) (fun c => ?_) (fun c => ?_)
    · have h := g_t _ c h
      exact b_X5_shaped_77 X hI h (lv_sub hl [0] rfl)
    · have h := g_f _ c h
      refine lv_iload_n hx hb dX5_shaped_55 rfl (lv_at hl 3 rfl) ?_
      refine lv_if_ge (tgt := 65) hx hb dX5_shaped_56 (by decide) (fun c => ?_) (fun c => ?_)
      · have h := g_t _ c h
        exact b_X5_shaped_65 X hI h (lv_sub hl [0, 1, 2, 3, 4] rfl)
      · have h := g_f _ c h
        refine lv_iload_n hx hb dX5_shaped_59 rfl (lv_at hl 3 rfl) ?_
        refine lv_bipush (v := (-3)) hx hb dX5_shaped_60 (by decide) ?_
        refine lv_icmp_ne (tgt := 77) hx hb dX5_shaped_62 (by decide) (fun c => ?_) (fun c => ?_)
        · have h := g_f _ c h
          exact b_X5_shaped_77 X hI h (lv_sub hl [0] rfl)
        · have h := g_t _ c h
          exact b_X5_shaped_65 X hI h (lv_sub hl [0, 1, 2, 3, 4] rfl)
  · have h := g_f _ c h
    refine lv_bipush (v := (-2)) hx hb dX5_shaped_48 (by decide) ?_
    obtain ⟨h, h2, h3⟩ := g_sp3 h
    subst h
    subst h2
    subst h3
    refine W.widen (k := 4) (n := 249) (by decide) (by decide) ?_
    exact g_iret X hI dX5_shaped_50
def f_X5_shaped (G : gG) (n : Nat) (th : Nat) (a1 : Int32) (a2 : Int32) (a3 : Int32) (a4 : Int32) : Option (Int32 × gG × Nat) :=
  if (f_X1_isLane a1) = 0 then
    some ((-1), G, n)
  else
  if (60 : Int32) < a2 then
    some ((-1), G, n)
  else
  if (60 : Int32) < a3 then
    some ((-1), G, n)
  else
  if (60 : Int32) < a4 then
    some ((-1), G, n)
  else
  if a3 = (-3) then
    if a4 = (-3) then
      f_X5_shaped_41 G n th a1 a2 a3 a4
    else
    some ((-1), G, n)
  else
  f_X5_shaped_41 G n th a1 a2 a3 a4
theorem gm_X5_shaped : g_M yX5_shaped cX5_shaped 5 (some .int) 4 := ⟨tw_1_166, tw_1_1, by decide +kernel, Or.inl (by decide +kernel)⟩
set_option maxHeartbeats 4000000 in
set_option maxRecDepth 100000 in
theorem c_X5_shaped {l : Launch} {E : gE} {G : gG} {n : Nat} {th : Nat} {a1 : Int32} {a2 : Int32} {a3 : Int32} {a4 : Int32} {r : Int32} {Gr : gG} {nr : Nat} (h : f_X5_shaped G n th a1 a2 a3 a4 = some (r, Gr, nr)) : g_Met l yX5_shaped cX5_shaped 5 (some .int) rm_X5_shaped E G n [.ref th, .int a1, .int a2, .int a3, .int a4] (some (.int r)) Gr nr := by
  refine g_ofW gm_X5_shaped (Nat.le_of_ble_eq_true rfl) ?_
  intro p e s m below meth c ls X hl hI
  have hx := X.1
  have hb := X.2.1
  have X : g_X E G n p s m _ meth c cX5_shaped 5 RX5 "shaped" (some .int) := X
  have hl : lv_has ls 5 [(0, .ref th), (1, .int a1), (2, .int a2), (3, .int a3), (4, .int a4)] := hl
  unfold f_X5_shaped at h
  refine lv_iload_n hx hb dX5_shaped_0 rfl (lv_at hl 1 rfl) ?_
  refine g_callS X hI (av := [.int a1]) (c_X1_isLane a1) gm_X1_isLane tw_1_105 tw_1_106 ⟨by decide, by decide⟩ hl.1 (rest := []) rfl (Nat.le_of_ble_eq_true rfl) dX5_shaped_1 ⟨by decide, by decide⟩ (st1 := [.int (f_X1_isLane a1)]) rfl (cells' := 0) (slots' := 0) rfl rfl (fun H locs hI => ?_)
  refine lv_if_eq (tgt := 39) hx hb dX5_shaped_4 (by decide) (fun c => ?_) (fun c => ?_)
  · have h := g_t _ c h
    refine lv_iconst (v := (-1)) hx hb dX5_shaped_39 (by decide) ?_
    obtain ⟨h, h2, h3⟩ := g_sp3 h
    subst h
    subst h2
    subst h3
    refine W.widen (k := 4) (n := 249) (by decide) (by decide) ?_
    exact g_iret X hI dX5_shaped_40
  · have h := g_f _ c h
    refine lv_iload_n hx hb dX5_shaped_7 rfl (lv_at hl 2 rfl) ?_
    refine lv_bipush (v := 60) hx hb dX5_shaped_8 (by decide) ?_
    refine lv_icmp_gt (tgt := 39) hx hb dX5_shaped_10 (by decide) (fun c => ?_) (fun c => ?_)
    · have h := g_t _ c h
      refine lv_iconst (v := (-1)) hx hb dX5_shaped_39 (by decide) ?_
      obtain ⟨h, h2, h3⟩ := g_sp3 h
      subst h
      subst h2
      subst h3
      refine W.widen (k := 4) (n := 249) (by decide) (by decide) ?_
      exact g_iret X hI dX5_shaped_40
    · have h := g_f _ c h
      refine lv_iload_n hx hb dX5_shaped_13 rfl (lv_at hl 3 rfl) ?_
      refine lv_bipush (v := 60) hx hb dX5_shaped_14 (by decide) ?_
      refine lv_icmp_gt (tgt := 39) hx hb dX5_shaped_16 (by decide) (fun c => ?_) (fun c => ?_)
      · have h := g_t _ c h
        refine lv_iconst (v := (-1)) hx hb dX5_shaped_39 (by decide) ?_
        obtain ⟨h, h2, h3⟩ := g_sp3 h
        subst h
        subst h2
        subst h3
        refine W.widen (k := 4) (n := 249) (by decide) (by decide) ?_
        exact g_iret X hI dX5_shaped_40
      · have h := g_f _ c h
        refine lv_iload hx hb dX5_shaped_19 (lv_at hl 4 rfl) ?_
        refine lv_bipush (v := 60) hx hb dX5_shaped_21 (by decide) ?_
        refine lv_icmp_gt (tgt := 39) hx hb dX5_shaped_23 (by decide) (fun c => ?_) (fun c => ?_)
        · have h := g_t _ c h
          refine lv_iconst (v := (-1)) hx hb dX5_shaped_39 (by decide) ?_
          obtain ⟨h, h2, h3⟩ := g_sp3 h
          subst h
          subst h2
          subst h3
          refine W.widen (k := 4) (n := 249) (by decide) (by decide) ?_
          exact g_iret X hI dX5_shaped_40
        · have h := g_f _ c h
          refine lv_iload_n hx hb dX5_shaped_26 rfl (lv_at hl 3 rfl) ?_
          refine lv_bipush (v := (-3)) hx hb dX5_shaped_27 (by decide) ?_
          refine lv_icmp_ne (tgt := 41) hx hb dX5_shaped_29 (by decide) (fun c => ?_) (fun c => ?_)
          · have h := g_f _ c h
            exact b_X5_shaped_41 X hI h (lv_sub hl [0, 1, 2, 3, 4] rfl)
          · have h := g_t _ c h
            refine lv_iload hx hb dX5_shaped_32 (lv_at hl 4 rfl) ?_
            refine lv_bipush (v := (-3)) hx hb dX5_shaped_34 (by decide) ?_
            refine lv_icmp_eq (tgt := 41) hx hb dX5_shaped_36 (by decide) (fun c => ?_) (fun c => ?_)
            · have h := g_t _ c h
              exact b_X5_shaped_41 X hI h (lv_sub hl [0, 1, 2, 3, 4] rfl)
            · have h := g_f _ c h
              refine lv_iconst (v := (-1)) hx hb dX5_shaped_39 (by decide) ?_
              obtain ⟨h, h2, h3⟩ := g_sp3 h
              subst h
              subst h2
              subst h3
              refine W.widen (k := 4) (n := 249) (by decide) (by decide) ?_
              exact g_iret X hI dX5_shaped_40
abbrev rm_X5_known : Room := { frames := 0, cells := 0, slots := 0, locals := 0 }
def f_X5_known (G : gG) (th : Nat) (a1 : Int32) : Option (Option Nat) :=
  if a1 < 0 then
    some none
  else
  gb (g_fI G th 4 4) fun v1 =>
  if v1 ≤ a1 then
    some none
  else
  gb (g_fA G th 4 0) fun g2 =>
  gb (g_len G g2) fun v3 =>
  if v3 ≤ a1 then
    some none
  else
  gb (g_fA G th 4 0) fun g4 =>
  gb (g_al G g4 a1) fun o5 =>
  some o5
theorem gm_X5_known : g_M yX5_known cX5_known 2 (some (.object "SpreadRules$Tensor")) 1 := ⟨tw_1_178, tw_1_1, by decide +kernel, Or.inl (by decide +kernel)⟩
set_option maxHeartbeats 4000000 in
set_option maxRecDepth 100000 in
theorem c_X5_known {l : Launch} {E : gE} {G : gG} {n : Nat} {th : Nat} {a1 : Int32} {r : Option Nat} (h : f_X5_known G th a1 = some r) : g_Met l yX5_known cX5_known 2 (some (.object "SpreadRules$Tensor")) rm_X5_known E G n [.ref th, .int a1] (some (va_rf r)) G n := by
  refine g_ofW gm_X5_known (Nat.le_of_ble_eq_true rfl) ?_
  intro p e s m below meth c ls X hl hI
  have hx := X.1
  have hb := X.2.1
  have X : g_X E G n p s m _ meth c cX5_known 2 RX5 "known" (some (.object "SpreadRules$Tensor")) := X
  have hl : lv_has ls 2 [(0, .ref th), (1, .int a1)] := hl
  unfold f_X5_known at h
  refine lv_iload_n hx hb dX5_known_0 rfl (lv_at hl 1 rfl) ?_
  refine lv_if_lt (tgt := 30) hx hb dX5_known_1 (by decide) (fun c => ?_) (fun c => ?_)
  · have h := g_t _ c h
    refine lv_null hx hb dX5_known_30 ?_
    have h := Option.some.inj h
    subst h
    exact g_aret (v := none) X hI dX5_known_31
  · have h := g_f _ c h
    refine lv_iload_n hx hb dX5_known_4 rfl (lv_at hl 1 rfl) ?_
    refine lv_aload_n hx hb dX5_known_5 rfl (lv_at hl 0 rfl) ?_
    obtain ⟨v1, ev1, h⟩ := gb_s h
    refine g_get X hI (g_fI_s ev1) (C := RX5) (T := TX5) (N := 9) rfl gu_X5 (by decide) tw_1_76 dX5_known_6 ?_
    refine lv_icmp_ge (tgt := 30) hx hb dX5_known_9 (by decide) (fun c => ?_) (fun c => ?_)
    · have h := g_t _ c h
      refine lv_null hx hb dX5_known_30 ?_
      have h := Option.some.inj h
      subst h
      exact g_aret (v := none) X hI dX5_known_31
    · have h := g_f _ c h
      refine lv_iload_n hx hb dX5_known_12 rfl (lv_at hl 1 rfl) ?_
      refine lv_aload_n hx hb dX5_known_13 rfl (lv_at hl 0 rfl) ?_
      obtain ⟨g2, eg2, h⟩ := gb_s h
      refine g_get X hI (g_fA_s eg2) (C := RX5) (T := TX5) (N := 9) rfl gu_X5 (by decide) tw_1_72 dX5_known_14 ?_
      obtain ⟨v3, ev3, h⟩ := gb_s h
      refine g_alen X hI ev3 dX5_known_17 ?_
      refine lv_icmp_ge (tgt := 30) hx hb dX5_known_18 (by decide) (fun c => ?_) (fun c => ?_)
      · have h := g_t _ c h
        refine lv_null hx hb dX5_known_30 ?_
        have h := Option.some.inj h
        subst h
        exact g_aret (v := none) X hI dX5_known_31
      · have h := g_f _ c h
        refine lv_aload_n hx hb dX5_known_21 rfl (lv_at hl 0 rfl) ?_
        obtain ⟨g4, eg4, h⟩ := gb_s h
        refine g_get X hI (g_fA_s eg4) (C := RX5) (T := TX5) (N := 9) rfl gu_X5 (by decide) tw_1_72 dX5_known_22 ?_
        refine lv_iload_n hx hb dX5_known_25 rfl (lv_at hl 1 rfl) ?_
        obtain ⟨o5, eo5, h⟩ := gb_s h
        refine g_aald X hI eo5 dX5_known_26 ?_
        refine lv_goto (tgt := 31) hx hb dX5_known_27 (by decide) ?_
        have h := Option.some.inj h
        subst h
        exact g_aret X hI dX5_known_31
abbrev rm_X5_free : Room := { frames := 1, cells := 0, slots := 0, locals := 22 }
def f_X5_free (G : gG) (th : Nat) (a1 : Int32) : Option (Int32 × gG) :=
  gck (g_isO G th 4) <|
  gb (f_X5_known G th a1) fun o1 =>
  gnl o1 (
  some ((-1), G)) fun q2 =>
  gb (g_fI G q2 3 3) fun v3 =>
  if v3 = 0 then
    gb (g_sZ G q2 3 3 1) fun G4 =>
    some (1, G4)
  else
  gck (g_isO G th 4) <|
  gb2 (f_X5_failed G th (1 : Int32) (-3 : Int32)) fun r5 G6 =>
  some (r5, G6)
theorem gm_X5_free : g_M yX5_free cX5_free 3 (some .int) 1 := ⟨tw_1_174, tw_1_1, by decide +kernel, Or.inl (by decide +kernel)⟩
set_option maxHeartbeats 4000000 in
set_option maxRecDepth 100000 in
theorem c_X5_free {l : Launch} {E : gE} {G : gG} {n : Nat} {th : Nat} {a1 : Int32} {r : Int32} {Gr : gG} (h : f_X5_free G th a1 = some (r, Gr)) : g_Met l yX5_free cX5_free 3 (some .int) rm_X5_free E G n [.ref th, .int a1] (some (.int r)) Gr n := by
  refine g_ofW gm_X5_free (Nat.le_of_ble_eq_true rfl) ?_
  intro p e s m below meth c ls X hl hI
  have hx := X.1
  have hb := X.2.1
  have X : g_X E G n p s m _ meth c cX5_free 3 RX5 "free" (some .int) := X
  have hl : lv_has ls 3 [(0, .ref th), (1, .int a1)] := hl
  unfold f_X5_free at h
  refine lv_aload_n hx hb dX5_free_0 rfl (lv_at hl 0 rfl) ?_
  refine lv_iload_n hx hb dX5_free_1 rfl (lv_at hl 1 rfl) ?_
  obtain ⟨cO, h⟩ := gck_s h
  obtain ⟨o1, eo1, h⟩ := gb_s h
  refine g_callV X hI (q := (RX5, TX5, 9)) (b := th) (av := [.int a1]) cO rfl (c_X5_known eo1) gm_X5_known tw_1_175 tw_1_177 tw_p_5 ⟨by decide, by decide⟩ hl.1 (rest := []) rfl (Nat.le_of_ble_eq_true rfl) dX5_free_2 ⟨by decide, by decide⟩ (st1 := [va_rf o1]) rfl (cells' := 0) (slots' := 0) rfl rfl (fun H locs hI => ?_)
  refine g_aso_n (lv' := [(2, va_rf o1), (0, .ref th), (1, .int a1)]) hx hb dX5_free_5 rfl hl (by decide) (by first | rfl | simp [g_rfcat]) (fun ls hl => ?_)
  refine g_alo_n hx hb dX5_free_6 rfl (lv_at hl 0 rfl) ?_
  rcases o1 with _ | q2
  · have h := gnl_n h
    have hl : lv_has ls 3 [(2, .null), (0, .ref th), (1, .int a1)] := hl
    refine lv_ifnonnullN hx hb dX5_free_7 ?_
    refine lv_iconst (v := (-1)) hx hb dX5_free_10 (by decide) ?_
    obtain ⟨h, h2⟩ := g_sp2 h
    subst h
    subst h2
    exact g_iret X hI dX5_free_11
  · have h := gnl_a h
    have hl : lv_has ls 3 [(2, .ref q2), (0, .ref th), (1, .int a1)] := hl
    refine lv_ifnonnull (tgt := 12) hx hb dX5_free_7 (by decide) ?_
    refine lv_aload_n hx hb dX5_free_12 rfl (lv_at hl 0 rfl) ?_
    obtain ⟨v3, ev3, h⟩ := gb_s h
    refine g_get X hI (g_fI_s ev3) (C := RX4) (T := TX4) (N := 4) rfl gu_X4 (by decide) tw_1_150 dX5_free_13 ?_
    refine lv_if_eq (tgt := 27) hx hb dX5_free_16 (by decide) (fun c => ?_) (fun c => ?_)
    · have h := g_t _ c h
      refine lv_aload_n hx hb dX5_free_27 rfl (lv_at hl 0 rfl) ?_
      refine lv_iconst (v := 1) hx hb dX5_free_28 (by decide) ?_
      obtain ⟨G4, eG4, h⟩ := gb_s h
      obtain ⟨cz, eG4⟩ := g_sZ_s eG4
      refine g_put X hI (k := 3) (v := .int 1) (G' := G4) eG4 (C := RX4) (T := TX4) (N := 4) rfl gu_X4 tyX4 tyX4_ok nmX4 (by decide) tw_1_150 rfl (g_nz cz) (g_fz cz) dX5_free_29 (fun H locs hI => ?_)
      refine lv_iconst (v := 1) hx hb dX5_free_32 (by decide) ?_
      obtain ⟨h, h2⟩ := g_sp2 h
      subst h
      subst h2
      exact g_iret X hI dX5_free_33
    · have h := g_f _ c h
      refine lv_aload_n hx hb dX5_free_19 rfl (lv_at hl 1 rfl) ?_
      refine lv_iconst (v := 1) hx hb dX5_free_20 (by decide) ?_
      refine lv_bipush (v := (-3)) hx hb dX5_free_21 (by decide) ?_
      obtain ⟨cO, h⟩ := gck_s h
      obtain ⟨r5, G6, er5, h⟩ := gb2_s h
      refine g_callV X hI (q := (RX5, TX5, 9)) (b := th) (av := [.int 1, .int (-3)]) cO rfl (c_X5_failed er5) gm_X5_failed tw_1_167 tw_1_169 tw_p_4 ⟨by decide, by decide⟩ hl.1 (rest := []) rfl (Nat.le_of_ble_eq_true rfl) dX5_free_23 ⟨by decide, by decide⟩ (st1 := [.int r5]) rfl (cells' := 0) (slots' := 0) rfl rfl (fun H locs hI => ?_)
      obtain ⟨h, h2⟩ := g_sp2 h
      subst h
      subst h2
      exact g_iret X hI dX5_free_26
abbrev rm_X5_setting : Room := { frames := 0, cells := 0, slots := 0, locals := 0 }
def f_X5_setting_11 (G : gG) (x0 : Nat) (x1 : Int32) : Option (Int32 × gG) :=
  gb (g_fI G x0 4 5) fun v1 =>
  gb (g_sI G x0 4 5 x1) fun G2 =>
  some (v1, G2)
set_option maxHeartbeats 4000000 in
set_option maxRecDepth 100000 in
theorem b_X5_setting_11 {p : Program} {l : Launch} {e : Env} {s : State} {m : MethodId} {args : Array Value} {below : List Frame} {meth : Method} {c : Code} {E : gE} {G0 : gG} {n0 : Nat} (X : g_X E G0 n0 p s m args meth c cX5_setting 3 RX5 "setting" (some .int)) {G : gG} {n : Nat} {r : Int32} {Gr : gG} {H : Heap} {locs : List Loc} (hI : g_I E (g_A G0 n0) G n s.heap H locs) {x0 : Nat} {x1 : Int32} (h : f_X5_setting_11 G x0 x1 = some (r, Gr)) {ls : Array Slot} (hl : lv_has ls 3 [(0, .ref x0), (1, .int x1)]) : W p l e rm_X5_setting s m args below meth c H locs 0 0 (MQ below (g_Q E G0 n0 (some (.int r)) Gr n) args s rm_X5_setting.cells rm_X5_setting.slots (g_A G0 n0)) (F0 m 11 ls []) := by
  have hx := X.1
  have hb := X.2.1
  unfold f_X5_setting_11 at h
  refine lv_aload_n hx hb dX5_setting_11 rfl (lv_at hl 0 rfl) ?_
  obtain ⟨v1, ev1, h⟩ := gb_s h
  refine g_get X hI (g_fI_s ev1) (C := RX5) (T := TX5) (N := 9) rfl gu_X5 (by decide) tw_1_77 dX5_setting_12 ?_
  refine lv_istore_n (lv' := [(2, .int v1), (0, .ref x0), (1, .int x1)]) hx hb dX5_setting_15 rfl hl (by decide) rfl (fun ls hl => ?_)
  refine lv_aload_n hx hb dX5_setting_16 rfl (lv_at hl 1 rfl) ?_
  refine lv_iload_n hx hb dX5_setting_17 rfl (lv_at hl 2 rfl) ?_
  obtain ⟨G2, eG2, h⟩ := gb_s h
  refine g_put X hI (k := 5) (v := .int x1) (G' := G2) eG2 (C := RX5) (T := TX5) (N := 9) rfl gu_X5 tyX5 tyX5_ok nmX5 (by decide) tw_1_77 rfl rfl rfl dX5_setting_18 (fun H locs hI => ?_)
  refine lv_iload_n hx hb dX5_setting_21 rfl (lv_at hl 0 rfl) ?_
  obtain ⟨h, h2⟩ := g_sp2 h
  subst h
  subst h2
  exact g_iret X hI dX5_setting_22
def f_X5_setting (G : gG) (th : Nat) (a1 : Int32) : Option (Int32 × gG) :=
  if a1 = 0 then
    f_X5_setting_11 G th a1
  else
  if a1 = 1 then
    f_X5_setting_11 G th a1
  else
  some ((-1), G)
theorem gm_X5_setting : g_M yX5_setting cX5_setting 3 (some .int) 1 := ⟨tw_1_182, tw_1_1, by decide +kernel, Or.inl (by decide +kernel)⟩
set_option maxHeartbeats 4000000 in
set_option maxRecDepth 100000 in
theorem c_X5_setting {l : Launch} {E : gE} {G : gG} {n : Nat} {th : Nat} {a1 : Int32} {r : Int32} {Gr : gG} (h : f_X5_setting G th a1 = some (r, Gr)) : g_Met l yX5_setting cX5_setting 3 (some .int) rm_X5_setting E G n [.ref th, .int a1] (some (.int r)) Gr n := by
  refine g_ofW gm_X5_setting (Nat.le_of_ble_eq_true rfl) ?_
  intro p e s m below meth c ls X hl hI
  have hx := X.1
  have hb := X.2.1
  have X : g_X E G n p s m _ meth c cX5_setting 3 RX5 "setting" (some .int) := X
  have hl : lv_has ls 3 [(0, .ref th), (1, .int a1)] := hl
  unfold f_X5_setting at h
  refine lv_iload_n hx hb dX5_setting_0 rfl (lv_at hl 1 rfl) ?_
  refine lv_if_eq (tgt := 11) hx hb dX5_setting_1 (by decide) (fun c => ?_) (fun c => ?_)
  · have h := g_t _ c h
    exact b_X5_setting_11 X hI h (lv_sub hl [0, 1] rfl)
  · have h := g_f _ c h
    refine lv_iload_n hx hb dX5_setting_4 rfl (lv_at hl 1 rfl) ?_
    refine lv_iconst (v := 1) hx hb dX5_setting_5 (by decide) ?_
    refine lv_icmp_eq (tgt := 11) hx hb dX5_setting_6 (by decide) (fun c => ?_) (fun c => ?_)
    · have h := g_t _ c h
      exact b_X5_setting_11 X hI h (lv_sub hl [0, 1] rfl)
    · have h := g_f _ c h
      refine lv_iconst (v := (-1)) hx hb dX5_setting_9 (by decide) ?_
      obtain ⟨h, h2⟩ := g_sp2 h
      subst h
      subst h2
      exact g_iret X hI dX5_setting_10
abbrev rm_X5_item : Room := { frames := 2, cells := 0, slots := 0, locals := 44 }
def f_X5_item (G : gG) (th : Nat) (a1 : Int32) (a2 : Int32) (a3 : Int64) : Option (Int32 × gG) :=
  gck (g_isO G th 4) <|
  gb (f_X5_known G th a1) fun o1 =>
  gnl o1 (
  some ((-1), G)) fun q2 =>
  gb (g_fI G q2 3 3) fun v3 =>
  if v3 = 0 then
    gck (g_isO G q2 3) <|
    gb (f_X4_hasItem G q2 a2) fun r4 =>
    if r4 = 0 then
      gck (g_isO G th 4) <|
      gb2 (f_X5_failed G th (2 : Int32) (-3 : Int32)) fun r7 G8 =>
      some (r7, G8)
    else
    gb (g_fI G q2 3 0) fun v5 =>
    gck (g_isO G q2 3) <|
    gb (f_X4_write G q2 a2 (f_X1_lowestBits a3 v5)) fun G6 =>
    some (1, G6)
  else
  gck (g_isO G th 4) <|
  gb2 (f_X5_failed G th (1 : Int32) (-3 : Int32)) fun r9 G10 =>
  some (r9, G10)
theorem gm_X5_item : g_M yX5_item cX5_item 6 (some .int) 3 := ⟨tw_1_186, tw_1_1, by decide +kernel, Or.inl (by decide +kernel)⟩
set_option maxHeartbeats 4000000 in
set_option maxRecDepth 100000 in
theorem c_X5_item {l : Launch} {E : gE} {G : gG} {n : Nat} {th : Nat} {a1 : Int32} {a2 : Int32} {a3 : Int64} {r : Int32} {Gr : gG} (h : f_X5_item G th a1 a2 a3 = some (r, Gr)) : g_Met l yX5_item cX5_item 6 (some .int) rm_X5_item E G n [.ref th, .int a1, .int a2, .long a3] (some (.int r)) Gr n := by
  refine g_ofW gm_X5_item (Nat.le_of_ble_eq_true rfl) ?_
  intro p e s m below meth c ls X hl hI
  have hx := X.1
  have hb := X.2.1
  have X : g_X E G n p s m _ meth c cX5_item 6 RX5 "item" (some .int) := X
  have hl : lv_has ls 6 [(0, .ref th), (1, .int a1), (2, .int a2), (3, .long a3)] := hl
  unfold f_X5_item at h
  refine lv_aload_n hx hb dX5_item_0 rfl (lv_at hl 0 rfl) ?_
  refine lv_iload_n hx hb dX5_item_1 rfl (lv_at hl 1 rfl) ?_
  obtain ⟨cO, h⟩ := gck_s h
  obtain ⟨o1, eo1, h⟩ := gb_s h
  refine g_callV X hI (q := (RX5, TX5, 9)) (b := th) (av := [.int a1]) cO rfl (c_X5_known eo1) gm_X5_known tw_1_175 tw_1_177 tw_p_5 ⟨by decide, by decide⟩ hl.1 (rest := []) rfl (Nat.le_of_ble_eq_true rfl) dX5_item_2 ⟨by decide, by decide⟩ (st1 := [va_rf o1]) rfl (cells' := 0) (slots' := 0) rfl rfl (fun H locs hI => ?_)
  refine g_aso (lv' := [(5, va_rf o1), (0, .ref th), (1, .int a1), (2, .int a2), (3, .long a3)]) hx hb dX5_item_5 hl (by decide) (by first | rfl | simp [g_rfcat]) (fun ls hl => ?_)
  refine g_alo hx hb dX5_item_7 (lv_at hl 0 rfl) ?_
  rcases o1 with _ | q2
  · have h := gnl_n h
    have hl : lv_has ls 6 [(5, .null), (0, .ref th), (1, .int a1), (2, .int a2), (3, .long a3)] := hl
    refine lv_ifnonnullN hx hb dX5_item_9 ?_
    refine lv_iconst (v := (-1)) hx hb dX5_item_12 (by decide) ?_
    obtain ⟨h, h2⟩ := g_sp2 h
    subst h
    subst h2
    exact g_iret X hI dX5_item_13
  · have h := gnl_a h
    have hl : lv_has ls 6 [(5, .ref q2), (0, .ref th), (1, .int a1), (2, .int a2), (3, .long a3)] := hl
    refine lv_ifnonnull (tgt := 14) hx hb dX5_item_9 (by decide) ?_
    refine lv_aload hx hb dX5_item_14 (lv_at hl 0 rfl) ?_
    obtain ⟨v3, ev3, h⟩ := gb_s h
    refine g_get X hI (g_fI_s ev3) (C := RX4) (T := TX4) (N := 4) rfl gu_X4 (by decide) tw_1_150 dX5_item_16 ?_
    refine lv_if_eq (tgt := 30) hx hb dX5_item_19 (by decide) (fun c => ?_) (fun c => ?_)
    · have h := g_t _ c h
      refine lv_aload hx hb dX5_item_30 (lv_at hl 0 rfl) ?_
      refine lv_iload_n hx hb dX5_item_32 rfl (lv_at hl 3 rfl) ?_
      obtain ⟨cO, h⟩ := gck_s h
      obtain ⟨r4, er4, h⟩ := gb_s h
      refine g_callV X hI (q := (RX4, TX4, 4)) (b := q2) (av := [.int a2]) cO rfl (c_X4_hasItem er4) gm_X4_hasItem tw_1_187 tw_1_188 tw_1_189 ⟨by decide, by decide⟩ hl.1 (rest := []) rfl (Nat.le_of_ble_eq_true rfl) dX5_item_33 ⟨by decide, by decide⟩ (st1 := [.int r4]) rfl (cells' := 0) (slots' := 0) rfl rfl (fun H locs hI => ?_)
      refine lv_if_ne (tgt := 47) hx hb dX5_item_36 (by decide) (fun c => ?_) (fun c => ?_)
      · have h := g_f _ c h
        refine lv_aload hx hb dX5_item_47 (lv_at hl 0 rfl) ?_
        refine lv_iload_n hx hb dX5_item_49 rfl (lv_at hl 3 rfl) ?_
        refine lv_lload_n hx hb dX5_item_50 rfl (lv_at hl 4 rfl) ?_
        refine lv_aload hx hb dX5_item_51 (lv_at hl 0 rfl) ?_
        obtain ⟨v5, ev5, h⟩ := gb_s h
        refine g_get X hI (g_fI_s ev5) (C := RX4) (T := TX4) (N := 4) rfl gu_X4 (by decide) tw_1_144 dX5_item_53 ?_
        refine g_callS X hI (av := [.long a3, .int v5]) (c_X1_lowestBits a3 v5) gm_X1_lowestBits tw_1_191 tw_1_192 ⟨by decide, by decide⟩ hl.1 (rest := [.int a2, .ref q2]) rfl (Nat.le_of_ble_eq_true rfl) dX5_item_56 ⟨by decide, by decide⟩ (st1 := [.long (f_X1_lowestBits a3 v5), .int a2, .ref q2]) rfl (cells' := 0) (slots' := 0) rfl rfl (fun H locs hI => ?_)
        obtain ⟨cO, h⟩ := gck_s h
        obtain ⟨G6, eG6, h⟩ := gb_s h
        refine g_callV X hI (q := (RX4, TX4, 4)) (b := q2) (av := [.int a2, .long (f_X1_lowestBits a3 v5)]) cO rfl (c_X4_write eG6) gm_X4_write tw_1_200 tw_1_201 tw_1_202 ⟨by decide, by decide⟩ hl.1 (rest := []) rfl (Nat.le_of_ble_eq_true rfl) dX5_item_59 ⟨by decide, by decide⟩ (st1 := []) rfl (cells' := 0) (slots' := 0) rfl rfl (fun H locs hI => ?_)
        refine lv_iconst (v := 1) hx hb dX5_item_62 (by decide) ?_
        obtain ⟨h, h2⟩ := g_sp2 h
        subst h
        subst h2
        exact g_iret X hI dX5_item_63
      · have h := g_t _ c h
        refine lv_aload_n hx hb dX5_item_39 rfl (lv_at hl 1 rfl) ?_
        refine lv_iconst (v := 2) hx hb dX5_item_40 (by decide) ?_
        refine lv_bipush (v := (-3)) hx hb dX5_item_41 (by decide) ?_
        obtain ⟨cO, h⟩ := gck_s h
        obtain ⟨r7, G8, er7, h⟩ := gb2_s h
        refine g_callV X hI (q := (RX5, TX5, 9)) (b := th) (av := [.int 2, .int (-3)]) cO rfl (c_X5_failed er7) gm_X5_failed tw_1_167 tw_1_169 tw_p_4 ⟨by decide, by decide⟩ hl.1 (rest := []) rfl (Nat.le_of_ble_eq_true rfl) dX5_item_43 ⟨by decide, by decide⟩ (st1 := [.int r7]) rfl (cells' := 0) (slots' := 0) rfl rfl (fun H locs hI => ?_)
        obtain ⟨h, h2⟩ := g_sp2 h
        subst h
        subst h2
        exact g_iret X hI dX5_item_46
    · have h := g_f _ c h
      refine lv_aload_n hx hb dX5_item_22 rfl (lv_at hl 1 rfl) ?_
      refine lv_iconst (v := 1) hx hb dX5_item_23 (by decide) ?_
      refine lv_bipush (v := (-3)) hx hb dX5_item_24 (by decide) ?_
      obtain ⟨cO, h⟩ := gck_s h
      obtain ⟨r9, G10, er9, h⟩ := gb2_s h
      refine g_callV X hI (q := (RX5, TX5, 9)) (b := th) (av := [.int 1, .int (-3)]) cO rfl (c_X5_failed er9) gm_X5_failed tw_1_167 tw_1_169 tw_p_4 ⟨by decide, by decide⟩ hl.1 (rest := []) rfl (Nat.le_of_ble_eq_true rfl) dX5_item_26 ⟨by decide, by decide⟩ (st1 := [.int r9]) rfl (cells' := 0) (slots' := 0) rfl rfl (fun H locs hI => ?_)
      obtain ⟨h, h2⟩ := g_sp2 h
      subst h
      subst h2
      exact g_iret X hI dX5_item_29
abbrev rm_X5_bits : Room := { frames := 2, cells := 0, slots := 0, locals := 42 }
def f_X5_bits (G : gG) (th : Nat) (a1 : Int32) (a2 : Int32) (a3 : Int32) : Option (Int64 × gG) :=
  gck (g_isO G th 4) <|
  gb (f_X5_known G th a1) fun o1 =>
  gnl o1 (
  some ((-1), G)) fun q2 =>
  if (f_X1_isLane a3) = 0 then
    some ((-1), G)
  else
  gb (g_fI G q2 3 3) fun v3 =>
  if v3 = 0 then
    gb (g_fI G q2 3 0) fun v4 =>
    if v4 = a3 then
      gck (g_isO G q2 3) <|
      gb (f_X4_hasItem G q2 a2) fun r5 =>
      if r5 = 0 then
        gck (g_isO G th 4) <|
        gb2 (f_X5_failed G th (2 : Int32) (-3 : Int32)) fun r7 G8 =>
        some ((Int32.toInt64 r7), G8)
      else
      gck (g_isO G q2 3) <|
      gb (f_X4_read G q2 a2) fun r6 =>
      some (r6, G)
    else
    gck (g_isO G th 4) <|
    gb2 (f_X5_failed G th (4 : Int32) (-3 : Int32)) fun r9 G10 =>
    some ((Int32.toInt64 r9), G10)
  else
  gck (g_isO G th 4) <|
  gb2 (f_X5_failed G th (1 : Int32) (-3 : Int32)) fun r11 G12 =>
  some ((Int32.toInt64 r11), G12)
theorem gm_X5_bits : g_M yX5_bits cX5_bits 5 (some .long) 3 := ⟨tw_1_208, tw_1_1, by decide +kernel, Or.inl (by decide +kernel)⟩
set_option maxHeartbeats 4000000 in
set_option maxRecDepth 100000 in
theorem c_X5_bits {l : Launch} {E : gE} {G : gG} {n : Nat} {th : Nat} {a1 : Int32} {a2 : Int32} {a3 : Int32} {r : Int64} {Gr : gG} (h : f_X5_bits G th a1 a2 a3 = some (r, Gr)) : g_Met l yX5_bits cX5_bits 5 (some .long) rm_X5_bits E G n [.ref th, .int a1, .int a2, .int a3] (some (.long r)) Gr n := by
  refine g_ofW gm_X5_bits (Nat.le_of_ble_eq_true rfl) ?_
  intro p e s m below meth c ls X hl hI
  have hx := X.1
  have hb := X.2.1
  have X : g_X E G n p s m _ meth c cX5_bits 5 RX5 "bits" (some .long) := X
  have hl : lv_has ls 5 [(0, .ref th), (1, .int a1), (2, .int a2), (3, .int a3)] := hl
  unfold f_X5_bits at h
  refine lv_aload_n hx hb dX5_bits_0 rfl (lv_at hl 0 rfl) ?_
  refine lv_iload_n hx hb dX5_bits_1 rfl (lv_at hl 1 rfl) ?_
  obtain ⟨cO, h⟩ := gck_s h
  obtain ⟨o1, eo1, h⟩ := gb_s h
  refine g_callV X hI (q := (RX5, TX5, 9)) (b := th) (av := [.int a1]) cO rfl (c_X5_known eo1) gm_X5_known tw_1_175 tw_1_177 tw_p_5 ⟨by decide, by decide⟩ hl.1 (rest := []) rfl (Nat.le_of_ble_eq_true rfl) dX5_bits_2 ⟨by decide, by decide⟩ (st1 := [va_rf o1]) rfl (cells' := 0) (slots' := 0) rfl rfl (fun H locs hI => ?_)
  refine g_aso (lv' := [(4, va_rf o1), (0, .ref th), (1, .int a1), (2, .int a2), (3, .int a3)]) hx hb dX5_bits_5 hl (by decide) (by first | rfl | simp [g_rfcat]) (fun ls hl => ?_)
  refine g_alo hx hb dX5_bits_7 (lv_at hl 0 rfl) ?_
  rcases o1 with _ | q2
  · have h := gnl_n h
    have hl : lv_has ls 5 [(4, .null), (0, .ref th), (1, .int a1), (2, .int a2), (3, .int a3)] := hl
    refine lv_ifnullN (tgt := 19) hx hb dX5_bits_9 (by decide) ?_
    refine lv_ldc2 (v := (-1)) hx hb X.2.2.2.1 (X.2.2.2.2.1 _ tw_1_209) dX5_bits_19 ?_
    obtain ⟨h, h2⟩ := g_sp2 h
    subst h
    subst h2
    exact g_lret X hI dX5_bits_22
  · have h := gnl_a h
    have hl : lv_has ls 5 [(4, .ref q2), (0, .ref th), (1, .int a1), (2, .int a2), (3, .int a3)] := hl
    refine lv_ifnull hx hb dX5_bits_9 ?_
    refine lv_iload_n hx hb dX5_bits_12 rfl (lv_at hl 4 rfl) ?_
    refine g_callS X hI (av := [.int a3]) (c_X1_isLane a3) gm_X1_isLane tw_1_105 tw_1_106 ⟨by decide, by decide⟩ hl.1 (rest := []) rfl (Nat.le_of_ble_eq_true rfl) dX5_bits_13 ⟨by decide, by decide⟩ (st1 := [.int (f_X1_isLane a3)]) rfl (cells' := 0) (slots' := 0) rfl rfl (fun H locs hI => ?_)
    refine lv_if_ne (tgt := 23) hx hb dX5_bits_16 (by decide) (fun c => ?_) (fun c => ?_)
    · have h := g_f _ c h
      refine lv_aload hx hb dX5_bits_23 (lv_at hl 0 rfl) ?_
      obtain ⟨v3, ev3, h⟩ := gb_s h
      refine g_get X hI (g_fI_s ev3) (C := RX4) (T := TX4) (N := 4) rfl gu_X4 (by decide) tw_1_150 dX5_bits_25 ?_
      refine lv_if_eq (tgt := 40) hx hb dX5_bits_28 (by decide) (fun c => ?_) (fun c => ?_)
      · have h := g_t _ c h
        refine lv_aload hx hb dX5_bits_40 (lv_at hl 0 rfl) ?_
        obtain ⟨v4, ev4, h⟩ := gb_s h
        refine g_get X hI (g_fI_s ev4) (C := RX4) (T := TX4) (N := 4) rfl gu_X4 (by decide) tw_1_144 dX5_bits_42 ?_
        refine lv_iload_n hx hb dX5_bits_45 rfl (lv_at hl 4 rfl) ?_
        refine lv_icmp_eq (tgt := 58) hx hb dX5_bits_46 (by decide) (fun c => ?_) (fun c => ?_)
        · have h := g_t _ c h
          refine lv_aload hx hb dX5_bits_58 (lv_at hl 0 rfl) ?_
          refine lv_iload_n hx hb dX5_bits_60 rfl (lv_at hl 3 rfl) ?_
          obtain ⟨cO, h⟩ := gck_s h
          obtain ⟨r5, er5, h⟩ := gb_s h
          refine g_callV X hI (q := (RX4, TX4, 4)) (b := q2) (av := [.int a2]) cO rfl (c_X4_hasItem er5) gm_X4_hasItem tw_1_187 tw_1_188 tw_1_189 ⟨by decide, by decide⟩ hl.1 (rest := []) rfl (Nat.le_of_ble_eq_true rfl) dX5_bits_61 ⟨by decide, by decide⟩ (st1 := [.int r5]) rfl (cells' := 0) (slots' := 0) rfl rfl (fun H locs hI => ?_)
          refine lv_if_ne (tgt := 76) hx hb dX5_bits_64 (by decide) (fun c => ?_) (fun c => ?_)
          · have h := g_f _ c h
            refine lv_aload hx hb dX5_bits_76 (lv_at hl 0 rfl) ?_
            refine lv_iload_n hx hb dX5_bits_78 rfl (lv_at hl 3 rfl) ?_
            obtain ⟨cO, h⟩ := gck_s h
            obtain ⟨r6, er6, h⟩ := gb_s h
            refine g_callV X hI (q := (RX4, TX4, 4)) (b := q2) (av := [.int a2]) cO rfl (c_X4_read er6) gm_X4_read tw_1_210 tw_1_211 tw_1_212 ⟨by decide, by decide⟩ hl.1 (rest := []) rfl (Nat.le_of_ble_eq_true rfl) dX5_bits_79 ⟨by decide, by decide⟩ (st1 := [.long r6]) rfl (cells' := 0) (slots' := 0) rfl rfl (fun H locs hI => ?_)
            obtain ⟨h, h2⟩ := g_sp2 h
            subst h
            subst h2
            exact g_lret X hI dX5_bits_82
          · have h := g_t _ c h
            refine lv_aload_n hx hb dX5_bits_67 rfl (lv_at hl 1 rfl) ?_
            refine lv_iconst (v := 2) hx hb dX5_bits_68 (by decide) ?_
            refine lv_bipush (v := (-3)) hx hb dX5_bits_69 (by decide) ?_
            obtain ⟨cO, h⟩ := gck_s h
            obtain ⟨r7, G8, er7, h⟩ := gb2_s h
            refine g_callV X hI (q := (RX5, TX5, 9)) (b := th) (av := [.int 2, .int (-3)]) cO rfl (c_X5_failed er7) gm_X5_failed tw_1_167 tw_1_169 tw_p_4 ⟨by decide, by decide⟩ hl.1 (rest := []) rfl (Nat.le_of_ble_eq_true rfl) dX5_bits_71 ⟨by decide, by decide⟩ (st1 := [.int r7]) rfl (cells' := 0) (slots' := 0) rfl rfl (fun H locs hI => ?_)
            refine lv_i2l (v := (Int32.toInt64 r7)) hx hb dX5_bits_74 rfl ?_
            obtain ⟨h, h2⟩ := g_sp2 h
            subst h
            subst h2
            exact g_lret X hI dX5_bits_75
        · have h := g_f _ c h
          refine lv_aload_n hx hb dX5_bits_49 rfl (lv_at hl 1 rfl) ?_
          refine lv_iconst (v := 4) hx hb dX5_bits_50 (by decide) ?_
          refine lv_bipush (v := (-3)) hx hb dX5_bits_51 (by decide) ?_
          obtain ⟨cO, h⟩ := gck_s h
          obtain ⟨r9, G10, er9, h⟩ := gb2_s h
          refine g_callV X hI (q := (RX5, TX5, 9)) (b := th) (av := [.int 4, .int (-3)]) cO rfl (c_X5_failed er9) gm_X5_failed tw_1_167 tw_1_169 tw_p_4 ⟨by decide, by decide⟩ hl.1 (rest := []) rfl (Nat.le_of_ble_eq_true rfl) dX5_bits_53 ⟨by decide, by decide⟩ (st1 := [.int r9]) rfl (cells' := 0) (slots' := 0) rfl rfl (fun H locs hI => ?_)
          refine lv_i2l (v := (Int32.toInt64 r9)) hx hb dX5_bits_56 rfl ?_
          obtain ⟨h, h2⟩ := g_sp2 h
          subst h
          subst h2
          exact g_lret X hI dX5_bits_57
      · have h := g_f _ c h
        refine lv_aload_n hx hb dX5_bits_31 rfl (lv_at hl 1 rfl) ?_
        refine lv_iconst (v := 1) hx hb dX5_bits_32 (by decide) ?_
        refine lv_bipush (v := (-3)) hx hb dX5_bits_33 (by decide) ?_
        obtain ⟨cO, h⟩ := gck_s h
        obtain ⟨r11, G12, er11, h⟩ := gb2_s h
        refine g_callV X hI (q := (RX5, TX5, 9)) (b := th) (av := [.int 1, .int (-3)]) cO rfl (c_X5_failed er11) gm_X5_failed tw_1_167 tw_1_169 tw_p_4 ⟨by decide, by decide⟩ hl.1 (rest := []) rfl (Nat.le_of_ble_eq_true rfl) dX5_bits_35 ⟨by decide, by decide⟩ (st1 := [.int r11]) rfl (cells' := 0) (slots' := 0) rfl rfl (fun H locs hI => ?_)
        refine lv_i2l (v := (Int32.toInt64 r11)) hx hb dX5_bits_38 rfl ?_
        obtain ⟨h, h2⟩ := g_sp2 h
        subst h
        subst h2
        exact g_lret X hI dX5_bits_39
    · have h := g_t _ c h
      refine lv_ldc2 (v := (-1)) hx hb X.2.2.2.1 (X.2.2.2.2.1 _ tw_1_209) dX5_bits_19 ?_
      obtain ⟨h, h2⟩ := g_sp2 h
      subst h
      subst h2
      exact g_lret X hI dX5_bits_22
abbrev rm_X5_index : Room := { frames := 2, cells := 0, slots := 0, locals := 49 }
def f_X5_index (G : gG) (th : Nat) (a1 : Int32) (a2 : Int32) (a3 : Int32) (a4 : Int32) : Option (Int32 × gG) :=
  gck (g_isO G th 4) <|
  gb (f_X5_known G th a1) fun o1 =>
  gnl o1 (
  some ((-1), G)) fun q2 =>
  gb (g_fI G q2 3 3) fun v3 =>
  if v3 = 0 then
    gb (g_fA G q2 3 1) fun g4 =>
    gck (g_isO G g4 2) <|
    gb (f_X3_numberAt G g4 a2 a3 a4) fun r5 =>
    if r5 = (-3) then
      gck (g_isO G th 4) <|
      gb2 (f_X5_failed G th (2 : Int32) (-3 : Int32)) fun r6 G7 =>
      some (r6, G7)
    else
    some (r5, G)
  else
  gck (g_isO G th 4) <|
  gb2 (f_X5_failed G th (1 : Int32) (-3 : Int32)) fun r8 G9 =>
  some (r8, G9)
theorem gm_X5_index : g_M yX5_index cX5_index 7 (some .int) 4 := ⟨tw_1_217, tw_1_1, by decide +kernel, Or.inl (by decide +kernel)⟩
set_option maxHeartbeats 4000000 in
set_option maxRecDepth 100000 in
theorem c_X5_index {l : Launch} {E : gE} {G : gG} {n : Nat} {th : Nat} {a1 : Int32} {a2 : Int32} {a3 : Int32} {a4 : Int32} {r : Int32} {Gr : gG} (h : f_X5_index G th a1 a2 a3 a4 = some (r, Gr)) : g_Met l yX5_index cX5_index 7 (some .int) rm_X5_index E G n [.ref th, .int a1, .int a2, .int a3, .int a4] (some (.int r)) Gr n := by
  refine g_ofW gm_X5_index (Nat.le_of_ble_eq_true rfl) ?_
  intro p e s m below meth c ls X hl hI
  have hx := X.1
  have hb := X.2.1
  have X : g_X E G n p s m _ meth c cX5_index 7 RX5 "index" (some .int) := X
  have hl : lv_has ls 7 [(0, .ref th), (1, .int a1), (2, .int a2), (3, .int a3), (4, .int a4)] := hl
  unfold f_X5_index at h
  refine lv_aload_n hx hb dX5_index_0 rfl (lv_at hl 0 rfl) ?_
  refine lv_iload_n hx hb dX5_index_1 rfl (lv_at hl 1 rfl) ?_
  obtain ⟨cO, h⟩ := gck_s h
  obtain ⟨o1, eo1, h⟩ := gb_s h
  refine g_callV X hI (q := (RX5, TX5, 9)) (b := th) (av := [.int a1]) cO rfl (c_X5_known eo1) gm_X5_known tw_1_175 tw_1_177 tw_p_5 ⟨by decide, by decide⟩ hl.1 (rest := []) rfl (Nat.le_of_ble_eq_true rfl) dX5_index_2 ⟨by decide, by decide⟩ (st1 := [va_rf o1]) rfl (cells' := 0) (slots' := 0) rfl rfl (fun H locs hI => ?_)
  refine g_aso (lv' := [(5, va_rf o1), (0, .ref th), (1, .int a1), (2, .int a2), (3, .int a3), (4, .int a4)]) hx hb dX5_index_5 hl (by decide) (by first | rfl | simp [g_rfcat]) (fun ls hl => ?_)
  refine g_alo hx hb dX5_index_7 (lv_at hl 0 rfl) ?_
  rcases o1 with _ | q2
  · have h := gnl_n h
    have hl : lv_has ls 7 [(5, .null), (0, .ref th), (1, .int a1), (2, .int a2), (3, .int a3), (4, .int a4)] := hl
    refine lv_ifnonnullN hx hb dX5_index_9 ?_
    refine lv_iconst (v := (-1)) hx hb dX5_index_12 (by decide) ?_
    obtain ⟨h, h2⟩ := g_sp2 h
    subst h
    subst h2
    exact g_iret X hI dX5_index_13
  · have h := gnl_a h
    have hl : lv_has ls 7 [(5, .ref q2), (0, .ref th), (1, .int a1), (2, .int a2), (3, .int a3), (4, .int a4)] := hl
    refine lv_ifnonnull (tgt := 14) hx hb dX5_index_9 (by decide) ?_
    refine lv_aload hx hb dX5_index_14 (lv_at hl 0 rfl) ?_
    obtain ⟨v3, ev3, h⟩ := gb_s h
    refine g_get X hI (g_fI_s ev3) (C := RX4) (T := TX4) (N := 4) rfl gu_X4 (by decide) tw_1_150 dX5_index_16 ?_
    refine lv_if_eq (tgt := 30) hx hb dX5_index_19 (by decide) (fun c => ?_) (fun c => ?_)
    · have h := g_t _ c h
      refine lv_aload hx hb dX5_index_30 (lv_at hl 0 rfl) ?_
      obtain ⟨g4, eg4, h⟩ := gb_s h
      refine g_get X hI (g_fA_s eg4) (C := RX4) (T := TX4) (N := 4) rfl gu_X4 (by decide) tw_1_146 dX5_index_32 ?_
      refine lv_iload_n hx hb dX5_index_35 rfl (lv_at hl 3 rfl) ?_
      refine lv_iload_n hx hb dX5_index_36 rfl (lv_at hl 4 rfl) ?_
      refine lv_iload hx hb dX5_index_37 (lv_at hl 5 rfl) ?_
      obtain ⟨cO, h⟩ := gck_s h
      obtain ⟨r5, er5, h⟩ := gb_s h
      refine g_callV X hI (q := (RX3, TX3, 2)) (b := g4) (av := [.int a2, .int a3, .int a4]) cO rfl (c_X3_numberAt er5) gm_X3_numberAt tw_1_218 tw_1_219 tw_1_220 ⟨by decide, by decide⟩ hl.1 (rest := []) rfl (Nat.le_of_ble_eq_true rfl) dX5_index_39 ⟨by decide, by decide⟩ (st1 := [.int r5]) rfl (cells' := 0) (slots' := 0) rfl rfl (fun H locs hI => ?_)
      refine lv_istore (lv' := [(6, .int r5), (5, .ref q2), (0, .ref th), (1, .int a1), (2, .int a2), (3, .int a3), (4, .int a4)]) hx hb dX5_index_42 hl (by decide) rfl (fun ls hl => ?_)
      refine lv_iload hx hb dX5_index_44 (lv_at hl 0 rfl) ?_
      refine lv_bipush (v := (-3)) hx hb dX5_index_46 (by decide) ?_
      refine lv_icmp_ne (tgt := 61) hx hb dX5_index_48 (by decide) (fun c => ?_) (fun c => ?_)
      · have h := g_f _ c h
        refine lv_iload hx hb dX5_index_61 (lv_at hl 0 rfl) ?_
        obtain ⟨h, h2⟩ := g_sp2 h
        subst h
        subst h2
        exact g_iret X hI dX5_index_63
      · have h := g_t _ c h
        refine lv_aload_n hx hb dX5_index_51 rfl (lv_at hl 2 rfl) ?_
        refine lv_iconst (v := 2) hx hb dX5_index_52 (by decide) ?_
        refine lv_bipush (v := (-3)) hx hb dX5_index_53 (by decide) ?_
        obtain ⟨cO, h⟩ := gck_s h
        obtain ⟨r6, G7, er6, h⟩ := gb2_s h
        refine g_callV X hI (q := (RX5, TX5, 9)) (b := th) (av := [.int 2, .int (-3)]) cO rfl (c_X5_failed er6) gm_X5_failed tw_1_167 tw_1_169 tw_p_4 ⟨by decide, by decide⟩ hl.1 (rest := []) rfl (Nat.le_of_ble_eq_true rfl) dX5_index_55 ⟨by decide, by decide⟩ (st1 := [.int r6]) rfl (cells' := 0) (slots' := 0) rfl rfl (fun H locs hI => ?_)
        refine lv_goto (tgt := 63) hx hb dX5_index_58 (by decide) ?_
        obtain ⟨h, h2⟩ := g_sp2 h
        subst h
        subst h2
        exact g_iret X hI dX5_index_63
    · have h := g_f _ c h
      refine lv_aload_n hx hb dX5_index_22 rfl (lv_at hl 1 rfl) ?_
      refine lv_iconst (v := 1) hx hb dX5_index_23 (by decide) ?_
      refine lv_bipush (v := (-3)) hx hb dX5_index_24 (by decide) ?_
      obtain ⟨cO, h⟩ := gck_s h
      obtain ⟨r8, G9, er8, h⟩ := gb2_s h
      refine g_callV X hI (q := (RX5, TX5, 9)) (b := th) (av := [.int 1, .int (-3)]) cO rfl (c_X5_failed er8) gm_X5_failed tw_1_167 tw_1_169 tw_p_4 ⟨by decide, by decide⟩ hl.1 (rest := []) rfl (Nat.le_of_ble_eq_true rfl) dX5_index_26 ⟨by decide, by decide⟩ (st1 := [.int r8]) rfl (cells' := 0) (slots' := 0) rfl rfl (fun H locs hI => ?_)
      obtain ⟨h, h2⟩ := g_sp2 h
      subst h
      subst h2
      exact g_iret X hI dX5_index_29
abbrev rm_X5_of : Room := { frames := 1, cells := 0, slots := 0, locals := 22 }
def f_X5_of (G : gG) (th : Nat) (a1 : Int32) (a2 : Int32) : Option (Int32 × gG) :=
  gck (g_isO G th 4) <|
  gb (f_X5_known G th a1) fun o1 =>
  gnl o1 (
  some ((-1), G)) fun q2 =>
  if a2 < 0 then
    some ((-1), G)
  else
  if a2 ≤ 5 then
    gb (g_fI G q2 3 3) fun v3 =>
    if v3 = 0 then
      if a2 = 0 then
        gb (g_fI G q2 3 0) fun v4 =>
        some (v4, G)
      else
      if a2 = 1 then
        gb (g_fA G q2 3 1) fun g5 =>
        gb (g_fI G g5 2 0) fun v6 =>
        some (v6, G)
      else
      if a2 = 2 then
        gb (g_fA G q2 3 1) fun g7 =>
        gck (g_isO G g7 2) <|
        gb (f_X3_size G g7) fun r8 =>
        some (r8, G)
      else
      gb (g_fA G q2 3 1) fun g9 =>
      gck (g_isO G g9 2) <|
      gb (f_X3_extentFromFirst G g9 (a2 - 3)) fun r10 =>
      some (r10, G)
    else
    gck (g_isO G th 4) <|
    gb2 (f_X5_failed G th (1 : Int32) (-3 : Int32)) fun r11 G12 =>
    some (r11, G12)
  else
  some ((-1), G)
theorem gm_X5_of : g_M yX5_of cX5_of 4 (some .int) 2 := ⟨tw_1_229, tw_1_1, by decide +kernel, Or.inl (by decide +kernel)⟩
set_option maxHeartbeats 4000000 in
set_option maxRecDepth 100000 in
theorem c_X5_of {l : Launch} {E : gE} {G : gG} {n : Nat} {th : Nat} {a1 : Int32} {a2 : Int32} {r : Int32} {Gr : gG} (h : f_X5_of G th a1 a2 = some (r, Gr)) : g_Met l yX5_of cX5_of 4 (some .int) rm_X5_of E G n [.ref th, .int a1, .int a2] (some (.int r)) Gr n := by
  refine g_ofW gm_X5_of (Nat.le_of_ble_eq_true rfl) ?_
  intro p e s m below meth c ls X hl hI
  have hx := X.1
  have hb := X.2.1
  have X : g_X E G n p s m _ meth c cX5_of 4 RX5 "of" (some .int) := X
  have hl : lv_has ls 4 [(0, .ref th), (1, .int a1), (2, .int a2)] := hl
  unfold f_X5_of at h
  refine lv_aload_n hx hb dX5_of_0 rfl (lv_at hl 0 rfl) ?_
  refine lv_iload_n hx hb dX5_of_1 rfl (lv_at hl 1 rfl) ?_
  obtain ⟨cO, h⟩ := gck_s h
  obtain ⟨o1, eo1, h⟩ := gb_s h
  refine g_callV X hI (q := (RX5, TX5, 9)) (b := th) (av := [.int a1]) cO rfl (c_X5_known eo1) gm_X5_known tw_1_175 tw_1_177 tw_p_5 ⟨by decide, by decide⟩ hl.1 (rest := []) rfl (Nat.le_of_ble_eq_true rfl) dX5_of_2 ⟨by decide, by decide⟩ (st1 := [va_rf o1]) rfl (cells' := 0) (slots' := 0) rfl rfl (fun H locs hI => ?_)
  refine g_aso_n (lv' := [(3, va_rf o1), (0, .ref th), (1, .int a1), (2, .int a2)]) hx hb dX5_of_5 rfl hl (by decide) (by first | rfl | simp [g_rfcat]) (fun ls hl => ?_)
  refine g_alo_n hx hb dX5_of_6 rfl (lv_at hl 0 rfl) ?_
  rcases o1 with _ | q2
  · have h := gnl_n h
    have hl : lv_has ls 4 [(3, .null), (0, .ref th), (1, .int a1), (2, .int a2)] := hl
    refine lv_ifnullN (tgt := 19) hx hb dX5_of_7 (by decide) ?_
    refine lv_iconst (v := (-1)) hx hb dX5_of_19 (by decide) ?_
    obtain ⟨h, h2⟩ := g_sp2 h
    subst h
    subst h2
    exact g_iret X hI dX5_of_20
  · have h := gnl_a h
    have hl : lv_has ls 4 [(3, .ref q2), (0, .ref th), (1, .int a1), (2, .int a2)] := hl
    refine lv_ifnull hx hb dX5_of_7 ?_
    refine lv_iload_n hx hb dX5_of_10 rfl (lv_at hl 3 rfl) ?_
    refine lv_if_lt (tgt := 19) hx hb dX5_of_11 (by decide) (fun c => ?_) (fun c => ?_)
    · have h := g_t _ c h
      refine lv_iconst (v := (-1)) hx hb dX5_of_19 (by decide) ?_
      obtain ⟨h, h2⟩ := g_sp2 h
      subst h
      subst h2
      exact g_iret X hI dX5_of_20
    · have h := g_f _ c h
      refine lv_iload_n hx hb dX5_of_14 rfl (lv_at hl 3 rfl) ?_
      refine lv_iconst (v := 5) hx hb dX5_of_15 (by decide) ?_
      refine lv_icmp_le (tgt := 21) hx hb dX5_of_16 (by decide) (fun c => ?_) (fun c => ?_)
      · have h := g_t _ c h
        refine lv_aload_n hx hb dX5_of_21 rfl (lv_at hl 0 rfl) ?_
        obtain ⟨v3, ev3, h⟩ := gb_s h
        refine g_get X hI (g_fI_s ev3) (C := RX4) (T := TX4) (N := 4) rfl gu_X4 (by decide) tw_1_150 dX5_of_22 ?_
        refine lv_if_eq (tgt := 36) hx hb dX5_of_25 (by decide) (fun c => ?_) (fun c => ?_)
        · have h := g_t _ c h
          refine lv_iload_n hx hb dX5_of_36 rfl (lv_at hl 3 rfl) ?_
          by_cases c0 : a2 = 0
          · have h := g_t _ c0 h
            refine lv_tableIn (off := 27) (tgt := 64) hx hb dX5_of_37 (by rw [c0]; decide) (by rw [c0]; decide) (by rw [c0]; rfl) (by decide) ?_
            refine lv_aload_n hx hb dX5_of_64 rfl (lv_at hl 0 rfl) ?_
            obtain ⟨v4, ev4, h⟩ := gb_s h
            refine g_get X hI (g_fI_s ev4) (C := RX4) (T := TX4) (N := 4) rfl gu_X4 (by decide) tw_1_144 dX5_of_65 ?_
            obtain ⟨h, h2⟩ := g_sp2 h
            subst h
            subst h2
            exact g_iret X hI dX5_of_68
          · have h := g_f _ c0 h
            by_cases c1 : a2 = 1
            · have h := g_t _ c1 h
              refine lv_tableIn (off := 32) (tgt := 69) hx hb dX5_of_37 (by rw [c1]; decide) (by rw [c1]; decide) (by rw [c1]; rfl) (by decide) ?_
              refine lv_aload_n hx hb dX5_of_69 rfl (lv_at hl 0 rfl) ?_
              obtain ⟨g5, eg5, h⟩ := gb_s h
              refine g_get X hI (g_fA_s eg5) (C := RX4) (T := TX4) (N := 4) rfl gu_X4 (by decide) tw_1_146 dX5_of_70 ?_
              obtain ⟨v6, ev6, h⟩ := gb_s h
              refine g_get X hI (g_fI_s ev6) (C := RX3) (T := TX3) (N := 2) rfl gu_X3 (by decide) tw_1_64 dX5_of_73 ?_
              obtain ⟨h, h2⟩ := g_sp2 h
              subst h
              subst h2
              exact g_iret X hI dX5_of_76
            · have h := g_f _ c1 h
              by_cases c2 : a2 = 2
              · have h := g_t _ c2 h
                refine lv_tableIn (off := 40) (tgt := 77) hx hb dX5_of_37 (by rw [c2]; decide) (by rw [c2]; decide) (by rw [c2]; rfl) (by decide) ?_
                refine lv_aload_n hx hb dX5_of_77 rfl (lv_at hl 0 rfl) ?_
                obtain ⟨g7, eg7, h⟩ := gb_s h
                refine g_get X hI (g_fA_s eg7) (C := RX4) (T := TX4) (N := 4) rfl gu_X4 (by decide) tw_1_146 dX5_of_78 ?_
                obtain ⟨cO, h⟩ := gck_s h
                obtain ⟨r8, er8, h⟩ := gb_s h
                refine g_callV X hI (q := (RX3, TX3, 2)) (b := g7) (av := []) cO rfl (c_X3_size er8) gm_X3_size tw_1_128 tw_1_129 tw_1_130 ⟨by decide, by decide⟩ hl.1 (rest := []) rfl (Nat.le_of_ble_eq_true rfl) dX5_of_81 ⟨by decide, by decide⟩ (st1 := [.int r8]) rfl (cells' := 0) (slots' := 0) rfl rfl (fun H locs hI => ?_)
                obtain ⟨h, h2⟩ := g_sp2 h
                subst h
                subst h2
                exact g_iret X hI dX5_of_84
              · have h := g_f _ c2 h
                refine lv_tableOut (tgt := 85) hx hb dX5_of_37 (by have q0 := lv_neT (a := 0) c0 (by decide); have q1 := lv_neT (a := 1) c1 (by decide); have q2 := lv_neT (a := 2) c2 (by decide); omega) (by decide) ?_
                refine lv_aload_n hx hb dX5_of_85 rfl (lv_at hl 0 rfl) ?_
                obtain ⟨g9, eg9, h⟩ := gb_s h
                refine g_get X hI (g_fA_s eg9) (C := RX4) (T := TX4) (N := 4) rfl gu_X4 (by decide) tw_1_146 dX5_of_86 ?_
                refine lv_iload_n hx hb dX5_of_89 rfl (lv_at hl 3 rfl) ?_
                refine lv_iconst (v := 3) hx hb dX5_of_90 (by decide) ?_
                refine lv_isub (x := a2) (y := 3) hx hb dX5_of_91 ?_
                obtain ⟨cO, h⟩ := gck_s h
                obtain ⟨r10, er10, h⟩ := gb_s h
                refine g_callV X hI (q := (RX3, TX3, 2)) (b := g9) (av := [.int (a2 - 3)]) cO rfl (c_X3_extentFromFirst er10) gm_X3_extentFromFirst tw_1_230 tw_1_223 tw_1_224 ⟨by decide, by decide⟩ hl.1 (rest := []) rfl (Nat.le_of_ble_eq_true rfl) dX5_of_92 ⟨by decide, by decide⟩ (st1 := [.int r10]) rfl (cells' := 0) (slots' := 0) rfl rfl (fun H locs hI => ?_)
                obtain ⟨h, h2⟩ := g_sp2 h
                subst h
                subst h2
                exact g_iret X hI dX5_of_95
        · have h := g_f _ c h
          refine lv_aload_n hx hb dX5_of_28 rfl (lv_at hl 1 rfl) ?_
          refine lv_iconst (v := 1) hx hb dX5_of_29 (by decide) ?_
          refine lv_bipush (v := (-3)) hx hb dX5_of_30 (by decide) ?_
          obtain ⟨cO, h⟩ := gck_s h
          obtain ⟨r11, G12, er11, h⟩ := gb2_s h
          refine g_callV X hI (q := (RX5, TX5, 9)) (b := th) (av := [.int 1, .int (-3)]) cO rfl (c_X5_failed er11) gm_X5_failed tw_1_167 tw_1_169 tw_p_4 ⟨by decide, by decide⟩ hl.1 (rest := []) rfl (Nat.le_of_ble_eq_true rfl) dX5_of_32 ⟨by decide, by decide⟩ (st1 := [.int r11]) rfl (cells' := 0) (slots' := 0) rfl rfl (fun H locs hI => ?_)
          obtain ⟨h, h2⟩ := g_sp2 h
          subst h
          subst h2
          exact g_iret X hI dX5_of_35
      · have h := g_f _ c h
        refine lv_iconst (v := (-1)) hx hb dX5_of_19 (by decide) ?_
        obtain ⟨h, h2⟩ := g_sp2 h
        subst h
        subst h2
        exact g_iret X hI dX5_of_20
abbrev rm_X5_spreadOf : Room := { frames := 2, cells := 0, slots := 0, locals := 45 }
def f_X5_spreadOf (G : gG) (th : Nat) (a1 : Nat) (a2 : Nat) : Option (Int32 × gG) :=
  gb (g_fA G th 4 2) fun g1 =>
  gb (g_fA G a1 3 1) fun g2 =>
  gck (g_isO G g1 2) <|
  gb (f_X3_setAs G g1 g2) fun G3 =>
  gb (g_fA G3 th 4 2) fun g4 =>
  gb (g_fA G3 a2 3 1) fun g5 =>
  gck (g_isO G3 g4 2) <|
  gb2 (f_X3_spreadWith G3 g4 g5) fun r6 G7 =>
  some (r6, G7)
theorem gm_X5_spreadOf : g_M yX5_spreadOf cX5_spreadOf 3 (some .int) 2 := ⟨tw_2_19, tw_1_1, by decide +kernel, Or.inl (by decide +kernel)⟩
set_option maxHeartbeats 4000000 in
set_option maxRecDepth 100000 in
theorem c_X5_spreadOf {l : Launch} {E : gE} {G : gG} {n : Nat} {th : Nat} {a1 : Nat} {a2 : Nat} {r : Int32} {Gr : gG} (h : f_X5_spreadOf G th a1 a2 = some (r, Gr)) : g_Met l yX5_spreadOf cX5_spreadOf 3 (some .int) rm_X5_spreadOf E G n [.ref th, .ref a1, .ref a2] (some (.int r)) Gr n := by
  refine g_ofW gm_X5_spreadOf (Nat.le_of_ble_eq_true rfl) ?_
  intro p e s m below meth c ls X hl hI
  have hx := X.1
  have hb := X.2.1
  have X : g_X E G n p s m _ meth c cX5_spreadOf 3 RX5 "spreadOf" (some .int) := X
  have hl : lv_has ls 3 [(0, .ref th), (1, .ref a1), (2, .ref a2)] := hl
  unfold f_X5_spreadOf at h
  refine lv_aload_n hx hb dX5_spreadOf_0 rfl (lv_at hl 0 rfl) ?_
  obtain ⟨g1, eg1, h⟩ := gb_s h
  refine g_get X hI (g_fA_s eg1) (C := RX5) (T := TX5) (N := 9) rfl gu_X5 (by decide) tw_1_74 dX5_spreadOf_1 ?_
  refine lv_aload_n hx hb dX5_spreadOf_4 rfl (lv_at hl 1 rfl) ?_
  obtain ⟨g2, eg2, h⟩ := gb_s h
  refine g_get X hI (g_fA_s eg2) (C := RX4) (T := TX4) (N := 4) rfl gu_X4 (by decide) tw_1_146 dX5_spreadOf_5 ?_
  obtain ⟨cO, h⟩ := gck_s h
  obtain ⟨G3, eG3, h⟩ := gb_s h
  refine g_callV X hI (q := (RX3, TX3, 2)) (b := g1) (av := [.ref g2]) cO rfl (c_X3_setAs eG3) gm_X3_setAs tw_2_20 tw_1_140 tw_1_141 ⟨by decide, by decide⟩ hl.1 (rest := []) rfl (Nat.le_of_ble_eq_true rfl) dX5_spreadOf_8 ⟨by decide, by decide⟩ (st1 := []) rfl (cells' := 0) (slots' := 0) rfl rfl (fun H locs hI => ?_)
  refine lv_aload_n hx hb dX5_spreadOf_11 rfl (lv_at hl 0 rfl) ?_
  obtain ⟨g4, eg4, h⟩ := gb_s h
  refine g_get X hI (g_fA_s eg4) (C := RX5) (T := TX5) (N := 9) rfl gu_X5 (by decide) tw_1_74 dX5_spreadOf_12 ?_
  refine lv_aload_n hx hb dX5_spreadOf_15 rfl (lv_at hl 2 rfl) ?_
  obtain ⟨g5, eg5, h⟩ := gb_s h
  refine g_get X hI (g_fA_s eg5) (C := RX4) (T := TX4) (N := 4) rfl gu_X4 (by decide) tw_1_146 dX5_spreadOf_16 ?_
  obtain ⟨cO, h⟩ := gck_s h
  obtain ⟨r6, G7, er6, h⟩ := gb2_s h
  refine g_callV X hI (q := (RX3, TX3, 2)) (b := g4) (av := [.ref g5]) cO rfl (c_X3_spreadWith er6) gm_X3_spreadWith tw_2_21 tw_2_22 tw_2_23 ⟨by decide, by decide⟩ hl.1 (rest := []) rfl (Nat.le_of_ble_eq_true rfl) dX5_spreadOf_19 ⟨by decide, by decide⟩ (st1 := [.int r6]) rfl (cells' := 0) (slots' := 0) rfl rfl (fun H locs hI => ?_)
  obtain ⟨h, h2⟩ := g_sp2 h
  subst h
  subst h2
  exact g_iret X hI dX5_spreadOf_22
abbrev rm_X5_rowByAct : Room := { frames := 5, cells := 0, slots := 0, locals := 145 }
def f_X5_rowByAct_146 (G : gG) (x0 : Nat) (x6 : Int32) : Option (Int32 × gG) :=
  gb (g_fI G x0 4 6) fun v1 =>
  gb (g_sI G x0 4 6 (v1 + x6)) fun G2 =>
  some ((-3), G2)
set_option maxHeartbeats 4000000 in
set_option maxRecDepth 100000 in
theorem b_X5_rowByAct_146 {p : Program} {l : Launch} {e : Env} {s : State} {m : MethodId} {args : Array Value} {below : List Frame} {meth : Method} {c : Code} {E : gE} {G0 : gG} {n0 : Nat} (X : g_X E G0 n0 p s m args meth c cX5_rowByAct 12 RX5 "rowByAct" (some .int)) {G : gG} {n : Nat} {r : Int32} {Gr : gG} {H : Heap} {locs : List Loc} (hI : g_I E (g_A G0 n0) G n s.heap H locs) {x0 : Nat} {x6 : Int32} (h : f_X5_rowByAct_146 G x0 x6 = some (r, Gr)) {ls : Array Slot} (hl : lv_has ls 12 [(0, .ref x0), (6, .int x6)]) : W p l e rm_X5_rowByAct s m args below meth c H locs 0 0 (MQ below (g_Q E G0 n0 (some (.int r)) Gr n) args s rm_X5_rowByAct.cells rm_X5_rowByAct.slots (g_A G0 n0)) (F0 m 146 ls []) := by
  have hx := X.1
  have hb := X.2.1
  unfold f_X5_rowByAct_146 at h
  refine lv_aload_n hx hb dX5_rowByAct_146 rfl (lv_at hl 0 rfl) ?_
  refine lv_dup hx hb dX5_rowByAct_147 rfl ?_
  obtain ⟨v1, ev1, h⟩ := gb_s h
  refine g_get X hI (g_fI_s ev1) (C := RX5) (T := TX5) (N := 9) rfl gu_X5 (by decide) tw_1_78 dX5_rowByAct_148 ?_
  refine lv_iload hx hb dX5_rowByAct_151 (lv_at hl 1 rfl) ?_
  refine lv_iadd (x := v1) (y := x6) hx hb dX5_rowByAct_153 ?_
  obtain ⟨G2, eG2, h⟩ := gb_s h
  refine g_put X hI (k := 6) (v := .int (v1 + x6)) (G' := G2) eG2 (C := RX5) (T := TX5) (N := 9) rfl gu_X5 tyX5 tyX5_ok nmX5 (by decide) tw_1_78 rfl rfl rfl dX5_rowByAct_154 (fun H locs hI => ?_)
  refine lv_bipush (v := (-3)) hx hb dX5_rowByAct_157 (by decide) ?_
  obtain ⟨h, h2⟩ := g_sp2 h
  subst h
  subst h2
  exact g_iret X hI dX5_rowByAct_159
def f_X5_rowByAct_140 (k15 : gG → Nat → Int32 → Int32 → Nat → Nat → Int32 → Int32 → Int32 → Option (Int32 × gG)) (G : gG) (x0 : Nat) (x1 : Int32) (x2 : Int32) (x3 : Nat) (x4 : Nat) (x5 : Int32) (x6 : Int32) (x7 : Int32) : Option (Int32 × gG) :=
  gl (x7 + 1 : Int32) fun v1 =>
  k15 G x0 x1 x2 x3 x4 x5 x6 v1
set_option maxHeartbeats 4000000 in
set_option maxRecDepth 100000 in
theorem b_X5_rowByAct_140 {p : Program} {l : Launch} {e : Env} {s : State} {m : MethodId} {args : Array Value} {below : List Frame} {meth : Method} {c : Code} {E : gE} {G0 : gG} {n0 : Nat} (X : g_X E G0 n0 p s m args meth c cX5_rowByAct 12 RX5 "rowByAct" (some .int)) {G : gG} {n : Nat} {r : Int32} {Gr : gG} {k15 : gG → Nat → Int32 → Int32 → Nat → Nat → Int32 → Int32 → Int32 → Option (Int32 × gG)} (hk15 : ∀ {G : gG} {H : Heap} {locs : List Loc} (_ : g_I E (g_A G0 n0) G n s.heap H locs) {x0 : Nat} {x1 : Int32} {x2 : Int32} {x3 : Nat} {x4 : Nat} {x5 : Int32} {x6 : Int32} {x7 : Int32}  (_ : k15 G x0 x1 x2 x3 x4 x5 x6 x7 = some (r, Gr)) {ls : Array Slot} (_ : lv_has ls 12 [(0, .ref x0), (1, .int x1), (2, .int x2), (3, .ref x3), (4, .ref x4), (5, .int x5), (6, .int x6), (7, .int x7)]), W p l e rm_X5_rowByAct s m args below meth c H locs 0 0 (MQ below (g_Q E G0 n0 (some (.int r)) Gr n) args s rm_X5_rowByAct.cells rm_X5_rowByAct.slots (g_A G0 n0)) (F0 m 15 ls [])) {H : Heap} {locs : List Loc} (hI : g_I E (g_A G0 n0) G n s.heap H locs) {x0 : Nat} {x1 : Int32} {x2 : Int32} {x3 : Nat} {x4 : Nat} {x5 : Int32} {x6 : Int32} {x7 : Int32} (h : f_X5_rowByAct_140 k15 G x0 x1 x2 x3 x4 x5 x6 x7 = some (r, Gr)) {ls : Array Slot} (hl : lv_has ls 12 [(0, .ref x0), (1, .int x1), (2, .int x2), (3, .ref x3), (4, .ref x4), (5, .int x5), (6, .int x6), (7, .int x7)]) : W p l e rm_X5_rowByAct s m args below meth c H locs 0 0 (MQ below (g_Q E G0 n0 (some (.int r)) Gr n) args s rm_X5_rowByAct.cells rm_X5_rowByAct.slots (g_A G0 n0)) (F0 m 140 ls []) := by
  have hx := X.1
  have hb := X.2.1
  unfold f_X5_rowByAct_140 at h
  obtain ⟨v1, ev1, h⟩ := gl_s h
  refine lv_iinc (v := v1) (lv' := [(7, .int v1), (0, .ref x0), (1, .int x1), (2, .int x2), (3, .ref x3), (4, .ref x4), (5, .int x5), (6, .int x6)]) hx hb dX5_rowByAct_140 hl (k := 7) rfl (by rw [← ev1]; rfl) (by decide) rfl (fun ls hl => ?_)
  refine lv_goto (tgt := 15) hx hb dX5_rowByAct_143 (by decide) ?_
  exact hk15 hI h (lv_sub hl [1, 2, 3, 4, 5, 6, 7, 0] rfl)
def f_X5_rowByAct_15 : Nat → gG → Nat → Int32 → Int32 → Nat → Nat → Int32 → Int32 → Int32 → Option (Int32 × gG)
  | 0, _, _, _, _, _, _, _, _, _ => none
  | fu + 1, G, x0, x1, x2, x3, x4, x5, x6, x7 =>
    if x5 ≤ x7 then
      f_X5_rowByAct_146 G x0 x6
    else
    gb (g_fA G x0 4 3) fun g1 =>
    gb (g_len G g1) fun v2 =>
    if v2 ≤ x7 then
      f_X5_rowByAct_146 G x0 x6
    else
    gb (g_fA G x0 4 1) fun g3 =>
    gb (g_fA G x0 4 2) fun g4 =>
    gck (g_isO G x3 3) <|
    gb (f_X4_readSpread G x3 x7 g4) fun r5 =>
    gb (g_fI G x3 3 0) fun v6 =>
    gck (g_isO G g3 0) <|
    gb2 (f_X0_moved G g3 r5 v6 x2) fun r7 G8 =>
    gb (g_fA G8 x0 4 1) fun g9 =>
    gb (g_fA G8 x0 4 2) fun g10 =>
    gck (g_isO G8 x4 3) <|
    gb (f_X4_readSpread G8 x4 x7 g10) fun r11 =>
    gb (g_fI G8 x4 3 0) fun v12 =>
    gck (g_isO G8 g9 0) <|
    gb2 (f_X0_moved G8 g9 r11 v12 x2) fun r13 G14 =>
    if (f_X0_isByZero x1 x2 r13) = 0 then
      gb (g_fA G14 x0 4 3) fun g19 =>
      gb (g_fA G14 x0 4 1) fun g20 =>
      gck (g_isO G14 g20 0) <|
      gb2 (f_X0_ofTwo G14 g20 x1 x2 r7 r13) fun r21 G22 =>
      gb (g_ls G22 g19 x7 r21) fun G23 =>
      f_X5_rowByAct_140 (f_X5_rowByAct_15 fu) G23 x0 x1 x2 x3 x4 x5 x6 x7
    else
    gb (g_fI G14 x0 4 5) fun v15 =>
    if v15 = 1 then
      gb (g_fA G14 x0 4 3) fun g16 =>
      gb (g_ls G14 g16 x7 0) fun G17 =>
      gl (x6 + 1 : Int32) fun v18 =>
      f_X5_rowByAct_140 (f_X5_rowByAct_15 fu) G17 x0 x1 x2 x3 x4 x5 v18 x7
    else
    some (x7, G14)
set_option maxHeartbeats 4000000 in
set_option maxRecDepth 100000 in
theorem b_X5_rowByAct_15 {p : Program} {l : Launch} {e : Env} {s : State} {m : MethodId} {args : Array Value} {below : List Frame} {meth : Method} {c : Code} {E : gE} {G0 : gG} {n0 : Nat} (X : g_X E G0 n0 p s m args meth c cX5_rowByAct 12 RX5 "rowByAct" (some .int)) {n : Nat} {r : Int32} {Gr : gG} (fu : Nat) : ∀ {G : gG} {H : Heap} {locs : List Loc} (_ : g_I E (g_A G0 n0) G n s.heap H locs) {x0 : Nat} {x1 : Int32} {x2 : Int32} {x3 : Nat} {x4 : Nat} {x5 : Int32} {x6 : Int32} {x7 : Int32} (_ : f_X5_rowByAct_15 fu G x0 x1 x2 x3 x4 x5 x6 x7 = some (r, Gr)) {ls : Array Slot} (_ : lv_has ls 12 [(0, .ref x0), (1, .int x1), (2, .int x2), (3, .ref x3), (4, .ref x4), (5, .int x5), (6, .int x6), (7, .int x7)]), W p l e rm_X5_rowByAct s m args below meth c H locs 0 0 (MQ below (g_Q E G0 n0 (some (.int r)) Gr n) args s rm_X5_rowByAct.cells rm_X5_rowByAct.slots (g_A G0 n0)) (F0 m 15 ls []) := by
  have hx := X.1
  have hb := X.2.1
  induction fu with
  | zero =>
    intro G H locs hI x0 x1 x2 x3 x4 x5 x6 x7 h ls hl
    rw [f_X5_rowByAct_15] at h
    cases h
  | succ fu ih =>
    intro G H locs hI x0 x1 x2 x3 x4 x5 x6 x7 h ls hl
    rw [f_X5_rowByAct_15] at h
    refine lv_iload hx hb dX5_rowByAct_15 (lv_at hl 7 rfl) ?_
    refine lv_iload hx hb dX5_rowByAct_17 (lv_at hl 5 rfl) ?_
    refine lv_icmp_ge (tgt := 146) hx hb dX5_rowByAct_19 (by decide) (fun c => ?_) (fun c => ?_)
    · have h := g_t _ c h
      exact b_X5_rowByAct_146 X hI h (lv_sub hl [0, 6] rfl)
    · have h := g_f _ c h
      refine lv_iload hx hb dX5_rowByAct_22 (lv_at hl 7 rfl) ?_
      refine lv_aload_n hx hb dX5_rowByAct_24 rfl (lv_at hl 0 rfl) ?_
      obtain ⟨g1, eg1, h⟩ := gb_s h
      refine g_get X hI (g_fA_s eg1) (C := RX5) (T := TX5) (N := 9) rfl gu_X5 (by decide) tw_1_75 dX5_rowByAct_25 ?_
      obtain ⟨v2, ev2, h⟩ := gb_s h
      refine g_alen X hI ev2 dX5_rowByAct_28 ?_
      refine lv_icmp_ge (tgt := 146) hx hb dX5_rowByAct_29 (by decide) (fun c => ?_) (fun c => ?_)
      · have h := g_t _ c h
        exact b_X5_rowByAct_146 X hI h (lv_sub hl [0, 6] rfl)
      · have h := g_f _ c h
        refine lv_aload_n hx hb dX5_rowByAct_32 rfl (lv_at hl 0 rfl) ?_
        obtain ⟨g3, eg3, h⟩ := gb_s h
        refine g_get X hI (g_fA_s eg3) (C := RX5) (T := TX5) (N := 9) rfl gu_X5 (by decide) tw_1_73 dX5_rowByAct_33 ?_
        refine lv_aload_n hx hb dX5_rowByAct_36 rfl (lv_at hl 3 rfl) ?_
        refine lv_iload hx hb dX5_rowByAct_37 (lv_at hl 7 rfl) ?_
        refine lv_aload_n hx hb dX5_rowByAct_39 rfl (lv_at hl 0 rfl) ?_
        obtain ⟨g4, eg4, h⟩ := gb_s h
        refine g_get X hI (g_fA_s eg4) (C := RX5) (T := TX5) (N := 9) rfl gu_X5 (by decide) tw_1_74 dX5_rowByAct_40 ?_
        obtain ⟨cO, h⟩ := gck_s h
        obtain ⟨r5, er5, h⟩ := gb_s h
        refine g_callV X hI (q := (RX4, TX4, 4)) (b := x3) (av := [.int x7, .ref g4]) cO rfl (c_X4_readSpread er5) gm_X4_readSpread tw_2_30 tw_2_31 tw_2_32 ⟨by decide, by decide⟩ hl.1 (rest := [.ref g3]) rfl (Nat.le_of_ble_eq_true rfl) dX5_rowByAct_43 ⟨by decide, by decide⟩ (st1 := [.long r5, .ref g3]) rfl (cells' := 0) (slots' := 0) rfl rfl (fun H locs hI => ?_)
        refine lv_aload_n hx hb dX5_rowByAct_46 rfl (lv_at hl 3 rfl) ?_
        obtain ⟨v6, ev6, h⟩ := gb_s h
        refine g_get X hI (g_fI_s ev6) (C := RX4) (T := TX4) (N := 4) rfl gu_X4 (by decide) tw_1_144 dX5_rowByAct_47 ?_
        refine lv_iload_n hx hb dX5_rowByAct_50 rfl (lv_at hl 2 rfl) ?_
        obtain ⟨cO, h⟩ := gck_s h
        obtain ⟨r7, G8, er7, h⟩ := gb2_s h
        refine g_callV X hI (q := (RX0, TX0, 3)) (b := g3) (av := [.long r5, .int v6, .int x2]) cO rfl (c_X0_moved er7) gm_X0_moved tw_2_39 tw_2_40 tw_2_41 ⟨by decide, by decide⟩ hl.1 (rest := []) rfl (Nat.le_of_ble_eq_true rfl) dX5_rowByAct_51 ⟨by decide, by decide⟩ (st1 := [.long r7]) rfl (cells' := 0) (slots' := 0) rfl rfl (fun H locs hI => ?_)
        refine lv_lstore (lv' := [(8, .long r7), (0, .ref x0), (1, .int x1), (2, .int x2), (3, .ref x3), (4, .ref x4), (5, .int x5), (6, .int x6), (7, .int x7)]) hx hb dX5_rowByAct_54 hl (by decide) rfl (fun ls hl => ?_)
        refine lv_aload_n hx hb dX5_rowByAct_56 rfl (lv_at hl 1 rfl) ?_
        obtain ⟨g9, eg9, h⟩ := gb_s h
        refine g_get X hI (g_fA_s eg9) (C := RX5) (T := TX5) (N := 9) rfl gu_X5 (by decide) tw_1_73 dX5_rowByAct_57 ?_
        refine lv_aload hx hb dX5_rowByAct_60 (lv_at hl 5 rfl) ?_
        refine lv_iload hx hb dX5_rowByAct_62 (lv_at hl 8 rfl) ?_
        refine lv_aload_n hx hb dX5_rowByAct_64 rfl (lv_at hl 1 rfl) ?_
        obtain ⟨g10, eg10, h⟩ := gb_s h
        refine g_get X hI (g_fA_s eg10) (C := RX5) (T := TX5) (N := 9) rfl gu_X5 (by decide) tw_1_74 dX5_rowByAct_65 ?_
        obtain ⟨cO, h⟩ := gck_s h
        obtain ⟨r11, er11, h⟩ := gb_s h
        refine g_callV X hI (q := (RX4, TX4, 4)) (b := x4) (av := [.int x7, .ref g10]) cO rfl (c_X4_readSpread er11) gm_X4_readSpread tw_2_30 tw_2_31 tw_2_32 ⟨by decide, by decide⟩ hl.1 (rest := [.ref g9]) rfl (Nat.le_of_ble_eq_true rfl) dX5_rowByAct_68 ⟨by decide, by decide⟩ (st1 := [.long r11, .ref g9]) rfl (cells' := 0) (slots' := 0) rfl rfl (fun H locs hI => ?_)
        refine lv_aload hx hb dX5_rowByAct_71 (lv_at hl 5 rfl) ?_
        obtain ⟨v12, ev12, h⟩ := gb_s h
        refine g_get X hI (g_fI_s ev12) (C := RX4) (T := TX4) (N := 4) rfl gu_X4 (by decide) tw_1_144 dX5_rowByAct_73 ?_
        refine lv_iload_n hx hb dX5_rowByAct_76 rfl (lv_at hl 3 rfl) ?_
        obtain ⟨cO, h⟩ := gck_s h
        obtain ⟨r13, G14, er13, h⟩ := gb2_s h
        refine g_callV X hI (q := (RX0, TX0, 3)) (b := g9) (av := [.long r11, .int v12, .int x2]) cO rfl (c_X0_moved er13) gm_X0_moved tw_2_39 tw_2_40 tw_2_41 ⟨by decide, by decide⟩ hl.1 (rest := []) rfl (Nat.le_of_ble_eq_true rfl) dX5_rowByAct_77 ⟨by decide, by decide⟩ (st1 := [.long r13]) rfl (cells' := 0) (slots' := 0) rfl rfl (fun H locs hI => ?_)
        refine lv_lstore (lv' := [(10, .long r13), (8, .long r7), (0, .ref x0), (1, .int x1), (2, .int x2), (3, .ref x3), (4, .ref x4), (5, .int x5), (6, .int x6), (7, .int x7)]) hx hb dX5_rowByAct_80 hl (by decide) rfl (fun ls hl => ?_)
        refine lv_iload_n hx hb dX5_rowByAct_82 rfl (lv_at hl 3 rfl) ?_
        refine lv_iload_n hx hb dX5_rowByAct_83 rfl (lv_at hl 4 rfl) ?_
        refine lv_lload hx hb dX5_rowByAct_84 (lv_at hl 0 rfl) ?_
        refine g_callS X hI (av := [.int x1, .int x2, .long r13]) (c_X0_isByZero x1 x2 r13) gm_X0_isByZero tw_2_102 tw_2_103 ⟨by decide, by decide⟩ hl.1 (rest := []) rfl (Nat.le_of_ble_eq_true rfl) dX5_rowByAct_86 ⟨by decide, by decide⟩ (st1 := [.int (f_X0_isByZero x1 x2 r13)]) rfl (cells' := 0) (slots' := 0) rfl rfl (fun H locs hI => ?_)
        refine lv_if_ne (tgt := 115) hx hb dX5_rowByAct_89 (by decide) (fun c => ?_) (fun c => ?_)
        · have h := g_f _ c h
          refine lv_aload_n hx hb dX5_rowByAct_115 rfl (lv_at hl 2 rfl) ?_
          obtain ⟨v15, ev15, h⟩ := gb_s h
          refine g_get X hI (g_fI_s ev15) (C := RX5) (T := TX5) (N := 9) rfl gu_X5 (by decide) tw_1_77 dX5_rowByAct_116 ?_
          refine lv_iconst (v := 1) hx hb dX5_rowByAct_119 (by decide) ?_
          refine lv_icmp_ne (tgt := 137) hx hb dX5_rowByAct_120 (by decide) (fun c => ?_) (fun c => ?_)
          · have h := g_f _ c h
            refine lv_iload hx hb dX5_rowByAct_137 (lv_at hl 9 rfl) ?_
            obtain ⟨h, h2⟩ := g_sp2 h
            subst h
            subst h2
            exact g_iret X hI dX5_rowByAct_139
          · have h := g_t _ c h
            refine lv_aload_n hx hb dX5_rowByAct_123 rfl (lv_at hl 2 rfl) ?_
            obtain ⟨g16, eg16, h⟩ := gb_s h
            refine g_get X hI (g_fA_s eg16) (C := RX5) (T := TX5) (N := 9) rfl gu_X5 (by decide) tw_1_75 dX5_rowByAct_124 ?_
            refine lv_iload hx hb dX5_rowByAct_127 (lv_at hl 9 rfl) ?_
            refine lv_lconst (v := 0) hx hb dX5_rowByAct_129 (by decide) ?_
            obtain ⟨G17, eG17, h⟩ := gb_s h
            refine g_last X hI (G' := G17) eG17 dX5_rowByAct_130 (fun H locs hI => ?_)
            obtain ⟨v18, ev18, h⟩ := gl_s h
            refine lv_iinc (v := v18) (lv' := [(6, .int v18), (10, .long r13), (8, .long r7), (0, .ref x0), (1, .int x1), (2, .int x2), (3, .ref x3), (4, .ref x4), (5, .int x5), (7, .int x7)]) hx hb dX5_rowByAct_131 hl (k := 8) rfl (by rw [← ev18]; rfl) (by decide) rfl (fun ls hl => ?_)
            refine lv_goto (tgt := 140) hx hb dX5_rowByAct_134 (by decide) ?_
            exact b_X5_rowByAct_140 X ih hI h (lv_sub hl [3, 4, 5, 6, 7, 8, 0, 9] rfl)
        · have h := g_t _ c h
          refine lv_aload_n hx hb dX5_rowByAct_92 rfl (lv_at hl 2 rfl) ?_
          obtain ⟨g19, eg19, h⟩ := gb_s h
          refine g_get X hI (g_fA_s eg19) (C := RX5) (T := TX5) (N := 9) rfl gu_X5 (by decide) tw_1_75 dX5_rowByAct_93 ?_
          refine lv_iload hx hb dX5_rowByAct_96 (lv_at hl 9 rfl) ?_
          refine lv_aload_n hx hb dX5_rowByAct_98 rfl (lv_at hl 2 rfl) ?_
          obtain ⟨g20, eg20, h⟩ := gb_s h
          refine g_get X hI (g_fA_s eg20) (C := RX5) (T := TX5) (N := 9) rfl gu_X5 (by decide) tw_1_73 dX5_rowByAct_99 ?_
          refine lv_iload_n hx hb dX5_rowByAct_102 rfl (lv_at hl 3 rfl) ?_
          refine lv_iload_n hx hb dX5_rowByAct_103 rfl (lv_at hl 4 rfl) ?_
          refine lv_lload hx hb dX5_rowByAct_104 (lv_at hl 1 rfl) ?_
          refine lv_lload hx hb dX5_rowByAct_106 (lv_at hl 0 rfl) ?_
          obtain ⟨cO, h⟩ := gck_s h
          obtain ⟨r21, G22, er21, h⟩ := gb2_s h
          refine g_callV X hI (q := (RX0, TX0, 3)) (b := g20) (av := [.int x1, .int x2, .long r7, .long r13]) cO rfl (c_X0_ofTwo er21) gm_X0_ofTwo tw_2_105 tw_2_106 tw_2_107 ⟨by decide, by decide⟩ hl.1 (rest := [.int x7, .ref g19]) rfl (Nat.le_of_ble_eq_true rfl) dX5_rowByAct_108 ⟨by decide, by decide⟩ (st1 := [.long r21, .int x7, .ref g19]) rfl (cells' := 0) (slots' := 0) rfl rfl (fun H locs hI => ?_)
          obtain ⟨G23, eG23, h⟩ := gb_s h
          refine g_last X hI (G' := G23) eG23 dX5_rowByAct_111 (fun H locs hI => ?_)
          refine lv_goto (tgt := 140) hx hb dX5_rowByAct_112 (by decide) ?_
          exact b_X5_rowByAct_140 X ih hI h (lv_sub hl [2, 3, 4, 5, 6, 7, 8, 9] rfl)
def f_X5_rowByAct (G : gG) (th : Nat) (a1 : Int32) (a2 : Int32) (a3 : Nat) (a4 : Nat) : Option (Int32 × gG) :=
  gb (g_fA G th 4 2) fun g1 =>
  gck (g_isO G g1 2) <|
  gb (f_X3_size G g1) fun r2 =>
  f_X5_rowByAct_15 5000 G th a1 a2 a3 a4 r2 0 0
theorem gm_X5_rowByAct : g_M yX5_rowByAct cX5_rowByAct 12 (some .int) 4 := ⟨tw_2_29, tw_1_1, by decide +kernel, Or.inl (by decide +kernel)⟩
set_option maxHeartbeats 4000000 in
set_option maxRecDepth 100000 in
theorem c_X5_rowByAct {l : Launch} {E : gE} {G : gG} {n : Nat} {th : Nat} {a1 : Int32} {a2 : Int32} {a3 : Nat} {a4 : Nat} {r : Int32} {Gr : gG} (h : f_X5_rowByAct G th a1 a2 a3 a4 = some (r, Gr)) : g_Met l yX5_rowByAct cX5_rowByAct 12 (some .int) rm_X5_rowByAct E G n [.ref th, .int a1, .int a2, .ref a3, .ref a4] (some (.int r)) Gr n := by
  refine g_ofW gm_X5_rowByAct (Nat.le_of_ble_eq_true rfl) ?_
  intro p e s m below meth c ls X hl hI
  have hx := X.1
  have hb := X.2.1
  have X : g_X E G n p s m _ meth c cX5_rowByAct 12 RX5 "rowByAct" (some .int) := X
  have hl : lv_has ls 12 [(0, .ref th), (1, .int a1), (2, .int a2), (3, .ref a3), (4, .ref a4)] := hl
  unfold f_X5_rowByAct at h
  refine lv_aload_n hx hb dX5_rowByAct_0 rfl (lv_at hl 0 rfl) ?_
  obtain ⟨g1, eg1, h⟩ := gb_s h
  refine g_get X hI (g_fA_s eg1) (C := RX5) (T := TX5) (N := 9) rfl gu_X5 (by decide) tw_1_74 dX5_rowByAct_1 ?_
  obtain ⟨cO, h⟩ := gck_s h
  obtain ⟨r2, er2, h⟩ := gb_s h
  refine g_callV X hI (q := (RX3, TX3, 2)) (b := g1) (av := []) cO rfl (c_X3_size er2) gm_X3_size tw_1_128 tw_1_129 tw_1_130 ⟨by decide, by decide⟩ hl.1 (rest := []) rfl (Nat.le_of_ble_eq_true rfl) dX5_rowByAct_4 ⟨by decide, by decide⟩ (st1 := [.int r2]) rfl (cells' := 0) (slots' := 0) rfl rfl (fun H locs hI => ?_)
  refine lv_istore (lv' := [(5, .int r2), (0, .ref th), (1, .int a1), (2, .int a2), (3, .ref a3), (4, .ref a4)]) hx hb dX5_rowByAct_7 hl (by decide) rfl (fun ls hl => ?_)
  refine lv_iconst (v := 0) hx hb dX5_rowByAct_9 (by decide) ?_
  refine lv_istore (lv' := [(6, .int 0), (5, .int r2), (0, .ref th), (1, .int a1), (2, .int a2), (3, .ref a3), (4, .ref a4)]) hx hb dX5_rowByAct_10 hl (by decide) rfl (fun ls hl => ?_)
  refine lv_iconst (v := 0) hx hb dX5_rowByAct_12 (by decide) ?_
  refine lv_istore (lv' := [(7, .int 0), (6, .int 0), (5, .int r2), (0, .ref th), (1, .int a1), (2, .int a2), (3, .ref a3), (4, .ref a4)]) hx hb dX5_rowByAct_13 hl (by decide) rfl (fun ls hl => ?_)
  exact b_X5_rowByAct_15 X 5000 hI h (lv_sub hl [3, 4, 5, 6, 7, 2, 1, 0] rfl)
abbrev rm_X5_act : Room := { frames := 6, cells := 4, slots := 249, locals := 176 }
def f_X5_act_59 (G : gG) (n : Nat) (x0 : Nat) : Option (Int32 × gG × Nat) :=
  gck (g_isO G x0 4) <|
  gb2 (f_X5_failed G x0 (1 : Int32) (-3 : Int32)) fun r1 G2 =>
  some (r1, G2, n)
set_option maxHeartbeats 4000000 in
set_option maxRecDepth 100000 in
theorem b_X5_act_59 {p : Program} {l : Launch} {e : Env} {s : State} {m : MethodId} {args : Array Value} {below : List Frame} {meth : Method} {c : Code} {E : gE} {G0 : gG} {n0 : Nat} (X : g_X E G0 n0 p s m args meth c cX5_act 9 RX5 "act" (some .int)) {G : gG} {n : Nat} {r : Int32} {Gr : gG} {nr : Nat} {H : Heap} {locs : List Loc} (hI : g_I E (g_A G0 n0) G n s.heap H locs) {x0 : Nat} (h : f_X5_act_59 G n x0 = some (r, Gr, nr)) {ls : Array Slot} (hl : lv_has ls 9 [(0, .ref x0)]) : W p l e rm_X5_act s m args below meth c H locs 0 0 (MQ below (g_Q E G0 n0 (some (.int r)) Gr nr) args s rm_X5_act.cells rm_X5_act.slots (g_A G0 n0)) (F0 m 59 ls []) := by
  have hx := X.1
  have hb := X.2.1
  unfold f_X5_act_59 at h
  refine lv_aload_n hx hb dX5_act_59 rfl (lv_at hl 0 rfl) ?_
  refine lv_iconst (v := 1) hx hb dX5_act_60 (by decide) ?_
  refine lv_bipush (v := (-3)) hx hb dX5_act_61 (by decide) ?_
  obtain ⟨cO, h⟩ := gck_s h
  obtain ⟨r1, G2, er1, h⟩ := gb2_s h
  refine g_callV X hI (q := (RX5, TX5, 9)) (b := x0) (av := [.int 1, .int (-3)]) cO rfl (c_X5_failed er1) gm_X5_failed tw_1_167 tw_1_169 tw_p_4 ⟨by decide, by decide⟩ hl.1 (rest := []) rfl (Nat.le_of_ble_eq_true rfl) dX5_act_63 ⟨by decide, by decide⟩ (st1 := [.int r1]) rfl (cells' := 0) (slots' := 0) rfl rfl (fun H locs hI => ?_)
  obtain ⟨h, h2, h3⟩ := g_sp3 h
  subst h
  subst h2
  subst h3
  refine W.widen (k := 4) (n := 249) (by decide) (by decide) ?_
  exact g_iret X hI dX5_act_66
def f_X5_act (G : gG) (n : Nat) (th : Nat) (a1 : Int32) (a2 : Int32) (a3 : Int32) : Option (Int32 × gG × Nat) :=
  gck (g_isO G th 4) <|
  gb (f_X5_known G th a2) fun o1 =>
  gck (g_isO G th 4) <|
  gb (f_X5_known G th a3) fun o2 =>
  gnl o1 (
  some ((-1), G, n)) fun q3 =>
  gnl o2 (
  some ((-1), G, n)) fun q4 =>
  if (f_X0_isAct a1) = 0 then
    some ((-1), G, n)
  else
  gck (g_isO G th 4) <|
  gb (f_X5_isFull G th) fun r5 =>
  if r5 = 0 then
    gb (g_fI G q3 3 3) fun v6 =>
    if v6 = 0 then
      gb (g_fI G q4 3 3) fun v7 =>
      if v7 = 0 then
        gb (g_fI G q3 3 0) fun v8 =>
        gb (g_fI G q4 3 0) fun v9 =>
        gl ((f_X1_ofAct a1 v8 v9) : Int32) fun v10 =>
        if v10 = (-3) then
          gck (g_isO G th 4) <|
          gb2 (f_X5_failed G th (4 : Int32) (-3 : Int32)) fun r26 G27 =>
          some (r26, G27, n)
        else
        gck (g_isO G th 4) <|
        gb2 (f_X5_spreadOf G th q3 q4) fun r11 G12 =>
        if r11 = (-3) then
          gb (g_fA G12 th 4 2) fun g13 =>
          gck (g_isO G12 g13 2) <|
          gb (f_X3_size G12 g13) fun r14 =>
          if r14 ≤ 240 then
            gck (g_isO G12 th 4) <|
            gb2 (f_X5_rowByAct G12 th a1 v10 q3 q4) fun r15 G16 =>
            if r15 = (-3) then
              gck (g_isO G16 th 4) <|
              gb3 (f_X5_madeOfRow G16 n th (f_X1_ofResult a1 v10)) fun r17 G18 n19 =>
              some (r17, G18, n19)
            else
            gck (g_isO G16 th 4) <|
            gb2 (f_X5_failed G16 th (5 : Int32) r15) fun r20 G21 =>
            some (r20, G21, n)
          else
          gck (g_isO G12 th 4) <|
          gb2 (f_X5_failed G12 th (6 : Int32) (-3 : Int32)) fun r22 G23 =>
          some (r22, G23, n)
        else
        gck (g_isO G12 th 4) <|
        gb2 (f_X5_failed G12 th (6 : Int32) r11) fun r24 G25 =>
        some (r24, G25, n)
      else
      f_X5_act_59 G n th
    else
    f_X5_act_59 G n th
  else
  some ((-2), G, n)
theorem gm_X5_act : g_M yX5_act cX5_act 9 (some .int) 3 := ⟨tw_1_234, tw_1_1, by decide +kernel, Or.inl (by decide +kernel)⟩
set_option maxHeartbeats 4000000 in
set_option maxRecDepth 100000 in
theorem c_X5_act {l : Launch} {E : gE} {G : gG} {n : Nat} {th : Nat} {a1 : Int32} {a2 : Int32} {a3 : Int32} {r : Int32} {Gr : gG} {nr : Nat} (h : f_X5_act G n th a1 a2 a3 = some (r, Gr, nr)) : g_Met l yX5_act cX5_act 9 (some .int) rm_X5_act E G n [.ref th, .int a1, .int a2, .int a3] (some (.int r)) Gr nr := by
  refine g_ofW gm_X5_act (Nat.le_of_ble_eq_true rfl) ?_
  intro p e s m below meth c ls X hl hI
  have hx := X.1
  have hb := X.2.1
  have X : g_X E G n p s m _ meth c cX5_act 9 RX5 "act" (some .int) := X
  have hl : lv_has ls 9 [(0, .ref th), (1, .int a1), (2, .int a2), (3, .int a3)] := hl
  unfold f_X5_act at h
  refine lv_aload_n hx hb dX5_act_0 rfl (lv_at hl 0 rfl) ?_
  refine lv_iload_n hx hb dX5_act_1 rfl (lv_at hl 2 rfl) ?_
  obtain ⟨cO, h⟩ := gck_s h
  obtain ⟨o1, eo1, h⟩ := gb_s h
  refine g_callV X hI (q := (RX5, TX5, 9)) (b := th) (av := [.int a2]) cO rfl (c_X5_known eo1) gm_X5_known tw_1_175 tw_1_177 tw_p_5 ⟨by decide, by decide⟩ hl.1 (rest := []) rfl (Nat.le_of_ble_eq_true rfl) dX5_act_2 ⟨by decide, by decide⟩ (st1 := [va_rf o1]) rfl (cells' := 0) (slots' := 0) rfl rfl (fun H locs hI => ?_)
  refine g_aso (lv' := [(4, va_rf o1), (0, .ref th), (1, .int a1), (2, .int a2), (3, .int a3)]) hx hb dX5_act_5 hl (by decide) (by first | rfl | simp [g_rfcat]) (fun ls hl => ?_)
  refine lv_aload_n hx hb dX5_act_7 rfl (lv_at hl 1 rfl) ?_
  refine lv_iload_n hx hb dX5_act_8 rfl (lv_at hl 4 rfl) ?_
  obtain ⟨cO, h⟩ := gck_s h
  obtain ⟨o2, eo2, h⟩ := gb_s h
  refine g_callV X hI (q := (RX5, TX5, 9)) (b := th) (av := [.int a3]) cO rfl (c_X5_known eo2) gm_X5_known tw_1_175 tw_1_177 tw_p_5 ⟨by decide, by decide⟩ hl.1 (rest := []) rfl (Nat.le_of_ble_eq_true rfl) dX5_act_9 ⟨by decide, by decide⟩ (st1 := [va_rf o2]) rfl (cells' := 0) (slots' := 0) rfl rfl (fun H locs hI => ?_)
  refine g_aso (lv' := [(5, va_rf o2), (4, va_rf o1), (0, .ref th), (1, .int a1), (2, .int a2), (3, .int a3)]) hx hb dX5_act_12 hl (by decide) (by first | rfl | simp [g_rfcat]) (fun ls hl => ?_)
  refine g_alo hx hb dX5_act_14 (lv_at hl 1 rfl) ?_
  rcases o1 with _ | q3
  · have h := gnl_n h
    have hl : lv_has ls 9 [(5, va_rf o2), (4, .null), (0, .ref th), (1, .int a1), (2, .int a2), (3, .int a3)] := hl
    refine lv_ifnullN (tgt := 31) hx hb dX5_act_16 (by decide) ?_
    refine lv_iconst (v := (-1)) hx hb dX5_act_31 (by decide) ?_
    obtain ⟨h, h2, h3⟩ := g_sp3 h
    subst h
    subst h2
    subst h3
    refine W.widen (k := 4) (n := 249) (by decide) (by decide) ?_
    exact g_iret X hI dX5_act_32
  · have h := gnl_a h
    have hl : lv_has ls 9 [(5, va_rf o2), (4, .ref q3), (0, .ref th), (1, .int a1), (2, .int a2), (3, .int a3)] := hl
    refine lv_ifnull hx hb dX5_act_16 ?_
    refine g_alo hx hb dX5_act_19 (lv_at hl 0 rfl) ?_
    rcases o2 with _ | q4
    · have h := gnl_n h
      have hl : lv_has ls 9 [(5, .null), (4, .ref q3), (0, .ref th), (1, .int a1), (2, .int a2), (3, .int a3)] := hl
      refine lv_ifnullN (tgt := 31) hx hb dX5_act_21 (by decide) ?_
      refine lv_iconst (v := (-1)) hx hb dX5_act_31 (by decide) ?_
      obtain ⟨h, h2, h3⟩ := g_sp3 h
      subst h
      subst h2
      subst h3
      refine W.widen (k := 4) (n := 249) (by decide) (by decide) ?_
      exact g_iret X hI dX5_act_32
    · have h := gnl_a h
      have hl : lv_has ls 9 [(5, .ref q4), (4, .ref q3), (0, .ref th), (1, .int a1), (2, .int a2), (3, .int a3)] := hl
      refine lv_ifnull hx hb dX5_act_21 ?_
      refine lv_iload_n hx hb dX5_act_24 rfl (lv_at hl 3 rfl) ?_
      refine g_callS X hI (av := [.int a1]) (c_X0_isAct a1) gm_X0_isAct tw_1_235 tw_1_236 ⟨by decide, by decide⟩ hl.1 (rest := []) rfl (Nat.le_of_ble_eq_true rfl) dX5_act_25 ⟨by decide, by decide⟩ (st1 := [.int (f_X0_isAct a1)]) rfl (cells' := 0) (slots' := 0) rfl rfl (fun H locs hI => ?_)
      refine lv_if_ne (tgt := 33) hx hb dX5_act_28 (by decide) (fun c => ?_) (fun c => ?_)
      · have h := g_f _ c h
        refine lv_aload_n hx hb dX5_act_33 rfl (lv_at hl 2 rfl) ?_
        obtain ⟨cO, h⟩ := gck_s h
        obtain ⟨r5, er5, h⟩ := gb_s h
        refine g_callV X hI (q := (RX5, TX5, 9)) (b := th) (av := []) cO rfl (c_X5_isFull er5) gm_X5_isFull tw_1_108 tw_1_110 tw_p_0 ⟨by decide, by decide⟩ hl.1 (rest := []) rfl (Nat.le_of_ble_eq_true rfl) dX5_act_34 ⟨by decide, by decide⟩ (st1 := [.int r5]) rfl (cells' := 0) (slots' := 0) rfl rfl (fun H locs hI => ?_)
        refine lv_if_eq (tgt := 43) hx hb dX5_act_37 (by decide) (fun c => ?_) (fun c => ?_)
        · have h := g_t _ c h
          refine lv_aload hx hb dX5_act_43 (lv_at hl 1 rfl) ?_
          obtain ⟨v6, ev6, h⟩ := gb_s h
          refine g_get X hI (g_fI_s ev6) (C := RX4) (T := TX4) (N := 4) rfl gu_X4 (by decide) tw_1_150 dX5_act_45 ?_
          refine lv_if_ne (tgt := 59) hx hb dX5_act_48 (by decide) (fun c => ?_) (fun c => ?_)
          · have h := g_f _ c h
            exact b_X5_act_59 X hI h (lv_sub hl [2] rfl)
          · have h := g_t _ c h
            refine lv_aload hx hb dX5_act_51 (lv_at hl 0 rfl) ?_
            obtain ⟨v7, ev7, h⟩ := gb_s h
            refine g_get X hI (g_fI_s ev7) (C := RX4) (T := TX4) (N := 4) rfl gu_X4 (by decide) tw_1_150 dX5_act_53 ?_
            refine lv_if_eq (tgt := 67) hx hb dX5_act_56 (by decide) (fun c => ?_) (fun c => ?_)
            · have h := g_t _ c h
              refine lv_iload_n hx hb dX5_act_67 rfl (lv_at hl 3 rfl) ?_
              refine lv_aload hx hb dX5_act_68 (lv_at hl 1 rfl) ?_
              obtain ⟨v8, ev8, h⟩ := gb_s h
              refine g_get X hI (g_fI_s ev8) (C := RX4) (T := TX4) (N := 4) rfl gu_X4 (by decide) tw_1_144 dX5_act_70 ?_
              refine lv_aload hx hb dX5_act_73 (lv_at hl 0 rfl) ?_
              obtain ⟨v9, ev9, h⟩ := gb_s h
              refine g_get X hI (g_fI_s ev9) (C := RX4) (T := TX4) (N := 4) rfl gu_X4 (by decide) tw_1_144 dX5_act_75 ?_
              refine g_callS X hI (av := [.int a1, .int v8, .int v9]) (c_X1_ofAct a1 v8 v9) gm_X1_ofAct tw_1_238 tw_1_239 ⟨by decide, by decide⟩ hl.1 (rest := []) rfl (Nat.le_of_ble_eq_true rfl) dX5_act_78 ⟨by decide, by decide⟩ (st1 := [.int (f_X1_ofAct a1 v8 v9)]) rfl (cells' := 0) (slots' := 0) rfl rfl (fun H locs hI => ?_)
              obtain ⟨v10, ev10, h⟩ := gl_s h
              refine g_topi ev10 ?_
              refine lv_istore (lv' := [(6, .int v10), (5, .ref q4), (4, .ref q3), (0, .ref th), (1, .int a1), (2, .int a2), (3, .int a3)]) hx hb dX5_act_81 hl (by decide) rfl (fun ls hl => ?_)
              refine lv_iload hx hb dX5_act_83 (lv_at hl 0 rfl) ?_
              refine lv_bipush (v := (-3)) hx hb dX5_act_85 (by decide) ?_
              refine lv_icmp_ne (tgt := 98) hx hb dX5_act_87 (by decide) (fun c => ?_) (fun c => ?_)
              · have h := g_f _ c h
                refine lv_aload_n hx hb dX5_act_98 rfl (lv_at hl 3 rfl) ?_
                refine lv_aload hx hb dX5_act_99 (lv_at hl 2 rfl) ?_
                refine lv_aload hx hb dX5_act_101 (lv_at hl 1 rfl) ?_
                obtain ⟨cO, h⟩ := gck_s h
                obtain ⟨r11, G12, er11, h⟩ := gb2_s h
                refine g_callV X hI (q := (RX5, TX5, 9)) (b := th) (av := [.ref q3, .ref q4]) cO rfl (c_X5_spreadOf er11) gm_X5_spreadOf tw_2_16 tw_2_18 tw_p_6 ⟨by decide, by decide⟩ hl.1 (rest := []) rfl (Nat.le_of_ble_eq_true rfl) dX5_act_103 ⟨by decide, by decide⟩ (st1 := [.int r11]) rfl (cells' := 0) (slots' := 0) rfl rfl (fun H locs hI => ?_)
                refine lv_istore (lv' := [(7, .int r11), (6, .int v10), (5, .ref q4), (4, .ref q3), (0, .ref th), (1, .int a1), (2, .int a2), (3, .int a3)]) hx hb dX5_act_106 hl (by decide) rfl (fun ls hl => ?_)
                refine lv_iload hx hb dX5_act_108 (lv_at hl 0 rfl) ?_
                refine lv_bipush (v := (-3)) hx hb dX5_act_110 (by decide) ?_
                refine lv_icmp_eq (tgt := 124) hx hb dX5_act_112 (by decide) (fun c => ?_) (fun c => ?_)
                · have h := g_t _ c h
                  refine lv_aload_n hx hb dX5_act_124 rfl (lv_at hl 4 rfl) ?_
                  obtain ⟨g13, eg13, h⟩ := gb_s h
                  refine g_get X hI (g_fA_s eg13) (C := RX5) (T := TX5) (N := 9) rfl gu_X5 (by decide) tw_1_74 dX5_act_125 ?_
                  obtain ⟨cO, h⟩ := gck_s h
                  obtain ⟨r14, er14, h⟩ := gb_s h
                  refine g_callV X hI (q := (RX3, TX3, 2)) (b := g13) (av := []) cO rfl (c_X3_size er14) gm_X3_size tw_1_128 tw_1_129 tw_1_130 ⟨by decide, by decide⟩ hl.1 (rest := []) rfl (Nat.le_of_ble_eq_true rfl) dX5_act_128 ⟨by decide, by decide⟩ (st1 := [.int r14]) rfl (cells' := 0) (slots' := 0) rfl rfl (fun H locs hI => ?_)
                  refine lv_sipush (v := 240) hx hb dX5_act_131 (by decide) ?_
                  refine lv_icmp_le (tgt := 146) hx hb dX5_act_134 (by decide) (fun c => ?_) (fun c => ?_)
                  · have h := g_t _ c h
                    refine lv_aload_n hx hb dX5_act_146 rfl (lv_at hl 4 rfl) ?_
                    refine lv_iload_n hx hb dX5_act_147 rfl (lv_at hl 5 rfl) ?_
                    refine lv_iload hx hb dX5_act_148 (lv_at hl 1 rfl) ?_
                    refine lv_aload hx hb dX5_act_150 (lv_at hl 3 rfl) ?_
                    refine lv_aload hx hb dX5_act_152 (lv_at hl 2 rfl) ?_
                    obtain ⟨cO, h⟩ := gck_s h
                    obtain ⟨r15, G16, er15, h⟩ := gb2_s h
                    refine g_callV X hI (q := (RX5, TX5, 9)) (b := th) (av := [.int a1, .int v10, .ref q3, .ref q4]) cO rfl (c_X5_rowByAct er15) gm_X5_rowByAct tw_2_26 tw_2_28 tw_p_7 ⟨by decide, by decide⟩ hl.1 (rest := []) rfl (Nat.le_of_ble_eq_true rfl) dX5_act_154 ⟨by decide, by decide⟩ (st1 := [.int r15]) rfl (cells' := 0) (slots' := 0) rfl rfl (fun H locs hI => ?_)
                    refine lv_istore (lv' := [(8, .int r15), (7, .int r11), (6, .int v10), (5, .ref q4), (4, .ref q3), (0, .ref th), (1, .int a1), (2, .int a2), (3, .int a3)]) hx hb dX5_act_157 hl (by decide) rfl (fun ls hl => ?_)
                    refine lv_iload hx hb dX5_act_159 (lv_at hl 0 rfl) ?_
                    refine lv_bipush (v := (-3)) hx hb dX5_act_161 (by decide) ?_
                    refine lv_icmp_eq (tgt := 174) hx hb dX5_act_163 (by decide) (fun c => ?_) (fun c => ?_)
                    · have h := g_t _ c h
                      refine lv_aload_n hx hb dX5_act_174 rfl (lv_at hl 5 rfl) ?_
                      refine lv_iload_n hx hb dX5_act_175 rfl (lv_at hl 6 rfl) ?_
                      refine lv_iload hx hb dX5_act_176 (lv_at hl 2 rfl) ?_
                      refine g_callS X hI (av := [.int a1, .int v10]) (c_X1_ofResult a1 v10) gm_X1_ofResult tw_2_196 tw_2_197 ⟨by decide, by decide⟩ hl.1 (rest := [.ref th]) rfl (Nat.le_of_ble_eq_true rfl) dX5_act_178 ⟨by decide, by decide⟩ (st1 := [.int (f_X1_ofResult a1 v10), .ref th]) rfl (cells' := 0) (slots' := 0) rfl rfl (fun H locs hI => ?_)
                      obtain ⟨cO, h⟩ := gck_s h
                      obtain ⟨r17, G18, n19, er17, h⟩ := gb3_s h
                      refine g_callV X hI (q := (RX5, TX5, 9)) (b := th) (av := [.int (f_X1_ofResult a1 v10)]) cO rfl (c_X5_madeOfRow er17) gm_X5_madeOfRow tw_1_124 tw_1_126 tw_p_3 ⟨by decide, by decide⟩ hl.1 (rest := []) rfl (Nat.le_of_ble_eq_true rfl) dX5_act_181 ⟨by decide, by decide⟩ (st1 := [.int r17]) rfl (cells' := 4) (slots' := 249) rfl rfl (fun H locs hI => ?_)
                      obtain ⟨h, h2, h3⟩ := g_sp3 h
                      subst h
                      subst h2
                      subst h3
                      exact g_iret X hI dX5_act_184
                    · have h := g_f _ c h
                      refine lv_aload_n hx hb dX5_act_166 rfl (lv_at hl 5 rfl) ?_
                      refine lv_iconst (v := 5) hx hb dX5_act_167 (by decide) ?_
                      refine lv_iload hx hb dX5_act_168 (lv_at hl 0 rfl) ?_
                      obtain ⟨cO, h⟩ := gck_s h
                      obtain ⟨r20, G21, er20, h⟩ := gb2_s h
                      refine g_callV X hI (q := (RX5, TX5, 9)) (b := th) (av := [.int 5, .int r15]) cO rfl (c_X5_failed er20) gm_X5_failed tw_1_167 tw_1_169 tw_p_4 ⟨by decide, by decide⟩ hl.1 (rest := []) rfl (Nat.le_of_ble_eq_true rfl) dX5_act_170 ⟨by decide, by decide⟩ (st1 := [.int r20]) rfl (cells' := 0) (slots' := 0) rfl rfl (fun H locs hI => ?_)
                      obtain ⟨h, h2, h3⟩ := g_sp3 h
                      subst h
                      subst h2
                      subst h3
                      refine W.widen (k := 4) (n := 249) (by decide) (by decide) ?_
                      exact g_iret X hI dX5_act_173
                  · have h := g_f _ c h
                    refine lv_aload_n hx hb dX5_act_137 rfl (lv_at hl 4 rfl) ?_
                    refine lv_bipush (v := 6) hx hb dX5_act_138 (by decide) ?_
                    refine lv_bipush (v := (-3)) hx hb dX5_act_140 (by decide) ?_
                    obtain ⟨cO, h⟩ := gck_s h
                    obtain ⟨r22, G23, er22, h⟩ := gb2_s h
                    refine g_callV X hI (q := (RX5, TX5, 9)) (b := th) (av := [.int 6, .int (-3)]) cO rfl (c_X5_failed er22) gm_X5_failed tw_1_167 tw_1_169 tw_p_4 ⟨by decide, by decide⟩ hl.1 (rest := []) rfl (Nat.le_of_ble_eq_true rfl) dX5_act_142 ⟨by decide, by decide⟩ (st1 := [.int r22]) rfl (cells' := 0) (slots' := 0) rfl rfl (fun H locs hI => ?_)
                    obtain ⟨h, h2, h3⟩ := g_sp3 h
                    subst h
                    subst h2
                    subst h3
                    refine W.widen (k := 4) (n := 249) (by decide) (by decide) ?_
                    exact g_iret X hI dX5_act_145
                · have h := g_f _ c h
                  refine lv_aload_n hx hb dX5_act_115 rfl (lv_at hl 4 rfl) ?_
                  refine lv_bipush (v := 6) hx hb dX5_act_116 (by decide) ?_
                  refine lv_iload hx hb dX5_act_118 (lv_at hl 0 rfl) ?_
                  obtain ⟨cO, h⟩ := gck_s h
                  obtain ⟨r24, G25, er24, h⟩ := gb2_s h
                  refine g_callV X hI (q := (RX5, TX5, 9)) (b := th) (av := [.int 6, .int r11]) cO rfl (c_X5_failed er24) gm_X5_failed tw_1_167 tw_1_169 tw_p_4 ⟨by decide, by decide⟩ hl.1 (rest := []) rfl (Nat.le_of_ble_eq_true rfl) dX5_act_120 ⟨by decide, by decide⟩ (st1 := [.int r24]) rfl (cells' := 0) (slots' := 0) rfl rfl (fun H locs hI => ?_)
                  obtain ⟨h, h2, h3⟩ := g_sp3 h
                  subst h
                  subst h2
                  subst h3
                  refine W.widen (k := 4) (n := 249) (by decide) (by decide) ?_
                  exact g_iret X hI dX5_act_123
              · have h := g_t _ c h
                refine lv_aload_n hx hb dX5_act_90 rfl (lv_at hl 3 rfl) ?_
                refine lv_iconst (v := 4) hx hb dX5_act_91 (by decide) ?_
                refine lv_bipush (v := (-3)) hx hb dX5_act_92 (by decide) ?_
                obtain ⟨cO, h⟩ := gck_s h
                obtain ⟨r26, G27, er26, h⟩ := gb2_s h
                refine g_callV X hI (q := (RX5, TX5, 9)) (b := th) (av := [.int 4, .int (-3)]) cO rfl (c_X5_failed er26) gm_X5_failed tw_1_167 tw_1_169 tw_p_4 ⟨by decide, by decide⟩ hl.1 (rest := []) rfl (Nat.le_of_ble_eq_true rfl) dX5_act_94 ⟨by decide, by decide⟩ (st1 := [.int r26]) rfl (cells' := 0) (slots' := 0) rfl rfl (fun H locs hI => ?_)
                obtain ⟨h, h2, h3⟩ := g_sp3 h
                subst h
                subst h2
                subst h3
                refine W.widen (k := 4) (n := 249) (by decide) (by decide) ?_
                exact g_iret X hI dX5_act_97
            · have h := g_f _ c h
              exact b_X5_act_59 X hI h (lv_sub hl [2] rfl)
        · have h := g_f _ c h
          refine lv_bipush (v := (-2)) hx hb dX5_act_40 (by decide) ?_
          obtain ⟨h, h2, h3⟩ := g_sp3 h
          subst h
          subst h2
          subst h3
          refine W.widen (k := 4) (n := 249) (by decide) (by decide) ?_
          exact g_iret X hI dX5_act_42
      · have h := g_t _ c h
        refine lv_iconst (v := (-1)) hx hb dX5_act_31 (by decide) ?_
        obtain ⟨h, h2, h3⟩ := g_sp3 h
        subst h
        subst h2
        subst h3
        refine W.widen (k := 4) (n := 249) (by decide) (by decide) ?_
        exact g_iret X hI dX5_act_32
abbrev rm_X5_moveRowInto : Room := { frames := 4, cells := 0, slots := 0, locals := 102 }
def f_X5_moveRowInto_2 : Nat → gG → Nat → Nat → Int32 → Int32 → Option gG
  | 0, _, _, _, _, _ => none
  | fu + 1, G, x0, x1, x2, x3 =>
    gb (g_fA G x1 3 2) fun g1 =>
    gb (g_len G g1) fun v2 =>
    if v2 ≤ x3 then
      some G
    else
    gb (g_fA G x0 4 3) fun g3 =>
    gb (g_len G g3) fun v4 =>
    if v4 ≤ x3 then
      some G
    else
    gb (g_fA G x0 4 1) fun g5 =>
    gb (g_fA G x0 4 3) fun g6 =>
    gb (g_ll G g6 x3) fun v7 =>
    gb (g_fI G x1 3 0) fun v8 =>
    gck (g_isO G g5 0) <|
    gb2 (f_X0_moved G g5 v7 x2 v8) fun r9 G10 =>
    gck (g_isO G10 x1 3) <|
    gb (f_X4_write G10 x1 x3 r9) fun G11 =>
    gl (x3 + 1 : Int32) fun v12 =>
    f_X5_moveRowInto_2 fu G11 x0 x1 x2 v12
set_option maxHeartbeats 4000000 in
set_option maxRecDepth 100000 in
theorem b_X5_moveRowInto_2 {p : Program} {l : Launch} {e : Env} {s : State} {m : MethodId} {args : Array Value} {below : List Frame} {meth : Method} {c : Code} {E : gE} {G0 : gG} {n0 : Nat} (X : g_X E G0 n0 p s m args meth c cX5_moveRowInto 4 RX5 "moveRowInto" none) {n : Nat} {Gr : gG} (fu : Nat) : ∀ {G : gG} {H : Heap} {locs : List Loc} (_ : g_I E (g_A G0 n0) G n s.heap H locs) {x0 : Nat} {x1 : Nat} {x2 : Int32} {x3 : Int32} (_ : f_X5_moveRowInto_2 fu G x0 x1 x2 x3 = some Gr) {ls : Array Slot} (_ : lv_has ls 4 [(0, .ref x0), (1, .ref x1), (2, .int x2), (3, .int x3)]), W p l e rm_X5_moveRowInto s m args below meth c H locs 0 0 (MQ below (g_Q E G0 n0 none Gr n) args s rm_X5_moveRowInto.cells rm_X5_moveRowInto.slots (g_A G0 n0)) (F0 m 2 ls []) := by
  have hx := X.1
  have hb := X.2.1
  induction fu with
  | zero =>
    intro G H locs hI x0 x1 x2 x3 h ls hl
    rw [f_X5_moveRowInto_2] at h
    cases h
  | succ fu ih =>
    intro G H locs hI x0 x1 x2 x3 h ls hl
    rw [f_X5_moveRowInto_2] at h
    refine lv_iload_n hx hb dX5_moveRowInto_2 rfl (lv_at hl 3 rfl) ?_
    refine lv_aload_n hx hb dX5_moveRowInto_3 rfl (lv_at hl 1 rfl) ?_
    obtain ⟨g1, eg1, h⟩ := gb_s h
    refine g_get X hI (g_fA_s eg1) (C := RX4) (T := TX4) (N := 4) rfl gu_X4 (by decide) tw_1_148 dX5_moveRowInto_4 ?_
    obtain ⟨v2, ev2, h⟩ := gb_s h
    refine g_alen X hI ev2 dX5_moveRowInto_7 ?_
    refine lv_icmp_ge (tgt := 49) hx hb dX5_moveRowInto_8 (by decide) (fun c => ?_) (fun c => ?_)
    · have h := g_t _ c h
      have h := Option.some.inj h
      subst h
      exact g_vret X hI dX5_moveRowInto_49
    · have h := g_f _ c h
      refine lv_iload_n hx hb dX5_moveRowInto_11 rfl (lv_at hl 3 rfl) ?_
      refine lv_aload_n hx hb dX5_moveRowInto_12 rfl (lv_at hl 0 rfl) ?_
      obtain ⟨g3, eg3, h⟩ := gb_s h
      refine g_get X hI (g_fA_s eg3) (C := RX5) (T := TX5) (N := 9) rfl gu_X5 (by decide) tw_1_75 dX5_moveRowInto_13 ?_
      obtain ⟨v4, ev4, h⟩ := gb_s h
      refine g_alen X hI ev4 dX5_moveRowInto_16 ?_
      refine lv_icmp_ge (tgt := 49) hx hb dX5_moveRowInto_17 (by decide) (fun c => ?_) (fun c => ?_)
      · have h := g_t _ c h
        have h := Option.some.inj h
        subst h
        exact g_vret X hI dX5_moveRowInto_49
      · have h := g_f _ c h
        refine lv_aload_n hx hb dX5_moveRowInto_20 rfl (lv_at hl 1 rfl) ?_
        refine lv_iload_n hx hb dX5_moveRowInto_21 rfl (lv_at hl 3 rfl) ?_
        refine lv_aload_n hx hb dX5_moveRowInto_22 rfl (lv_at hl 0 rfl) ?_
        obtain ⟨g5, eg5, h⟩ := gb_s h
        refine g_get X hI (g_fA_s eg5) (C := RX5) (T := TX5) (N := 9) rfl gu_X5 (by decide) tw_1_73 dX5_moveRowInto_23 ?_
        refine lv_aload_n hx hb dX5_moveRowInto_26 rfl (lv_at hl 0 rfl) ?_
        obtain ⟨g6, eg6, h⟩ := gb_s h
        refine g_get X hI (g_fA_s eg6) (C := RX5) (T := TX5) (N := 9) rfl gu_X5 (by decide) tw_1_75 dX5_moveRowInto_27 ?_
        refine lv_iload_n hx hb dX5_moveRowInto_30 rfl (lv_at hl 3 rfl) ?_
        obtain ⟨v7, ev7, h⟩ := gb_s h
        refine g_lald X hI ev7 dX5_moveRowInto_31 ?_
        refine lv_iload_n hx hb dX5_moveRowInto_32 rfl (lv_at hl 2 rfl) ?_
        refine lv_aload_n hx hb dX5_moveRowInto_33 rfl (lv_at hl 1 rfl) ?_
        obtain ⟨v8, ev8, h⟩ := gb_s h
        refine g_get X hI (g_fI_s ev8) (C := RX4) (T := TX4) (N := 4) rfl gu_X4 (by decide) tw_1_144 dX5_moveRowInto_34 ?_
        obtain ⟨cO, h⟩ := gck_s h
        obtain ⟨r9, G10, er9, h⟩ := gb2_s h
        refine g_callV X hI (q := (RX0, TX0, 3)) (b := g5) (av := [.long v7, .int x2, .int v8]) cO rfl (c_X0_moved er9) gm_X0_moved tw_2_39 tw_2_40 tw_2_41 ⟨by decide, by decide⟩ hl.1 (rest := [.int x3, .ref x1]) rfl (Nat.le_of_ble_eq_true rfl) dX5_moveRowInto_37 ⟨by decide, by decide⟩ (st1 := [.long r9, .int x3, .ref x1]) rfl (cells' := 0) (slots' := 0) rfl rfl (fun H locs hI => ?_)
        obtain ⟨cO, h⟩ := gck_s h
        obtain ⟨G11, eG11, h⟩ := gb_s h
        refine g_callV X hI (q := (RX4, TX4, 4)) (b := x1) (av := [.int x3, .long r9]) cO rfl (c_X4_write eG11) gm_X4_write tw_1_200 tw_1_201 tw_1_202 ⟨by decide, by decide⟩ hl.1 (rest := []) rfl (Nat.le_of_ble_eq_true rfl) dX5_moveRowInto_40 ⟨by decide, by decide⟩ (st1 := []) rfl (cells' := 0) (slots' := 0) rfl rfl (fun H locs hI => ?_)
        obtain ⟨v12, ev12, h⟩ := gl_s h
        refine lv_iinc (v := v12) (lv' := [(3, .int v12), (0, .ref x0), (1, .ref x1), (2, .int x2)]) hx hb dX5_moveRowInto_43 hl (k := 3) rfl (by rw [← ev12]; rfl) (by decide) rfl (fun ls hl => ?_)
        refine lv_goto (tgt := 2) hx hb dX5_moveRowInto_46 (by decide) ?_
        exact ih hI h (lv_sub hl [1, 2, 3, 0] rfl)
def f_X5_moveRowInto (G : gG) (th : Nat) (a1 : Nat) (a2 : Int32) : Option gG :=
  f_X5_moveRowInto_2 5000 G th a1 a2 0
theorem gm_X5_moveRowInto : g_M yX5_moveRowInto cX5_moveRowInto 4 none 2 := ⟨tw_2_213, tw_1_1, by decide +kernel, Or.inl (by decide +kernel)⟩
set_option maxHeartbeats 4000000 in
set_option maxRecDepth 100000 in
theorem c_X5_moveRowInto {l : Launch} {E : gE} {G : gG} {n : Nat} {th : Nat} {a1 : Nat} {a2 : Int32} {Gr : gG} (h : f_X5_moveRowInto G th a1 a2 = some Gr) : g_Met l yX5_moveRowInto cX5_moveRowInto 4 none rm_X5_moveRowInto E G n [.ref th, .ref a1, .int a2] none Gr n := by
  refine g_ofW gm_X5_moveRowInto (Nat.le_of_ble_eq_true rfl) ?_
  intro p e s m below meth c ls X hl hI
  have hx := X.1
  have hb := X.2.1
  have X : g_X E G n p s m _ meth c cX5_moveRowInto 4 RX5 "moveRowInto" none := X
  have hl : lv_has ls 4 [(0, .ref th), (1, .ref a1), (2, .int a2)] := hl
  unfold f_X5_moveRowInto at h
  refine lv_iconst (v := 0) hx hb dX5_moveRowInto_0 (by decide) ?_
  refine lv_istore_n (lv' := [(3, .int 0), (0, .ref th), (1, .ref a1), (2, .int a2)]) hx hb dX5_moveRowInto_1 rfl hl (by decide) rfl (fun ls hl => ?_)
  exact b_X5_moveRowInto_2 X 5000 hI h (lv_sub hl [1, 2, 3, 0] rfl)
abbrev rm_X5_into : Room := { frames := 6, cells := 0, slots := 0, locals := 176 }
def f_X5_into_70 (G : gG) (x0 : Nat) : Option (Int32 × gG) :=
  gck (g_isO G x0 4) <|
  gb2 (f_X5_failed G x0 (1 : Int32) (-3 : Int32)) fun r1 G2 =>
  some (r1, G2)
set_option maxHeartbeats 4000000 in
set_option maxRecDepth 100000 in
theorem b_X5_into_70 {p : Program} {l : Launch} {e : Env} {s : State} {m : MethodId} {args : Array Value} {below : List Frame} {meth : Method} {c : Code} {E : gE} {G0 : gG} {n0 : Nat} (X : g_X E G0 n0 p s m args meth c cX5_into 12 RX5 "into" (some .int)) {G : gG} {n : Nat} {r : Int32} {Gr : gG} {H : Heap} {locs : List Loc} (hI : g_I E (g_A G0 n0) G n s.heap H locs) {x0 : Nat} (h : f_X5_into_70 G x0 = some (r, Gr)) {ls : Array Slot} (hl : lv_has ls 12 [(0, .ref x0)]) : W p l e rm_X5_into s m args below meth c H locs 0 0 (MQ below (g_Q E G0 n0 (some (.int r)) Gr n) args s rm_X5_into.cells rm_X5_into.slots (g_A G0 n0)) (F0 m 70 ls []) := by
  have hx := X.1
  have hb := X.2.1
  unfold f_X5_into_70 at h
  refine lv_aload_n hx hb dX5_into_70 rfl (lv_at hl 0 rfl) ?_
  refine lv_iconst (v := 1) hx hb dX5_into_71 (by decide) ?_
  refine lv_bipush (v := (-3)) hx hb dX5_into_72 (by decide) ?_
  obtain ⟨cO, h⟩ := gck_s h
  obtain ⟨r1, G2, er1, h⟩ := gb2_s h
  refine g_callV X hI (q := (RX5, TX5, 9)) (b := x0) (av := [.int 1, .int (-3)]) cO rfl (c_X5_failed er1) gm_X5_failed tw_1_167 tw_1_169 tw_p_4 ⟨by decide, by decide⟩ hl.1 (rest := []) rfl (Nat.le_of_ble_eq_true rfl) dX5_into_74 ⟨by decide, by decide⟩ (st1 := [.int r1]) rfl (cells' := 0) (slots' := 0) rfl rfl (fun H locs hI => ?_)
  obtain ⟨h, h2⟩ := g_sp2 h
  subst h
  subst h2
  exact g_iret X hI dX5_into_77
def f_X5_into (G : gG) (th : Nat) (a1 : Int32) (a2 : Int32) (a3 : Int32) (a4 : Int32) : Option (Int32 × gG) :=
  gck (g_isO G th 4) <|
  gb (f_X5_known G th a2) fun o1 =>
  gck (g_isO G th 4) <|
  gb (f_X5_known G th a3) fun o2 =>
  gck (g_isO G th 4) <|
  gb (f_X5_known G th a4) fun o3 =>
  gnl o1 (
  some ((-1), G)) fun q4 =>
  gnl o2 (
  some ((-1), G)) fun q5 =>
  gnl o3 (
  some ((-1), G)) fun q6 =>
  if (f_X0_isAct a1) = 0 then
    some ((-1), G)
  else
  gb (g_fI G q4 3 3) fun v7 =>
  if v7 = 0 then
    gb (g_fI G q5 3 3) fun v8 =>
    if v8 = 0 then
      gb (g_fI G q6 3 3) fun v9 =>
      if v9 = 0 then
        gb (g_fI G q4 3 0) fun v10 =>
        gb (g_fI G q5 3 0) fun v11 =>
        gl ((f_X1_ofAct a1 v10 v11) : Int32) fun v12 =>
        if v12 = (-3) then
          gck (g_isO G th 4) <|
          gb2 (f_X5_failed G th (4 : Int32) (-3 : Int32)) fun r31 G32 =>
          some (r31, G32)
        else
        gck (g_isO G th 4) <|
        gb2 (f_X5_spreadOf G th q4 q5) fun r13 G14 =>
        if r13 = (-3) then
          gb (g_fA G14 th 4 2) fun g15 =>
          gb (g_fA G14 q6 3 1) fun g16 =>
          gck (g_isO G14 g15 2) <|
          gb (f_X3_isLike G14 g15 g16) fun r17 =>
          if r17 = 0 then
            gck (g_isO G14 th 4) <|
            gb2 (f_X5_failed G14 th (6 : Int32) (-3 : Int32)) fun r27 G28 =>
            some (r27, G28)
          else
          gl ((f_X1_ofResult a1 v12) : Int32) fun v18 =>
          gb (g_fI G14 q6 3 0) fun v19 =>
          if (f_X1_mayHold v19 v18) = 0 then
            gck (g_isO G14 th 4) <|
            gb2 (f_X5_failed G14 th (4 : Int32) (-3 : Int32)) fun r25 G26 =>
            some (r25, G26)
          else
          gck (g_isO G14 th 4) <|
          gb2 (f_X5_rowByAct G14 th a1 v12 q4 q5) fun r20 G21 =>
          if r20 = (-3) then
            gck (g_isO G21 th 4) <|
            gb (f_X5_moveRowInto G21 th q6 v18) fun G22 =>
            some (1, G22)
          else
          gck (g_isO G21 th 4) <|
          gb2 (f_X5_failed G21 th (5 : Int32) r20) fun r23 G24 =>
          some (r23, G24)
        else
        gck (g_isO G14 th 4) <|
        gb2 (f_X5_failed G14 th (6 : Int32) r13) fun r29 G30 =>
        some (r29, G30)
      else
      f_X5_into_70 G th
    else
    f_X5_into_70 G th
  else
  f_X5_into_70 G th
theorem gm_X5_into : g_M yX5_into cX5_into 12 (some .int) 4 := ⟨tw_2_202, tw_1_1, by decide +kernel, Or.inl (by decide +kernel)⟩
set_option maxHeartbeats 4000000 in
set_option maxRecDepth 100000 in
theorem c_X5_into {l : Launch} {E : gE} {G : gG} {n : Nat} {th : Nat} {a1 : Int32} {a2 : Int32} {a3 : Int32} {a4 : Int32} {r : Int32} {Gr : gG} (h : f_X5_into G th a1 a2 a3 a4 = some (r, Gr)) : g_Met l yX5_into cX5_into 12 (some .int) rm_X5_into E G n [.ref th, .int a1, .int a2, .int a3, .int a4] (some (.int r)) Gr n := by
  refine g_ofW gm_X5_into (Nat.le_of_ble_eq_true rfl) ?_
  intro p e s m below meth c ls X hl hI
  have hx := X.1
  have hb := X.2.1
  have X : g_X E G n p s m _ meth c cX5_into 12 RX5 "into" (some .int) := X
  have hl : lv_has ls 12 [(0, .ref th), (1, .int a1), (2, .int a2), (3, .int a3), (4, .int a4)] := hl
  unfold f_X5_into at h
  refine lv_aload_n hx hb dX5_into_0 rfl (lv_at hl 0 rfl) ?_
  refine lv_iload_n hx hb dX5_into_1 rfl (lv_at hl 2 rfl) ?_
  obtain ⟨cO, h⟩ := gck_s h
  obtain ⟨o1, eo1, h⟩ := gb_s h
  refine g_callV X hI (q := (RX5, TX5, 9)) (b := th) (av := [.int a2]) cO rfl (c_X5_known eo1) gm_X5_known tw_1_175 tw_1_177 tw_p_5 ⟨by decide, by decide⟩ hl.1 (rest := []) rfl (Nat.le_of_ble_eq_true rfl) dX5_into_2 ⟨by decide, by decide⟩ (st1 := [va_rf o1]) rfl (cells' := 0) (slots' := 0) rfl rfl (fun H locs hI => ?_)
  refine g_aso (lv' := [(5, va_rf o1), (0, .ref th), (1, .int a1), (2, .int a2), (3, .int a3), (4, .int a4)]) hx hb dX5_into_5 hl (by decide) (by first | rfl | simp [g_rfcat]) (fun ls hl => ?_)
  refine lv_aload_n hx hb dX5_into_7 rfl (lv_at hl 1 rfl) ?_
  refine lv_iload_n hx hb dX5_into_8 rfl (lv_at hl 4 rfl) ?_
  obtain ⟨cO, h⟩ := gck_s h
  obtain ⟨o2, eo2, h⟩ := gb_s h
  refine g_callV X hI (q := (RX5, TX5, 9)) (b := th) (av := [.int a3]) cO rfl (c_X5_known eo2) gm_X5_known tw_1_175 tw_1_177 tw_p_5 ⟨by decide, by decide⟩ hl.1 (rest := []) rfl (Nat.le_of_ble_eq_true rfl) dX5_into_9 ⟨by decide, by decide⟩ (st1 := [va_rf o2]) rfl (cells' := 0) (slots' := 0) rfl rfl (fun H locs hI => ?_)
  refine g_aso (lv' := [(6, va_rf o2), (5, va_rf o1), (0, .ref th), (1, .int a1), (2, .int a2), (3, .int a3), (4, .int a4)]) hx hb dX5_into_12 hl (by decide) (by first | rfl | simp [g_rfcat]) (fun ls hl => ?_)
  refine lv_aload_n hx hb dX5_into_14 rfl (lv_at hl 2 rfl) ?_
  refine lv_iload hx hb dX5_into_15 (lv_at hl 6 rfl) ?_
  obtain ⟨cO, h⟩ := gck_s h
  obtain ⟨o3, eo3, h⟩ := gb_s h
  refine g_callV X hI (q := (RX5, TX5, 9)) (b := th) (av := [.int a4]) cO rfl (c_X5_known eo3) gm_X5_known tw_1_175 tw_1_177 tw_p_5 ⟨by decide, by decide⟩ hl.1 (rest := []) rfl (Nat.le_of_ble_eq_true rfl) dX5_into_17 ⟨by decide, by decide⟩ (st1 := [va_rf o3]) rfl (cells' := 0) (slots' := 0) rfl rfl (fun H locs hI => ?_)
  refine g_aso (lv' := [(7, va_rf o3), (6, va_rf o2), (5, va_rf o1), (0, .ref th), (1, .int a1), (2, .int a2), (3, .int a3), (4, .int a4)]) hx hb dX5_into_20 hl (by decide) (by first | rfl | simp [g_rfcat]) (fun ls hl => ?_)
  refine g_alo hx hb dX5_into_22 (lv_at hl 2 rfl) ?_
  rcases o1 with _ | q4
  · have h := gnl_n h
    have hl : lv_has ls 12 [(7, va_rf o3), (6, va_rf o2), (5, .null), (0, .ref th), (1, .int a1), (2, .int a2), (3, .int a3), (4, .int a4)] := hl
    refine lv_ifnullN (tgt := 44) hx hb dX5_into_24 (by decide) ?_
    refine lv_iconst (v := (-1)) hx hb dX5_into_44 (by decide) ?_
    obtain ⟨h, h2⟩ := g_sp2 h
    subst h
    subst h2
    exact g_iret X hI dX5_into_45
  · have h := gnl_a h
    have hl : lv_has ls 12 [(7, va_rf o3), (6, va_rf o2), (5, .ref q4), (0, .ref th), (1, .int a1), (2, .int a2), (3, .int a3), (4, .int a4)] := hl
    refine lv_ifnull hx hb dX5_into_24 ?_
    refine g_alo hx hb dX5_into_27 (lv_at hl 1 rfl) ?_
    rcases o2 with _ | q5
    · have h := gnl_n h
      have hl : lv_has ls 12 [(7, va_rf o3), (6, .null), (5, .ref q4), (0, .ref th), (1, .int a1), (2, .int a2), (3, .int a3), (4, .int a4)] := hl
      refine lv_ifnullN (tgt := 44) hx hb dX5_into_29 (by decide) ?_
      refine lv_iconst (v := (-1)) hx hb dX5_into_44 (by decide) ?_
      obtain ⟨h, h2⟩ := g_sp2 h
      subst h
      subst h2
      exact g_iret X hI dX5_into_45
    · have h := gnl_a h
      have hl : lv_has ls 12 [(7, va_rf o3), (6, .ref q5), (5, .ref q4), (0, .ref th), (1, .int a1), (2, .int a2), (3, .int a3), (4, .int a4)] := hl
      refine lv_ifnull hx hb dX5_into_29 ?_
      refine g_alo hx hb dX5_into_32 (lv_at hl 0 rfl) ?_
      rcases o3 with _ | q6
      · have h := gnl_n h
        have hl : lv_has ls 12 [(7, .null), (6, .ref q5), (5, .ref q4), (0, .ref th), (1, .int a1), (2, .int a2), (3, .int a3), (4, .int a4)] := hl
        refine lv_ifnullN (tgt := 44) hx hb dX5_into_34 (by decide) ?_
        refine lv_iconst (v := (-1)) hx hb dX5_into_44 (by decide) ?_
        obtain ⟨h, h2⟩ := g_sp2 h
        subst h
        subst h2
        exact g_iret X hI dX5_into_45
      · have h := gnl_a h
        have hl : lv_has ls 12 [(7, .ref q6), (6, .ref q5), (5, .ref q4), (0, .ref th), (1, .int a1), (2, .int a2), (3, .int a3), (4, .int a4)] := hl
        refine lv_ifnull hx hb dX5_into_34 ?_
        refine lv_iload_n hx hb dX5_into_37 rfl (lv_at hl 4 rfl) ?_
        refine g_callS X hI (av := [.int a1]) (c_X0_isAct a1) gm_X0_isAct tw_1_235 tw_1_236 ⟨by decide, by decide⟩ hl.1 (rest := []) rfl (Nat.le_of_ble_eq_true rfl) dX5_into_38 ⟨by decide, by decide⟩ (st1 := [.int (f_X0_isAct a1)]) rfl (cells' := 0) (slots' := 0) rfl rfl (fun H locs hI => ?_)
        refine lv_if_ne (tgt := 46) hx hb dX5_into_41 (by decide) (fun c => ?_) (fun c => ?_)
        · have h := g_f _ c h
          refine lv_aload hx hb dX5_into_46 (lv_at hl 2 rfl) ?_
          obtain ⟨v7, ev7, h⟩ := gb_s h
          refine g_get X hI (g_fI_s ev7) (C := RX4) (T := TX4) (N := 4) rfl gu_X4 (by decide) tw_1_150 dX5_into_48 ?_
          refine lv_if_ne (tgt := 70) hx hb dX5_into_51 (by decide) (fun c => ?_) (fun c => ?_)
          · have h := g_f _ c h
            exact b_X5_into_70 X hI h (lv_sub hl [3] rfl)
          · have h := g_t _ c h
            refine lv_aload hx hb dX5_into_54 (lv_at hl 1 rfl) ?_
            obtain ⟨v8, ev8, h⟩ := gb_s h
            refine g_get X hI (g_fI_s ev8) (C := RX4) (T := TX4) (N := 4) rfl gu_X4 (by decide) tw_1_150 dX5_into_56 ?_
            refine lv_if_ne (tgt := 70) hx hb dX5_into_59 (by decide) (fun c => ?_) (fun c => ?_)
            · have h := g_f _ c h
              exact b_X5_into_70 X hI h (lv_sub hl [3] rfl)
            · have h := g_t _ c h
              refine lv_aload hx hb dX5_into_62 (lv_at hl 0 rfl) ?_
              obtain ⟨v9, ev9, h⟩ := gb_s h
              refine g_get X hI (g_fI_s ev9) (C := RX4) (T := TX4) (N := 4) rfl gu_X4 (by decide) tw_1_150 dX5_into_64 ?_
              refine lv_if_eq (tgt := 78) hx hb dX5_into_67 (by decide) (fun c => ?_) (fun c => ?_)
              · have h := g_t _ c h
                refine lv_iload_n hx hb dX5_into_78 rfl (lv_at hl 4 rfl) ?_
                refine lv_aload hx hb dX5_into_79 (lv_at hl 2 rfl) ?_
                obtain ⟨v10, ev10, h⟩ := gb_s h
                refine g_get X hI (g_fI_s ev10) (C := RX4) (T := TX4) (N := 4) rfl gu_X4 (by decide) tw_1_144 dX5_into_81 ?_
                refine lv_aload hx hb dX5_into_84 (lv_at hl 1 rfl) ?_
                obtain ⟨v11, ev11, h⟩ := gb_s h
                refine g_get X hI (g_fI_s ev11) (C := RX4) (T := TX4) (N := 4) rfl gu_X4 (by decide) tw_1_144 dX5_into_86 ?_
                refine g_callS X hI (av := [.int a1, .int v10, .int v11]) (c_X1_ofAct a1 v10 v11) gm_X1_ofAct tw_1_238 tw_1_239 ⟨by decide, by decide⟩ hl.1 (rest := []) rfl (Nat.le_of_ble_eq_true rfl) dX5_into_89 ⟨by decide, by decide⟩ (st1 := [.int (f_X1_ofAct a1 v10 v11)]) rfl (cells' := 0) (slots' := 0) rfl rfl (fun H locs hI => ?_)
                obtain ⟨v12, ev12, h⟩ := gl_s h
                refine g_topi ev12 ?_
                refine lv_istore (lv' := [(8, .int v12), (7, .ref q6), (6, .ref q5), (5, .ref q4), (0, .ref th), (1, .int a1), (2, .int a2), (3, .int a3), (4, .int a4)]) hx hb dX5_into_92 hl (by decide) rfl (fun ls hl => ?_)
                refine lv_iload hx hb dX5_into_94 (lv_at hl 0 rfl) ?_
                refine lv_bipush (v := (-3)) hx hb dX5_into_96 (by decide) ?_
                refine lv_icmp_ne (tgt := 109) hx hb dX5_into_98 (by decide) (fun c => ?_) (fun c => ?_)
                · have h := g_f _ c h
                  refine lv_aload_n hx hb dX5_into_109 rfl (lv_at hl 4 rfl) ?_
                  refine lv_aload hx hb dX5_into_110 (lv_at hl 3 rfl) ?_
                  refine lv_aload hx hb dX5_into_112 (lv_at hl 2 rfl) ?_
                  obtain ⟨cO, h⟩ := gck_s h
                  obtain ⟨r13, G14, er13, h⟩ := gb2_s h
                  refine g_callV X hI (q := (RX5, TX5, 9)) (b := th) (av := [.ref q4, .ref q5]) cO rfl (c_X5_spreadOf er13) gm_X5_spreadOf tw_2_16 tw_2_18 tw_p_6 ⟨by decide, by decide⟩ hl.1 (rest := []) rfl (Nat.le_of_ble_eq_true rfl) dX5_into_114 ⟨by decide, by decide⟩ (st1 := [.int r13]) rfl (cells' := 0) (slots' := 0) rfl rfl (fun H locs hI => ?_)
                  refine lv_istore (lv' := [(9, .int r13), (8, .int v12), (7, .ref q6), (6, .ref q5), (5, .ref q4), (0, .ref th), (1, .int a1), (2, .int a2), (3, .int a3), (4, .int a4)]) hx hb dX5_into_117 hl (by decide) rfl (fun ls hl => ?_)
                  refine lv_iload hx hb dX5_into_119 (lv_at hl 0 rfl) ?_
                  refine lv_bipush (v := (-3)) hx hb dX5_into_121 (by decide) ?_
                  refine lv_icmp_eq (tgt := 135) hx hb dX5_into_123 (by decide) (fun c => ?_) (fun c => ?_)
                  · have h := g_t _ c h
                    refine lv_aload_n hx hb dX5_into_135 rfl (lv_at hl 5 rfl) ?_
                    obtain ⟨g15, eg15, h⟩ := gb_s h
                    refine g_get X hI (g_fA_s eg15) (C := RX5) (T := TX5) (N := 9) rfl gu_X5 (by decide) tw_1_74 dX5_into_136 ?_
                    refine lv_aload hx hb dX5_into_139 (lv_at hl 2 rfl) ?_
                    obtain ⟨g16, eg16, h⟩ := gb_s h
                    refine g_get X hI (g_fA_s eg16) (C := RX4) (T := TX4) (N := 4) rfl gu_X4 (by decide) tw_1_146 dX5_into_141 ?_
                    obtain ⟨cO, h⟩ := gck_s h
                    obtain ⟨r17, er17, h⟩ := gb_s h
                    refine g_callV X hI (q := (RX3, TX3, 2)) (b := g15) (av := [.ref g16]) cO rfl (c_X3_isLike er17) gm_X3_isLike tw_2_203 tw_2_204 tw_2_205 ⟨by decide, by decide⟩ hl.1 (rest := []) rfl (Nat.le_of_ble_eq_true rfl) dX5_into_144 ⟨by decide, by decide⟩ (st1 := [.int r17]) rfl (cells' := 0) (slots' := 0) rfl rfl (fun H locs hI => ?_)
                    refine lv_if_ne (tgt := 159) hx hb dX5_into_147 (by decide) (fun c => ?_) (fun c => ?_)
                    · have h := g_f _ c h
                      refine lv_iload_n hx hb dX5_into_159 rfl (lv_at hl 6 rfl) ?_
                      refine lv_iload hx hb dX5_into_160 (lv_at hl 1 rfl) ?_
                      refine g_callS X hI (av := [.int a1, .int v12]) (c_X1_ofResult a1 v12) gm_X1_ofResult tw_2_196 tw_2_197 ⟨by decide, by decide⟩ hl.1 (rest := []) rfl (Nat.le_of_ble_eq_true rfl) dX5_into_162 ⟨by decide, by decide⟩ (st1 := [.int (f_X1_ofResult a1 v12)]) rfl (cells' := 0) (slots' := 0) rfl rfl (fun H locs hI => ?_)
                      obtain ⟨v18, ev18, h⟩ := gl_s h
                      refine g_topi ev18 ?_
                      refine lv_istore (lv' := [(10, .int v18), (9, .int r13), (8, .int v12), (7, .ref q6), (6, .ref q5), (5, .ref q4), (0, .ref th), (1, .int a1), (2, .int a2), (3, .int a3), (4, .int a4)]) hx hb dX5_into_165 hl (by decide) rfl (fun ls hl => ?_)
                      refine lv_aload hx hb dX5_into_167 (lv_at hl 3 rfl) ?_
                      obtain ⟨v19, ev19, h⟩ := gb_s h
                      refine g_get X hI (g_fI_s ev19) (C := RX4) (T := TX4) (N := 4) rfl gu_X4 (by decide) tw_1_144 dX5_into_169 ?_
                      refine lv_iload hx hb dX5_into_172 (lv_at hl 0 rfl) ?_
                      refine g_callS X hI (av := [.int v19, .int v18]) (c_X1_mayHold v19 v18) gm_X1_mayHold tw_2_207 tw_2_208 ⟨by decide, by decide⟩ hl.1 (rest := []) rfl (Nat.le_of_ble_eq_true rfl) dX5_into_174 ⟨by decide, by decide⟩ (st1 := [.int (f_X1_mayHold v19 v18)]) rfl (cells' := 0) (slots' := 0) rfl rfl (fun H locs hI => ?_)
                      refine lv_if_ne (tgt := 188) hx hb dX5_into_177 (by decide) (fun c => ?_) (fun c => ?_)
                      · have h := g_f _ c h
                        refine lv_aload_n hx hb dX5_into_188 rfl (lv_at hl 6 rfl) ?_
                        refine lv_iload_n hx hb dX5_into_189 rfl (lv_at hl 7 rfl) ?_
                        refine lv_iload hx hb dX5_into_190 (lv_at hl 2 rfl) ?_
                        refine lv_aload hx hb dX5_into_192 (lv_at hl 5 rfl) ?_
                        refine lv_aload hx hb dX5_into_194 (lv_at hl 4 rfl) ?_
                        obtain ⟨cO, h⟩ := gck_s h
                        obtain ⟨r20, G21, er20, h⟩ := gb2_s h
                        refine g_callV X hI (q := (RX5, TX5, 9)) (b := th) (av := [.int a1, .int v12, .ref q4, .ref q5]) cO rfl (c_X5_rowByAct er20) gm_X5_rowByAct tw_2_26 tw_2_28 tw_p_7 ⟨by decide, by decide⟩ hl.1 (rest := []) rfl (Nat.le_of_ble_eq_true rfl) dX5_into_196 ⟨by decide, by decide⟩ (st1 := [.int r20]) rfl (cells' := 0) (slots' := 0) rfl rfl (fun H locs hI => ?_)
                        refine lv_istore (lv' := [(11, .int r20), (10, .int v18), (9, .int r13), (8, .int v12), (7, .ref q6), (6, .ref q5), (5, .ref q4), (0, .ref th), (1, .int a1), (2, .int a2), (3, .int a3), (4, .int a4)]) hx hb dX5_into_199 hl (by decide) rfl (fun ls hl => ?_)
                        refine lv_iload hx hb dX5_into_201 (lv_at hl 0 rfl) ?_
                        refine lv_bipush (v := (-3)) hx hb dX5_into_203 (by decide) ?_
                        refine lv_icmp_eq (tgt := 216) hx hb dX5_into_205 (by decide) (fun c => ?_) (fun c => ?_)
                        · have h := g_t _ c h
                          refine lv_aload_n hx hb dX5_into_216 rfl (lv_at hl 7 rfl) ?_
                          refine lv_aload hx hb dX5_into_217 (lv_at hl 4 rfl) ?_
                          refine lv_iload hx hb dX5_into_219 (lv_at hl 1 rfl) ?_
                          obtain ⟨cO, h⟩ := gck_s h
                          obtain ⟨G22, eG22, h⟩ := gb_s h
                          refine g_callV X hI (q := (RX5, TX5, 9)) (b := th) (av := [.ref q6, .int v18]) cO rfl (c_X5_moveRowInto eG22) gm_X5_moveRowInto tw_2_210 tw_2_212 tw_p_16 ⟨by decide, by decide⟩ hl.1 (rest := []) rfl (Nat.le_of_ble_eq_true rfl) dX5_into_221 ⟨by decide, by decide⟩ (st1 := []) rfl (cells' := 0) (slots' := 0) rfl rfl (fun H locs hI => ?_)
                          refine lv_iconst (v := 1) hx hb dX5_into_224 (by decide) ?_
                          obtain ⟨h, h2⟩ := g_sp2 h
                          subst h
                          subst h2
                          exact g_iret X hI dX5_into_225
                        · have h := g_f _ c h
                          refine lv_aload_n hx hb dX5_into_208 rfl (lv_at hl 7 rfl) ?_
                          refine lv_iconst (v := 5) hx hb dX5_into_209 (by decide) ?_
                          refine lv_iload hx hb dX5_into_210 (lv_at hl 0 rfl) ?_
                          obtain ⟨cO, h⟩ := gck_s h
                          obtain ⟨r23, G24, er23, h⟩ := gb2_s h
                          refine g_callV X hI (q := (RX5, TX5, 9)) (b := th) (av := [.int 5, .int r20]) cO rfl (c_X5_failed er23) gm_X5_failed tw_1_167 tw_1_169 tw_p_4 ⟨by decide, by decide⟩ hl.1 (rest := []) rfl (Nat.le_of_ble_eq_true rfl) dX5_into_212 ⟨by decide, by decide⟩ (st1 := [.int r23]) rfl (cells' := 0) (slots' := 0) rfl rfl (fun H locs hI => ?_)
                          obtain ⟨h, h2⟩ := g_sp2 h
                          subst h
                          subst h2
                          exact g_iret X hI dX5_into_215
                      · have h := g_t _ c h
                        refine lv_aload_n hx hb dX5_into_180 rfl (lv_at hl 6 rfl) ?_
                        refine lv_iconst (v := 4) hx hb dX5_into_181 (by decide) ?_
                        refine lv_bipush (v := (-3)) hx hb dX5_into_182 (by decide) ?_
                        obtain ⟨cO, h⟩ := gck_s h
                        obtain ⟨r25, G26, er25, h⟩ := gb2_s h
                        refine g_callV X hI (q := (RX5, TX5, 9)) (b := th) (av := [.int 4, .int (-3)]) cO rfl (c_X5_failed er25) gm_X5_failed tw_1_167 tw_1_169 tw_p_4 ⟨by decide, by decide⟩ hl.1 (rest := []) rfl (Nat.le_of_ble_eq_true rfl) dX5_into_184 ⟨by decide, by decide⟩ (st1 := [.int r25]) rfl (cells' := 0) (slots' := 0) rfl rfl (fun H locs hI => ?_)
                        obtain ⟨h, h2⟩ := g_sp2 h
                        subst h
                        subst h2
                        exact g_iret X hI dX5_into_187
                    · have h := g_t _ c h
                      refine lv_aload_n hx hb dX5_into_150 rfl (lv_at hl 5 rfl) ?_
                      refine lv_bipush (v := 6) hx hb dX5_into_151 (by decide) ?_
                      refine lv_bipush (v := (-3)) hx hb dX5_into_153 (by decide) ?_
                      obtain ⟨cO, h⟩ := gck_s h
                      obtain ⟨r27, G28, er27, h⟩ := gb2_s h
                      refine g_callV X hI (q := (RX5, TX5, 9)) (b := th) (av := [.int 6, .int (-3)]) cO rfl (c_X5_failed er27) gm_X5_failed tw_1_167 tw_1_169 tw_p_4 ⟨by decide, by decide⟩ hl.1 (rest := []) rfl (Nat.le_of_ble_eq_true rfl) dX5_into_155 ⟨by decide, by decide⟩ (st1 := [.int r27]) rfl (cells' := 0) (slots' := 0) rfl rfl (fun H locs hI => ?_)
                      obtain ⟨h, h2⟩ := g_sp2 h
                      subst h
                      subst h2
                      exact g_iret X hI dX5_into_158
                  · have h := g_f _ c h
                    refine lv_aload_n hx hb dX5_into_126 rfl (lv_at hl 5 rfl) ?_
                    refine lv_bipush (v := 6) hx hb dX5_into_127 (by decide) ?_
                    refine lv_iload hx hb dX5_into_129 (lv_at hl 0 rfl) ?_
                    obtain ⟨cO, h⟩ := gck_s h
                    obtain ⟨r29, G30, er29, h⟩ := gb2_s h
                    refine g_callV X hI (q := (RX5, TX5, 9)) (b := th) (av := [.int 6, .int r13]) cO rfl (c_X5_failed er29) gm_X5_failed tw_1_167 tw_1_169 tw_p_4 ⟨by decide, by decide⟩ hl.1 (rest := []) rfl (Nat.le_of_ble_eq_true rfl) dX5_into_131 ⟨by decide, by decide⟩ (st1 := [.int r29]) rfl (cells' := 0) (slots' := 0) rfl rfl (fun H locs hI => ?_)
                    obtain ⟨h, h2⟩ := g_sp2 h
                    subst h
                    subst h2
                    exact g_iret X hI dX5_into_134
                · have h := g_t _ c h
                  refine lv_aload_n hx hb dX5_into_101 rfl (lv_at hl 4 rfl) ?_
                  refine lv_iconst (v := 4) hx hb dX5_into_102 (by decide) ?_
                  refine lv_bipush (v := (-3)) hx hb dX5_into_103 (by decide) ?_
                  obtain ⟨cO, h⟩ := gck_s h
                  obtain ⟨r31, G32, er31, h⟩ := gb2_s h
                  refine g_callV X hI (q := (RX5, TX5, 9)) (b := th) (av := [.int 4, .int (-3)]) cO rfl (c_X5_failed er31) gm_X5_failed tw_1_167 tw_1_169 tw_p_4 ⟨by decide, by decide⟩ hl.1 (rest := []) rfl (Nat.le_of_ble_eq_true rfl) dX5_into_105 ⟨by decide, by decide⟩ (st1 := [.int r31]) rfl (cells' := 0) (slots' := 0) rfl rfl (fun H locs hI => ?_)
                  obtain ⟨h, h2⟩ := g_sp2 h
                  subst h
                  subst h2
                  exact g_iret X hI dX5_into_108
              · have h := g_f _ c h
                exact b_X5_into_70 X hI h (lv_sub hl [3] rfl)
        · have h := g_t _ c h
          refine lv_iconst (v := (-1)) hx hb dX5_into_44 (by decide) ?_
          obtain ⟨h, h2⟩ := g_sp2 h
          subst h
          subst h2
          exact g_iret X hI dX5_into_45
abbrev rm_X5_one : Room := { frames := 5, cells := 4, slots := 249, locals := 126 }
def f_X5_one_158 (G : gG) (n : Nat) (s0 : Int32) (s1 : Nat) : Option (Int32 × gG × Nat) :=
  gck (g_isO G s1 4) <|
  gb3 (f_X5_madeOfRow G n s1 s0) fun r1 G2 n3 =>
  some (r1, G2, n3)
set_option maxHeartbeats 4000000 in
set_option maxRecDepth 100000 in
theorem b_X5_one_158 {p : Program} {l : Launch} {e : Env} {s : State} {m : MethodId} {args : Array Value} {below : List Frame} {meth : Method} {c : Code} {E : gE} {G0 : gG} {n0 : Nat} (X : g_X E G0 n0 p s m args meth c cX5_one 6 RX5 "one" (some .int)) {G : gG} {n : Nat} {r : Int32} {Gr : gG} {nr : Nat} {H : Heap} {locs : List Loc} (hI : g_I E (g_A G0 n0) G n s.heap H locs) {s0 : Int32} {s1 : Nat} (h : f_X5_one_158 G n s0 s1 = some (r, Gr, nr)) {ls : Array Slot} (hl : lv_has ls 6 []) : W p l e rm_X5_one s m args below meth c H locs 0 0 (MQ below (g_Q E G0 n0 (some (.int r)) Gr nr) args s rm_X5_one.cells rm_X5_one.slots (g_A G0 n0)) (F0 m 158 ls [.int s0, .ref s1]) := by
  have hx := X.1
  have hb := X.2.1
  unfold f_X5_one_158 at h
  obtain ⟨cO, h⟩ := gck_s h
  obtain ⟨r1, G2, n3, er1, h⟩ := gb3_s h
  refine g_callV X hI (q := (RX5, TX5, 9)) (b := s1) (av := [.int s0]) cO rfl (c_X5_madeOfRow er1) gm_X5_madeOfRow tw_1_124 tw_1_126 tw_p_3 ⟨by decide, by decide⟩ hl.1 (rest := []) rfl (Nat.le_of_ble_eq_true rfl) dX5_one_158 ⟨by decide, by decide⟩ (st1 := [.int r1]) rfl (cells' := 4) (slots' := 249) rfl rfl (fun H locs hI => ?_)
  obtain ⟨h, h2, h3⟩ := g_sp3 h
  subst h
  subst h2
  subst h3
  exact g_iret X hI dX5_one_161
def f_X5_one_145 (G : gG) (n : Nat) (x0 : Nat) (x1 : Int32) (x4 : Int32) : Option (Int32 × gG × Nat) :=
  if x1 = 8 then
    f_X5_one_158 G n 0 x0
  else
  f_X5_one_158 G n x4 x0
set_option maxHeartbeats 4000000 in
set_option maxRecDepth 100000 in
theorem b_X5_one_145 {p : Program} {l : Launch} {e : Env} {s : State} {m : MethodId} {args : Array Value} {below : List Frame} {meth : Method} {c : Code} {E : gE} {G0 : gG} {n0 : Nat} (X : g_X E G0 n0 p s m args meth c cX5_one 6 RX5 "one" (some .int)) {G : gG} {n : Nat} {r : Int32} {Gr : gG} {nr : Nat} {H : Heap} {locs : List Loc} (hI : g_I E (g_A G0 n0) G n s.heap H locs) {x0 : Nat} {x1 : Int32} {x4 : Int32} (h : f_X5_one_145 G n x0 x1 x4 = some (r, Gr, nr)) {ls : Array Slot} (hl : lv_has ls 6 [(0, .ref x0), (1, .int x1), (4, .int x4)]) : W p l e rm_X5_one s m args below meth c H locs 0 0 (MQ below (g_Q E G0 n0 (some (.int r)) Gr nr) args s rm_X5_one.cells rm_X5_one.slots (g_A G0 n0)) (F0 m 145 ls []) := by
  have hx := X.1
  have hb := X.2.1
  unfold f_X5_one_145 at h
  refine lv_aload_n hx hb dX5_one_145 rfl (lv_at hl 0 rfl) ?_
  refine lv_iload_n hx hb dX5_one_146 rfl (lv_at hl 1 rfl) ?_
  refine lv_bipush (v := 8) hx hb dX5_one_147 (by decide) ?_
  refine lv_icmp_ne (tgt := 156) hx hb dX5_one_149 (by decide) (fun c => ?_) (fun c => ?_)
  · have h := g_f _ c h
    refine lv_iload hx hb dX5_one_156 (lv_at hl 2 rfl) ?_
    exact b_X5_one_158 X hI h (lv_sub hl [] rfl)
  · have h := g_t _ c h
    refine lv_iconst (v := 0) hx hb dX5_one_152 (by decide) ?_
    refine lv_goto (tgt := 158) hx hb dX5_one_153 (by decide) ?_
    exact b_X5_one_158 X hI h (lv_sub hl [] rfl)
def f_X5_one_83 : Nat → gG → Nat → Nat → Int32 → Nat → Int32 → Int32 → Option (Int32 × gG × Nat)
  | 0, _, _, _, _, _, _, _ => none
  | fu + 1, G, n, x0, x1, x3, x4, x5 =>
    gb (g_fA G x3 3 2) fun g1 =>
    gb (g_len G g1) fun v2 =>
    if v2 ≤ x5 then
      f_X5_one_145 G n x0 x1 x4
    else
    gb (g_fA G x0 4 3) fun g3 =>
    gb (g_len G g3) fun v4 =>
    if v4 ≤ x5 then
      f_X5_one_145 G n x0 x1 x4
    else
    gb (g_fA G x0 4 3) fun g5 =>
    gb (g_fA G x0 4 1) fun g6 =>
    gb (g_fA G x0 4 1) fun g7 =>
    gck (g_isO G x3 3) <|
    gb (f_X4_read G x3 x5) fun r8 =>
    gb (g_fI G x3 3 0) fun v9 =>
    gck (g_isO G g7 0) <|
    gb2 (f_X0_moved G g7 r8 v9 x4) fun r10 G11 =>
    gck (g_isO G11 g6 0) <|
    gb2 (f_X0_ofOne G11 g6 x1 x4 r10) fun r12 G13 =>
    gb (g_ls G13 g5 x5 r12) fun G14 =>
    gl (x5 + 1 : Int32) fun v15 =>
    f_X5_one_83 fu G14 n x0 x1 x3 x4 v15
set_option maxHeartbeats 4000000 in
set_option maxRecDepth 100000 in
theorem b_X5_one_83 {p : Program} {l : Launch} {e : Env} {s : State} {m : MethodId} {args : Array Value} {below : List Frame} {meth : Method} {c : Code} {E : gE} {G0 : gG} {n0 : Nat} (X : g_X E G0 n0 p s m args meth c cX5_one 6 RX5 "one" (some .int)) {r : Int32} {Gr : gG} {nr : Nat} (fu : Nat) : ∀ {G : gG} {n : Nat} {H : Heap} {locs : List Loc} (_ : g_I E (g_A G0 n0) G n s.heap H locs) {x0 : Nat} {x1 : Int32} {x3 : Nat} {x4 : Int32} {x5 : Int32} (_ : f_X5_one_83 fu G n x0 x1 x3 x4 x5 = some (r, Gr, nr)) {ls : Array Slot} (_ : lv_has ls 6 [(0, .ref x0), (1, .int x1), (3, .ref x3), (4, .int x4), (5, .int x5)]), W p l e rm_X5_one s m args below meth c H locs 0 0 (MQ below (g_Q E G0 n0 (some (.int r)) Gr nr) args s rm_X5_one.cells rm_X5_one.slots (g_A G0 n0)) (F0 m 83 ls []) := by
  have hx := X.1
  have hb := X.2.1
  induction fu with
  | zero =>
    intro G n H locs hI x0 x1 x3 x4 x5 h ls hl
    rw [f_X5_one_83] at h
    cases h
  | succ fu ih =>
    intro G n H locs hI x0 x1 x3 x4 x5 h ls hl
    rw [f_X5_one_83] at h
    refine lv_iload hx hb dX5_one_83 (lv_at hl 4 rfl) ?_
    refine lv_aload_n hx hb dX5_one_85 rfl (lv_at hl 2 rfl) ?_
    obtain ⟨g1, eg1, h⟩ := gb_s h
    refine g_get X hI (g_fA_s eg1) (C := RX4) (T := TX4) (N := 4) rfl gu_X4 (by decide) tw_1_148 dX5_one_86 ?_
    obtain ⟨v2, ev2, h⟩ := gb_s h
    refine g_alen X hI ev2 dX5_one_89 ?_
    refine lv_icmp_ge (tgt := 145) hx hb dX5_one_90 (by decide) (fun c => ?_) (fun c => ?_)
    · have h := g_t _ c h
      exact b_X5_one_145 X hI h (lv_sub hl [0, 1, 3] rfl)
    · have h := g_f _ c h
      refine lv_iload hx hb dX5_one_93 (lv_at hl 4 rfl) ?_
      refine lv_aload_n hx hb dX5_one_95 rfl (lv_at hl 0 rfl) ?_
      obtain ⟨g3, eg3, h⟩ := gb_s h
      refine g_get X hI (g_fA_s eg3) (C := RX5) (T := TX5) (N := 9) rfl gu_X5 (by decide) tw_1_75 dX5_one_96 ?_
      obtain ⟨v4, ev4, h⟩ := gb_s h
      refine g_alen X hI ev4 dX5_one_99 ?_
      refine lv_icmp_ge (tgt := 145) hx hb dX5_one_100 (by decide) (fun c => ?_) (fun c => ?_)
      · have h := g_t _ c h
        exact b_X5_one_145 X hI h (lv_sub hl [0, 1, 3] rfl)
      · have h := g_f _ c h
        refine lv_aload_n hx hb dX5_one_103 rfl (lv_at hl 0 rfl) ?_
        obtain ⟨g5, eg5, h⟩ := gb_s h
        refine g_get X hI (g_fA_s eg5) (C := RX5) (T := TX5) (N := 9) rfl gu_X5 (by decide) tw_1_75 dX5_one_104 ?_
        refine lv_iload hx hb dX5_one_107 (lv_at hl 4 rfl) ?_
        refine lv_aload_n hx hb dX5_one_109 rfl (lv_at hl 0 rfl) ?_
        obtain ⟨g6, eg6, h⟩ := gb_s h
        refine g_get X hI (g_fA_s eg6) (C := RX5) (T := TX5) (N := 9) rfl gu_X5 (by decide) tw_1_73 dX5_one_110 ?_
        refine lv_iload_n hx hb dX5_one_113 rfl (lv_at hl 1 rfl) ?_
        refine lv_iload hx hb dX5_one_114 (lv_at hl 3 rfl) ?_
        refine lv_aload_n hx hb dX5_one_116 rfl (lv_at hl 0 rfl) ?_
        obtain ⟨g7, eg7, h⟩ := gb_s h
        refine g_get X hI (g_fA_s eg7) (C := RX5) (T := TX5) (N := 9) rfl gu_X5 (by decide) tw_1_73 dX5_one_117 ?_
        refine lv_aload_n hx hb dX5_one_120 rfl (lv_at hl 2 rfl) ?_
        refine lv_iload hx hb dX5_one_121 (lv_at hl 4 rfl) ?_
        obtain ⟨cO, h⟩ := gck_s h
        obtain ⟨r8, er8, h⟩ := gb_s h
        refine g_callV X hI (q := (RX4, TX4, 4)) (b := x3) (av := [.int x5]) cO rfl (c_X4_read er8) gm_X4_read tw_1_210 tw_1_211 tw_1_212 ⟨by decide, by decide⟩ hl.1 (rest := [.ref g7, .int x4, .int x1, .ref g6, .int x5, .ref g5]) rfl (Nat.le_of_ble_eq_true rfl) dX5_one_123 ⟨by decide, by decide⟩ (st1 := [.long r8, .ref g7, .int x4, .int x1, .ref g6, .int x5, .ref g5]) rfl (cells' := 0) (slots' := 0) rfl rfl (fun H locs hI => ?_)
        refine lv_aload_n hx hb dX5_one_126 rfl (lv_at hl 2 rfl) ?_
        obtain ⟨v9, ev9, h⟩ := gb_s h
        refine g_get X hI (g_fI_s ev9) (C := RX4) (T := TX4) (N := 4) rfl gu_X4 (by decide) tw_1_144 dX5_one_127 ?_
        refine lv_iload hx hb dX5_one_130 (lv_at hl 3 rfl) ?_
        obtain ⟨cO, h⟩ := gck_s h
        obtain ⟨r10, G11, er10, h⟩ := gb2_s h
        refine g_callV X hI (q := (RX0, TX0, 3)) (b := g7) (av := [.long r8, .int v9, .int x4]) cO rfl (c_X0_moved er10) gm_X0_moved tw_2_39 tw_2_40 tw_2_41 ⟨by decide, by decide⟩ hl.1 (rest := [.int x4, .int x1, .ref g6, .int x5, .ref g5]) rfl (Nat.le_of_ble_eq_true rfl) dX5_one_132 ⟨by decide, by decide⟩ (st1 := [.long r10, .int x4, .int x1, .ref g6, .int x5, .ref g5]) rfl (cells' := 0) (slots' := 0) rfl rfl (fun H locs hI => ?_)
        obtain ⟨cO, h⟩ := gck_s h
        obtain ⟨r12, G13, er12, h⟩ := gb2_s h
        refine g_callV X hI (q := (RX0, TX0, 3)) (b := g6) (av := [.int x1, .int x4, .long r10]) cO rfl (c_X0_ofOne er12) gm_X0_ofOne tw_2_224 tw_2_225 tw_2_226 ⟨by decide, by decide⟩ hl.1 (rest := [.int x5, .ref g5]) rfl (Nat.le_of_ble_eq_true rfl) dX5_one_135 ⟨by decide, by decide⟩ (st1 := [.long r12, .int x5, .ref g5]) rfl (cells' := 0) (slots' := 0) rfl rfl (fun H locs hI => ?_)
        obtain ⟨G14, eG14, h⟩ := gb_s h
        refine g_last X hI (G' := G14) eG14 dX5_one_138 (fun H locs hI => ?_)
        obtain ⟨v15, ev15, h⟩ := gl_s h
        refine lv_iinc (v := v15) (lv' := [(5, .int v15), (0, .ref x0), (1, .int x1), (3, .ref x3), (4, .int x4)]) hx hb dX5_one_139 hl (k := 4) rfl (by rw [← ev15]; rfl) (by decide) rfl (fun ls hl => ?_)
        refine lv_goto (tgt := 83) hx hb dX5_one_142 (by decide) ?_
        exact ih hI h (lv_sub hl [1, 2, 3, 4, 0] rfl)
def f_X5_one (G : gG) (n : Nat) (th : Nat) (a1 : Int32) (a2 : Int32) : Option (Int32 × gG × Nat) :=
  gck (g_isO G th 4) <|
  gb (f_X5_known G th a2) fun o1 =>
  gnl o1 (
  some ((-1), G, n)) fun q2 =>
  if (f_X0_isOfOne a1) = 0 then
    some ((-1), G, n)
  else
  gck (g_isO G th 4) <|
  gb (f_X5_isFull G th) fun r3 =>
  if r3 = 0 then
    gb (g_fI G q2 3 3) fun v4 =>
    if v4 = 0 then
      gb (g_fI G q2 3 0) fun v5 =>
      gl ((f_X1_ofOne a1 v5) : Int32) fun v6 =>
      if v6 = (-3) then
        gck (g_isO G th 4) <|
        gb2 (f_X5_failed G th (4 : Int32) (-3 : Int32)) fun r10 G11 =>
        some (r10, G11, n)
      else
      gb (g_fA G th 4 2) fun g7 =>
      gb (g_fA G q2 3 1) fun g8 =>
      gck (g_isO G g7 2) <|
      gb (f_X3_setAs G g7 g8) fun G9 =>
      f_X5_one_83 5000 G9 n th a1 q2 v6 0
    else
    gck (g_isO G th 4) <|
    gb2 (f_X5_failed G th (1 : Int32) (-3 : Int32)) fun r12 G13 =>
    some (r12, G13, n)
  else
  some ((-2), G, n)
theorem gm_X5_one : g_M yX5_one cX5_one 6 (some .int) 2 := ⟨tw_2_217, tw_1_1, by decide +kernel, Or.inl (by decide +kernel)⟩
set_option maxHeartbeats 4000000 in
set_option maxRecDepth 100000 in
theorem c_X5_one {l : Launch} {E : gE} {G : gG} {n : Nat} {th : Nat} {a1 : Int32} {a2 : Int32} {r : Int32} {Gr : gG} {nr : Nat} (h : f_X5_one G n th a1 a2 = some (r, Gr, nr)) : g_Met l yX5_one cX5_one 6 (some .int) rm_X5_one E G n [.ref th, .int a1, .int a2] (some (.int r)) Gr nr := by
  refine g_ofW gm_X5_one (Nat.le_of_ble_eq_true rfl) ?_
  intro p e s m below meth c ls X hl hI
  have hx := X.1
  have hb := X.2.1
  have X : g_X E G n p s m _ meth c cX5_one 6 RX5 "one" (some .int) := X
  have hl : lv_has ls 6 [(0, .ref th), (1, .int a1), (2, .int a2)] := hl
  unfold f_X5_one at h
  refine lv_aload_n hx hb dX5_one_0 rfl (lv_at hl 0 rfl) ?_
  refine lv_iload_n hx hb dX5_one_1 rfl (lv_at hl 2 rfl) ?_
  obtain ⟨cO, h⟩ := gck_s h
  obtain ⟨o1, eo1, h⟩ := gb_s h
  refine g_callV X hI (q := (RX5, TX5, 9)) (b := th) (av := [.int a2]) cO rfl (c_X5_known eo1) gm_X5_known tw_1_175 tw_1_177 tw_p_5 ⟨by decide, by decide⟩ hl.1 (rest := []) rfl (Nat.le_of_ble_eq_true rfl) dX5_one_2 ⟨by decide, by decide⟩ (st1 := [va_rf o1]) rfl (cells' := 0) (slots' := 0) rfl rfl (fun H locs hI => ?_)
  refine g_aso_n (lv' := [(3, va_rf o1), (0, .ref th), (1, .int a1), (2, .int a2)]) hx hb dX5_one_5 rfl hl (by decide) (by first | rfl | simp [g_rfcat]) (fun ls hl => ?_)
  refine g_alo_n hx hb dX5_one_6 rfl (lv_at hl 0 rfl) ?_
  rcases o1 with _ | q2
  · have h := gnl_n h
    have hl : lv_has ls 6 [(3, .null), (0, .ref th), (1, .int a1), (2, .int a2)] := hl
    refine lv_ifnullN (tgt := 17) hx hb dX5_one_7 (by decide) ?_
    refine lv_iconst (v := (-1)) hx hb dX5_one_17 (by decide) ?_
    obtain ⟨h, h2, h3⟩ := g_sp3 h
    subst h
    subst h2
    subst h3
    refine W.widen (k := 4) (n := 249) (by decide) (by decide) ?_
    exact g_iret X hI dX5_one_18
  · have h := gnl_a h
    have hl : lv_has ls 6 [(3, .ref q2), (0, .ref th), (1, .int a1), (2, .int a2)] := hl
    refine lv_ifnull hx hb dX5_one_7 ?_
    refine lv_iload_n hx hb dX5_one_10 rfl (lv_at hl 2 rfl) ?_
    refine g_callS X hI (av := [.int a1]) (c_X0_isOfOne a1) gm_X0_isOfOne tw_2_218 tw_2_219 ⟨by decide, by decide⟩ hl.1 (rest := []) rfl (Nat.le_of_ble_eq_true rfl) dX5_one_11 ⟨by decide, by decide⟩ (st1 := [.int (f_X0_isOfOne a1)]) rfl (cells' := 0) (slots' := 0) rfl rfl (fun H locs hI => ?_)
    refine lv_if_ne (tgt := 19) hx hb dX5_one_14 (by decide) (fun c => ?_) (fun c => ?_)
    · have h := g_f _ c h
      refine lv_aload_n hx hb dX5_one_19 rfl (lv_at hl 1 rfl) ?_
      obtain ⟨cO, h⟩ := gck_s h
      obtain ⟨r3, er3, h⟩ := gb_s h
      refine g_callV X hI (q := (RX5, TX5, 9)) (b := th) (av := []) cO rfl (c_X5_isFull er3) gm_X5_isFull tw_1_108 tw_1_110 tw_p_0 ⟨by decide, by decide⟩ hl.1 (rest := []) rfl (Nat.le_of_ble_eq_true rfl) dX5_one_20 ⟨by decide, by decide⟩ (st1 := [.int r3]) rfl (cells' := 0) (slots' := 0) rfl rfl (fun H locs hI => ?_)
      refine lv_if_eq (tgt := 29) hx hb dX5_one_23 (by decide) (fun c => ?_) (fun c => ?_)
      · have h := g_t _ c h
        refine lv_aload_n hx hb dX5_one_29 rfl (lv_at hl 0 rfl) ?_
        obtain ⟨v4, ev4, h⟩ := gb_s h
        refine g_get X hI (g_fI_s ev4) (C := RX4) (T := TX4) (N := 4) rfl gu_X4 (by decide) tw_1_150 dX5_one_30 ?_
        refine lv_if_eq (tgt := 44) hx hb dX5_one_33 (by decide) (fun c => ?_) (fun c => ?_)
        · have h := g_t _ c h
          refine lv_iload_n hx hb dX5_one_44 rfl (lv_at hl 2 rfl) ?_
          refine lv_aload_n hx hb dX5_one_45 rfl (lv_at hl 0 rfl) ?_
          obtain ⟨v5, ev5, h⟩ := gb_s h
          refine g_get X hI (g_fI_s ev5) (C := RX4) (T := TX4) (N := 4) rfl gu_X4 (by decide) tw_1_144 dX5_one_46 ?_
          refine g_callS X hI (av := [.int a1, .int v5]) (c_X1_ofOne a1 v5) gm_X1_ofOne tw_2_221 tw_2_222 ⟨by decide, by decide⟩ hl.1 (rest := []) rfl (Nat.le_of_ble_eq_true rfl) dX5_one_49 ⟨by decide, by decide⟩ (st1 := [.int (f_X1_ofOne a1 v5)]) rfl (cells' := 0) (slots' := 0) rfl rfl (fun H locs hI => ?_)
          obtain ⟨v6, ev6, h⟩ := gl_s h
          refine g_topi ev6 ?_
          refine lv_istore (lv' := [(4, .int v6), (3, .ref q2), (0, .ref th), (1, .int a1), (2, .int a2)]) hx hb dX5_one_52 hl (by decide) rfl (fun ls hl => ?_)
          refine lv_iload hx hb dX5_one_54 (lv_at hl 0 rfl) ?_
          refine lv_bipush (v := (-3)) hx hb dX5_one_56 (by decide) ?_
          refine lv_icmp_ne (tgt := 69) hx hb dX5_one_58 (by decide) (fun c => ?_) (fun c => ?_)
          · have h := g_f _ c h
            refine lv_aload_n hx hb dX5_one_69 rfl (lv_at hl 2 rfl) ?_
            obtain ⟨g7, eg7, h⟩ := gb_s h
            refine g_get X hI (g_fA_s eg7) (C := RX5) (T := TX5) (N := 9) rfl gu_X5 (by decide) tw_1_74 dX5_one_70 ?_
            refine lv_aload_n hx hb dX5_one_73 rfl (lv_at hl 1 rfl) ?_
            obtain ⟨g8, eg8, h⟩ := gb_s h
            refine g_get X hI (g_fA_s eg8) (C := RX4) (T := TX4) (N := 4) rfl gu_X4 (by decide) tw_1_146 dX5_one_74 ?_
            obtain ⟨cO, h⟩ := gck_s h
            obtain ⟨G9, eG9, h⟩ := gb_s h
            refine g_callV X hI (q := (RX3, TX3, 2)) (b := g7) (av := [.ref g8]) cO rfl (c_X3_setAs eG9) gm_X3_setAs tw_2_20 tw_1_140 tw_1_141 ⟨by decide, by decide⟩ hl.1 (rest := []) rfl (Nat.le_of_ble_eq_true rfl) dX5_one_77 ⟨by decide, by decide⟩ (st1 := []) rfl (cells' := 0) (slots' := 0) rfl rfl (fun H locs hI => ?_)
            refine lv_iconst (v := 0) hx hb dX5_one_80 (by decide) ?_
            refine lv_istore (lv' := [(5, .int 0), (4, .int v6), (3, .ref q2), (0, .ref th), (1, .int a1), (2, .int a2)]) hx hb dX5_one_81 hl (by decide) rfl (fun ls hl => ?_)
            exact b_X5_one_83 X 5000 hI h (lv_sub hl [3, 4, 2, 1, 0] rfl)
          · have h := g_t _ c h
            refine lv_aload_n hx hb dX5_one_61 rfl (lv_at hl 2 rfl) ?_
            refine lv_iconst (v := 4) hx hb dX5_one_62 (by decide) ?_
            refine lv_bipush (v := (-3)) hx hb dX5_one_63 (by decide) ?_
            obtain ⟨cO, h⟩ := gck_s h
            obtain ⟨r10, G11, er10, h⟩ := gb2_s h
            refine g_callV X hI (q := (RX5, TX5, 9)) (b := th) (av := [.int 4, .int (-3)]) cO rfl (c_X5_failed er10) gm_X5_failed tw_1_167 tw_1_169 tw_p_4 ⟨by decide, by decide⟩ hl.1 (rest := []) rfl (Nat.le_of_ble_eq_true rfl) dX5_one_65 ⟨by decide, by decide⟩ (st1 := [.int r10]) rfl (cells' := 0) (slots' := 0) rfl rfl (fun H locs hI => ?_)
            obtain ⟨h, h2, h3⟩ := g_sp3 h
            subst h
            subst h2
            subst h3
            refine W.widen (k := 4) (n := 249) (by decide) (by decide) ?_
            exact g_iret X hI dX5_one_68
        · have h := g_f _ c h
          refine lv_aload_n hx hb dX5_one_36 rfl (lv_at hl 1 rfl) ?_
          refine lv_iconst (v := 1) hx hb dX5_one_37 (by decide) ?_
          refine lv_bipush (v := (-3)) hx hb dX5_one_38 (by decide) ?_
          obtain ⟨cO, h⟩ := gck_s h
          obtain ⟨r12, G13, er12, h⟩ := gb2_s h
          refine g_callV X hI (q := (RX5, TX5, 9)) (b := th) (av := [.int 1, .int (-3)]) cO rfl (c_X5_failed er12) gm_X5_failed tw_1_167 tw_1_169 tw_p_4 ⟨by decide, by decide⟩ hl.1 (rest := []) rfl (Nat.le_of_ble_eq_true rfl) dX5_one_40 ⟨by decide, by decide⟩ (st1 := [.int r12]) rfl (cells' := 0) (slots' := 0) rfl rfl (fun H locs hI => ?_)
          obtain ⟨h, h2, h3⟩ := g_sp3 h
          subst h
          subst h2
          subst h3
          refine W.widen (k := 4) (n := 249) (by decide) (by decide) ?_
          exact g_iret X hI dX5_one_43
      · have h := g_f _ c h
        refine lv_bipush (v := (-2)) hx hb dX5_one_26 (by decide) ?_
        obtain ⟨h, h2, h3⟩ := g_sp3 h
        subst h
        subst h2
        subst h3
        refine W.widen (k := 4) (n := 249) (by decide) (by decide) ?_
        exact g_iret X hI dX5_one_28
    · have h := g_t _ c h
      refine lv_iconst (v := (-1)) hx hb dX5_one_17 (by decide) ?_
      obtain ⟨h, h2, h3⟩ := g_sp3 h
      subst h
      subst h2
      subst h3
      refine W.widen (k := 4) (n := 249) (by decide) (by decide) ?_
      exact g_iret X hI dX5_one_18
abbrev rm_X5_cast : Room := { frames := 4, cells := 4, slots := 249, locals := 106 }
def f_X5_cast_109 (G : gG) (n : Nat) (x0 : Nat) (x2 : Int32) : Option (Int32 × gG × Nat) :=
  gck (g_isO G x0 4) <|
  gb3 (f_X5_madeOfRow G n x0 x2) fun r1 G2 n3 =>
  some (r1, G2, n3)
set_option maxHeartbeats 4000000 in
set_option maxRecDepth 100000 in
theorem b_X5_cast_109 {p : Program} {l : Launch} {e : Env} {s : State} {m : MethodId} {args : Array Value} {below : List Frame} {meth : Method} {c : Code} {E : gE} {G0 : gG} {n0 : Nat} (X : g_X E G0 n0 p s m args meth c cX5_cast 5 RX5 "cast" (some .int)) {G : gG} {n : Nat} {r : Int32} {Gr : gG} {nr : Nat} {H : Heap} {locs : List Loc} (hI : g_I E (g_A G0 n0) G n s.heap H locs) {x0 : Nat} {x2 : Int32} (h : f_X5_cast_109 G n x0 x2 = some (r, Gr, nr)) {ls : Array Slot} (hl : lv_has ls 5 [(0, .ref x0), (2, .int x2)]) : W p l e rm_X5_cast s m args below meth c H locs 0 0 (MQ below (g_Q E G0 n0 (some (.int r)) Gr nr) args s rm_X5_cast.cells rm_X5_cast.slots (g_A G0 n0)) (F0 m 109 ls []) := by
  have hx := X.1
  have hb := X.2.1
  unfold f_X5_cast_109 at h
  refine lv_aload_n hx hb dX5_cast_109 rfl (lv_at hl 0 rfl) ?_
  refine lv_iload_n hx hb dX5_cast_110 rfl (lv_at hl 1 rfl) ?_
  obtain ⟨cO, h⟩ := gck_s h
  obtain ⟨r1, G2, n3, er1, h⟩ := gb3_s h
  refine g_callV X hI (q := (RX5, TX5, 9)) (b := x0) (av := [.int x2]) cO rfl (c_X5_madeOfRow er1) gm_X5_madeOfRow tw_1_124 tw_1_126 tw_p_3 ⟨by decide, by decide⟩ hl.1 (rest := []) rfl (Nat.le_of_ble_eq_true rfl) dX5_cast_111 ⟨by decide, by decide⟩ (st1 := [.int r1]) rfl (cells' := 4) (slots' := 249) rfl rfl (fun H locs hI => ?_)
  obtain ⟨h, h2, h3⟩ := g_sp3 h
  subst h
  subst h2
  subst h3
  exact g_iret X hI dX5_cast_114
def f_X5_cast_58 : Nat → gG → Nat → Nat → Int32 → Nat → Int32 → Option (Int32 × gG × Nat)
  | 0, _, _, _, _, _, _ => none
  | fu + 1, G, n, x0, x2, x3, x4 =>
    gb (g_fA G x3 3 2) fun g1 =>
    gb (g_len G g1) fun v2 =>
    if v2 ≤ x4 then
      f_X5_cast_109 G n x0 x2
    else
    gb (g_fA G x0 4 3) fun g3 =>
    gb (g_len G g3) fun v4 =>
    if v4 ≤ x4 then
      f_X5_cast_109 G n x0 x2
    else
    gb (g_fA G x0 4 3) fun g5 =>
    gb (g_fA G x0 4 1) fun g6 =>
    gck (g_isO G x3 3) <|
    gb (f_X4_read G x3 x4) fun r7 =>
    gb (g_fI G x3 3 0) fun v8 =>
    gck (g_isO G g6 0) <|
    gb2 (f_X0_moved G g6 r7 v8 x2) fun r9 G10 =>
    gb (g_ls G10 g5 x4 r9) fun G11 =>
    gl (x4 + 1 : Int32) fun v12 =>
    f_X5_cast_58 fu G11 n x0 x2 x3 v12
set_option maxHeartbeats 4000000 in
set_option maxRecDepth 100000 in
theorem b_X5_cast_58 {p : Program} {l : Launch} {e : Env} {s : State} {m : MethodId} {args : Array Value} {below : List Frame} {meth : Method} {c : Code} {E : gE} {G0 : gG} {n0 : Nat} (X : g_X E G0 n0 p s m args meth c cX5_cast 5 RX5 "cast" (some .int)) {r : Int32} {Gr : gG} {nr : Nat} (fu : Nat) : ∀ {G : gG} {n : Nat} {H : Heap} {locs : List Loc} (_ : g_I E (g_A G0 n0) G n s.heap H locs) {x0 : Nat} {x2 : Int32} {x3 : Nat} {x4 : Int32} (_ : f_X5_cast_58 fu G n x0 x2 x3 x4 = some (r, Gr, nr)) {ls : Array Slot} (_ : lv_has ls 5 [(0, .ref x0), (2, .int x2), (3, .ref x3), (4, .int x4)]), W p l e rm_X5_cast s m args below meth c H locs 0 0 (MQ below (g_Q E G0 n0 (some (.int r)) Gr nr) args s rm_X5_cast.cells rm_X5_cast.slots (g_A G0 n0)) (F0 m 58 ls []) := by
  have hx := X.1
  have hb := X.2.1
  induction fu with
  | zero =>
    intro G n H locs hI x0 x2 x3 x4 h ls hl
    rw [f_X5_cast_58] at h
    cases h
  | succ fu ih =>
    intro G n H locs hI x0 x2 x3 x4 h ls hl
    rw [f_X5_cast_58] at h
    refine lv_iload hx hb dX5_cast_58 (lv_at hl 3 rfl) ?_
    refine lv_aload_n hx hb dX5_cast_60 rfl (lv_at hl 2 rfl) ?_
    obtain ⟨g1, eg1, h⟩ := gb_s h
    refine g_get X hI (g_fA_s eg1) (C := RX4) (T := TX4) (N := 4) rfl gu_X4 (by decide) tw_1_148 dX5_cast_61 ?_
    obtain ⟨v2, ev2, h⟩ := gb_s h
    refine g_alen X hI ev2 dX5_cast_64 ?_
    refine lv_icmp_ge (tgt := 109) hx hb dX5_cast_65 (by decide) (fun c => ?_) (fun c => ?_)
    · have h := g_t _ c h
      exact b_X5_cast_109 X hI h (lv_sub hl [0, 1] rfl)
    · have h := g_f _ c h
      refine lv_iload hx hb dX5_cast_68 (lv_at hl 3 rfl) ?_
      refine lv_aload_n hx hb dX5_cast_70 rfl (lv_at hl 0 rfl) ?_
      obtain ⟨g3, eg3, h⟩ := gb_s h
      refine g_get X hI (g_fA_s eg3) (C := RX5) (T := TX5) (N := 9) rfl gu_X5 (by decide) tw_1_75 dX5_cast_71 ?_
      obtain ⟨v4, ev4, h⟩ := gb_s h
      refine g_alen X hI ev4 dX5_cast_74 ?_
      refine lv_icmp_ge (tgt := 109) hx hb dX5_cast_75 (by decide) (fun c => ?_) (fun c => ?_)
      · have h := g_t _ c h
        exact b_X5_cast_109 X hI h (lv_sub hl [0, 1] rfl)
      · have h := g_f _ c h
        refine lv_aload_n hx hb dX5_cast_78 rfl (lv_at hl 0 rfl) ?_
        obtain ⟨g5, eg5, h⟩ := gb_s h
        refine g_get X hI (g_fA_s eg5) (C := RX5) (T := TX5) (N := 9) rfl gu_X5 (by decide) tw_1_75 dX5_cast_79 ?_
        refine lv_iload hx hb dX5_cast_82 (lv_at hl 3 rfl) ?_
        refine lv_aload_n hx hb dX5_cast_84 rfl (lv_at hl 0 rfl) ?_
        obtain ⟨g6, eg6, h⟩ := gb_s h
        refine g_get X hI (g_fA_s eg6) (C := RX5) (T := TX5) (N := 9) rfl gu_X5 (by decide) tw_1_73 dX5_cast_85 ?_
        refine lv_aload_n hx hb dX5_cast_88 rfl (lv_at hl 2 rfl) ?_
        refine lv_iload hx hb dX5_cast_89 (lv_at hl 3 rfl) ?_
        obtain ⟨cO, h⟩ := gck_s h
        obtain ⟨r7, er7, h⟩ := gb_s h
        refine g_callV X hI (q := (RX4, TX4, 4)) (b := x3) (av := [.int x4]) cO rfl (c_X4_read er7) gm_X4_read tw_1_210 tw_1_211 tw_1_212 ⟨by decide, by decide⟩ hl.1 (rest := [.ref g6, .int x4, .ref g5]) rfl (Nat.le_of_ble_eq_true rfl) dX5_cast_91 ⟨by decide, by decide⟩ (st1 := [.long r7, .ref g6, .int x4, .ref g5]) rfl (cells' := 0) (slots' := 0) rfl rfl (fun H locs hI => ?_)
        refine lv_aload_n hx hb dX5_cast_94 rfl (lv_at hl 2 rfl) ?_
        obtain ⟨v8, ev8, h⟩ := gb_s h
        refine g_get X hI (g_fI_s ev8) (C := RX4) (T := TX4) (N := 4) rfl gu_X4 (by decide) tw_1_144 dX5_cast_95 ?_
        refine lv_iload_n hx hb dX5_cast_98 rfl (lv_at hl 1 rfl) ?_
        obtain ⟨cO, h⟩ := gck_s h
        obtain ⟨r9, G10, er9, h⟩ := gb2_s h
        refine g_callV X hI (q := (RX0, TX0, 3)) (b := g6) (av := [.long r7, .int v8, .int x2]) cO rfl (c_X0_moved er9) gm_X0_moved tw_2_39 tw_2_40 tw_2_41 ⟨by decide, by decide⟩ hl.1 (rest := [.int x4, .ref g5]) rfl (Nat.le_of_ble_eq_true rfl) dX5_cast_99 ⟨by decide, by decide⟩ (st1 := [.long r9, .int x4, .ref g5]) rfl (cells' := 0) (slots' := 0) rfl rfl (fun H locs hI => ?_)
        obtain ⟨G11, eG11, h⟩ := gb_s h
        refine g_last X hI (G' := G11) eG11 dX5_cast_102 (fun H locs hI => ?_)
        obtain ⟨v12, ev12, h⟩ := gl_s h
        refine lv_iinc (v := v12) (lv' := [(4, .int v12), (0, .ref x0), (2, .int x2), (3, .ref x3)]) hx hb dX5_cast_103 hl (k := 3) rfl (by rw [← ev12]; rfl) (by decide) rfl (fun ls hl => ?_)
        refine lv_goto (tgt := 58) hx hb dX5_cast_106 (by decide) ?_
        exact ih hI h (lv_sub hl [1, 2, 3, 0] rfl)
def f_X5_cast (G : gG) (n : Nat) (th : Nat) (a1 : Int32) (a2 : Int32) : Option (Int32 × gG × Nat) :=
  gck (g_isO G th 4) <|
  gb (f_X5_known G th a1) fun o1 =>
  gnl o1 (
  some ((-1), G, n)) fun q2 =>
  if (f_X1_isLane a2) = 0 then
    some ((-1), G, n)
  else
  gck (g_isO G th 4) <|
  gb (f_X5_isFull G th) fun r3 =>
  if r3 = 0 then
    gb (g_fI G q2 3 3) fun v4 =>
    if v4 = 0 then
      gb (g_fA G th 4 2) fun g5 =>
      gb (g_fA G q2 3 1) fun g6 =>
      gck (g_isO G g5 2) <|
      gb (f_X3_setAs G g5 g6) fun G7 =>
      f_X5_cast_58 5000 G7 n th a2 q2 0
    else
    gck (g_isO G th 4) <|
    gb2 (f_X5_failed G th (1 : Int32) (-3 : Int32)) fun r8 G9 =>
    some (r8, G9, n)
  else
  some ((-2), G, n)
theorem gm_X5_cast : g_M yX5_cast cX5_cast 5 (some .int) 2 := ⟨tw_3_1, tw_1_1, by decide +kernel, Or.inl (by decide +kernel)⟩
set_option maxHeartbeats 4000000 in
set_option maxRecDepth 100000 in
theorem c_X5_cast {l : Launch} {E : gE} {G : gG} {n : Nat} {th : Nat} {a1 : Int32} {a2 : Int32} {r : Int32} {Gr : gG} {nr : Nat} (h : f_X5_cast G n th a1 a2 = some (r, Gr, nr)) : g_Met l yX5_cast cX5_cast 5 (some .int) rm_X5_cast E G n [.ref th, .int a1, .int a2] (some (.int r)) Gr nr := by
  refine g_ofW gm_X5_cast (Nat.le_of_ble_eq_true rfl) ?_
  intro p e s m below meth c ls X hl hI
  have hx := X.1
  have hb := X.2.1
  have X : g_X E G n p s m _ meth c cX5_cast 5 RX5 "cast" (some .int) := X
  have hl : lv_has ls 5 [(0, .ref th), (1, .int a1), (2, .int a2)] := hl
  unfold f_X5_cast at h
  refine lv_aload_n hx hb dX5_cast_0 rfl (lv_at hl 0 rfl) ?_
  refine lv_iload_n hx hb dX5_cast_1 rfl (lv_at hl 1 rfl) ?_
  obtain ⟨cO, h⟩ := gck_s h
  obtain ⟨o1, eo1, h⟩ := gb_s h
  refine g_callV X hI (q := (RX5, TX5, 9)) (b := th) (av := [.int a1]) cO rfl (c_X5_known eo1) gm_X5_known tw_1_175 tw_1_177 tw_p_5 ⟨by decide, by decide⟩ hl.1 (rest := []) rfl (Nat.le_of_ble_eq_true rfl) dX5_cast_2 ⟨by decide, by decide⟩ (st1 := [va_rf o1]) rfl (cells' := 0) (slots' := 0) rfl rfl (fun H locs hI => ?_)
  refine g_aso_n (lv' := [(3, va_rf o1), (0, .ref th), (1, .int a1), (2, .int a2)]) hx hb dX5_cast_5 rfl hl (by decide) (by first | rfl | simp [g_rfcat]) (fun ls hl => ?_)
  refine g_alo_n hx hb dX5_cast_6 rfl (lv_at hl 0 rfl) ?_
  rcases o1 with _ | q2
  · have h := gnl_n h
    have hl : lv_has ls 5 [(3, .null), (0, .ref th), (1, .int a1), (2, .int a2)] := hl
    refine lv_ifnullN (tgt := 17) hx hb dX5_cast_7 (by decide) ?_
    refine lv_iconst (v := (-1)) hx hb dX5_cast_17 (by decide) ?_
    obtain ⟨h, h2, h3⟩ := g_sp3 h
    subst h
    subst h2
    subst h3
    refine W.widen (k := 4) (n := 249) (by decide) (by decide) ?_
    exact g_iret X hI dX5_cast_18
  · have h := gnl_a h
    have hl : lv_has ls 5 [(3, .ref q2), (0, .ref th), (1, .int a1), (2, .int a2)] := hl
    refine lv_ifnull hx hb dX5_cast_7 ?_
    refine lv_iload_n hx hb dX5_cast_10 rfl (lv_at hl 3 rfl) ?_
    refine g_callS X hI (av := [.int a2]) (c_X1_isLane a2) gm_X1_isLane tw_1_105 tw_1_106 ⟨by decide, by decide⟩ hl.1 (rest := []) rfl (Nat.le_of_ble_eq_true rfl) dX5_cast_11 ⟨by decide, by decide⟩ (st1 := [.int (f_X1_isLane a2)]) rfl (cells' := 0) (slots' := 0) rfl rfl (fun H locs hI => ?_)
    refine lv_if_ne (tgt := 19) hx hb dX5_cast_14 (by decide) (fun c => ?_) (fun c => ?_)
    · have h := g_f _ c h
      refine lv_aload_n hx hb dX5_cast_19 rfl (lv_at hl 1 rfl) ?_
      obtain ⟨cO, h⟩ := gck_s h
      obtain ⟨r3, er3, h⟩ := gb_s h
      refine g_callV X hI (q := (RX5, TX5, 9)) (b := th) (av := []) cO rfl (c_X5_isFull er3) gm_X5_isFull tw_1_108 tw_1_110 tw_p_0 ⟨by decide, by decide⟩ hl.1 (rest := []) rfl (Nat.le_of_ble_eq_true rfl) dX5_cast_20 ⟨by decide, by decide⟩ (st1 := [.int r3]) rfl (cells' := 0) (slots' := 0) rfl rfl (fun H locs hI => ?_)
      refine lv_if_eq (tgt := 29) hx hb dX5_cast_23 (by decide) (fun c => ?_) (fun c => ?_)
      · have h := g_t _ c h
        refine lv_aload_n hx hb dX5_cast_29 rfl (lv_at hl 0 rfl) ?_
        obtain ⟨v4, ev4, h⟩ := gb_s h
        refine g_get X hI (g_fI_s ev4) (C := RX4) (T := TX4) (N := 4) rfl gu_X4 (by decide) tw_1_150 dX5_cast_30 ?_
        refine lv_if_eq (tgt := 44) hx hb dX5_cast_33 (by decide) (fun c => ?_) (fun c => ?_)
        · have h := g_t _ c h
          refine lv_aload_n hx hb dX5_cast_44 rfl (lv_at hl 1 rfl) ?_
          obtain ⟨g5, eg5, h⟩ := gb_s h
          refine g_get X hI (g_fA_s eg5) (C := RX5) (T := TX5) (N := 9) rfl gu_X5 (by decide) tw_1_74 dX5_cast_45 ?_
          refine lv_aload_n hx hb dX5_cast_48 rfl (lv_at hl 0 rfl) ?_
          obtain ⟨g6, eg6, h⟩ := gb_s h
          refine g_get X hI (g_fA_s eg6) (C := RX4) (T := TX4) (N := 4) rfl gu_X4 (by decide) tw_1_146 dX5_cast_49 ?_
          obtain ⟨cO, h⟩ := gck_s h
          obtain ⟨G7, eG7, h⟩ := gb_s h
          refine g_callV X hI (q := (RX3, TX3, 2)) (b := g5) (av := [.ref g6]) cO rfl (c_X3_setAs eG7) gm_X3_setAs tw_2_20 tw_1_140 tw_1_141 ⟨by decide, by decide⟩ hl.1 (rest := []) rfl (Nat.le_of_ble_eq_true rfl) dX5_cast_52 ⟨by decide, by decide⟩ (st1 := []) rfl (cells' := 0) (slots' := 0) rfl rfl (fun H locs hI => ?_)
          refine lv_iconst (v := 0) hx hb dX5_cast_55 (by decide) ?_
          refine lv_istore (lv' := [(4, .int 0), (3, .ref q2), (0, .ref th), (1, .int a1), (2, .int a2)]) hx hb dX5_cast_56 hl (by decide) rfl (fun ls hl => ?_)
          exact b_X5_cast_58 X 5000 hI h (lv_sub hl [2, 4, 1, 0] rfl)
        · have h := g_f _ c h
          refine lv_aload_n hx hb dX5_cast_36 rfl (lv_at hl 1 rfl) ?_
          refine lv_iconst (v := 1) hx hb dX5_cast_37 (by decide) ?_
          refine lv_bipush (v := (-3)) hx hb dX5_cast_38 (by decide) ?_
          obtain ⟨cO, h⟩ := gck_s h
          obtain ⟨r8, G9, er8, h⟩ := gb2_s h
          refine g_callV X hI (q := (RX5, TX5, 9)) (b := th) (av := [.int 1, .int (-3)]) cO rfl (c_X5_failed er8) gm_X5_failed tw_1_167 tw_1_169 tw_p_4 ⟨by decide, by decide⟩ hl.1 (rest := []) rfl (Nat.le_of_ble_eq_true rfl) dX5_cast_40 ⟨by decide, by decide⟩ (st1 := [.int r8]) rfl (cells' := 0) (slots' := 0) rfl rfl (fun H locs hI => ?_)
          obtain ⟨h, h2, h3⟩ := g_sp3 h
          subst h
          subst h2
          subst h3
          refine W.widen (k := 4) (n := 249) (by decide) (by decide) ?_
          exact g_iret X hI dX5_cast_43
      · have h := g_f _ c h
        refine lv_bipush (v := (-2)) hx hb dX5_cast_26 (by decide) ?_
        obtain ⟨h, h2, h3⟩ := g_sp3 h
        subst h
        subst h2
        subst h3
        refine W.widen (k := 4) (n := 249) (by decide) (by decide) ?_
        exact g_iret X hI dX5_cast_28
    · have h := g_t _ c h
      refine lv_iconst (v := (-1)) hx hb dX5_cast_17 (by decide) ?_
      obtain ⟨h, h2, h3⟩ := g_sp3 h
      subst h
      subst h2
      subst h3
      refine W.widen (k := 4) (n := 249) (by decide) (by decide) ?_
      exact g_iret X hI dX5_cast_18
abbrev rm_X5_rowByMask : Room := { frames := 4, cells := 0, slots := 0, locals := 102 }
def f_X5_rowByMask_50 (k12 : gG → Nat → Int32 → Nat → Nat → Nat → Int32 → Int32 → Option gG) (G : gG) (x0 : Nat) (x1 : Int32) (x2 : Nat) (x3 : Nat) (x4 : Nat) (x5 : Int32) (x6 : Int32) (s0 : Nat) : Option gG :=
  gb (g_fA G x0 4 3) fun g1 =>
  gb (g_fA G x0 4 1) fun g2 =>
  gb (g_fA G x0 4 2) fun g3 =>
  gck (g_isO G s0 3) <|
  gb (f_X4_readSpread G s0 x6 g3) fun r4 =>
  gb (g_fI G s0 3 0) fun v5 =>
  gck (g_isO G g2 0) <|
  gb2 (f_X0_moved G g2 r4 v5 x1) fun r6 G7 =>
  gb (g_ls G7 g1 x6 r6) fun G8 =>
  gl (x6 + 1 : Int32) fun v9 =>
  k12 G8 x0 x1 x2 x3 x4 x5 v9
set_option maxHeartbeats 4000000 in
set_option maxRecDepth 100000 in
theorem b_X5_rowByMask_50 {p : Program} {l : Launch} {e : Env} {s : State} {m : MethodId} {args : Array Value} {below : List Frame} {meth : Method} {c : Code} {E : gE} {G0 : gG} {n0 : Nat} (X : g_X E G0 n0 p s m args meth c cX5_rowByMask 8 RX5 "rowByMask" none) {G : gG} {n : Nat} {Gr : gG} {k12 : gG → Nat → Int32 → Nat → Nat → Nat → Int32 → Int32 → Option gG} (hk12 : ∀ {G : gG} {H : Heap} {locs : List Loc} (_ : g_I E (g_A G0 n0) G n s.heap H locs) {x0 : Nat} {x1 : Int32} {x2 : Nat} {x3 : Nat} {x4 : Nat} {x5 : Int32} {x6 : Int32}  (_ : k12 G x0 x1 x2 x3 x4 x5 x6 = some Gr) {ls : Array Slot} (_ : lv_has ls 8 [(0, .ref x0), (1, .int x1), (2, .ref x2), (3, .ref x3), (4, .ref x4), (5, .int x5), (6, .int x6)]), W p l e rm_X5_rowByMask s m args below meth c H locs 0 0 (MQ below (g_Q E G0 n0 none Gr n) args s rm_X5_rowByMask.cells rm_X5_rowByMask.slots (g_A G0 n0)) (F0 m 12 ls [])) {H : Heap} {locs : List Loc} (hI : g_I E (g_A G0 n0) G n s.heap H locs) {x0 : Nat} {x1 : Int32} {x2 : Nat} {x3 : Nat} {x4 : Nat} {x5 : Int32} {x6 : Int32} {s0 : Nat} (h : f_X5_rowByMask_50 k12 G x0 x1 x2 x3 x4 x5 x6 s0 = some Gr) {ls : Array Slot} (hl : lv_has ls 8 [(0, .ref x0), (1, .int x1), (2, .ref x2), (3, .ref x3), (4, .ref x4), (5, .int x5), (6, .int x6)]) : W p l e rm_X5_rowByMask s m args below meth c H locs 0 0 (MQ below (g_Q E G0 n0 none Gr n) args s rm_X5_rowByMask.cells rm_X5_rowByMask.slots (g_A G0 n0)) (F0 m 50 ls [.ref s0]) := by
  have hx := X.1
  have hb := X.2.1
  unfold f_X5_rowByMask_50 at h
  refine lv_astore (lv' := [(7, .ref s0), (0, .ref x0), (1, .int x1), (2, .ref x2), (3, .ref x3), (4, .ref x4), (5, .int x5), (6, .int x6)]) hx hb dX5_rowByMask_50 hl (by decide) rfl (fun ls hl => ?_)
  refine lv_aload_n hx hb dX5_rowByMask_52 rfl (lv_at hl 1 rfl) ?_
  obtain ⟨g1, eg1, h⟩ := gb_s h
  refine g_get X hI (g_fA_s eg1) (C := RX5) (T := TX5) (N := 9) rfl gu_X5 (by decide) tw_1_75 dX5_rowByMask_53 ?_
  refine lv_iload hx hb dX5_rowByMask_56 (lv_at hl 7 rfl) ?_
  refine lv_aload_n hx hb dX5_rowByMask_58 rfl (lv_at hl 1 rfl) ?_
  obtain ⟨g2, eg2, h⟩ := gb_s h
  refine g_get X hI (g_fA_s eg2) (C := RX5) (T := TX5) (N := 9) rfl gu_X5 (by decide) tw_1_73 dX5_rowByMask_59 ?_
  refine lv_aload hx hb dX5_rowByMask_62 (lv_at hl 0 rfl) ?_
  refine lv_iload hx hb dX5_rowByMask_64 (lv_at hl 7 rfl) ?_
  refine lv_aload_n hx hb dX5_rowByMask_66 rfl (lv_at hl 1 rfl) ?_
  obtain ⟨g3, eg3, h⟩ := gb_s h
  refine g_get X hI (g_fA_s eg3) (C := RX5) (T := TX5) (N := 9) rfl gu_X5 (by decide) tw_1_74 dX5_rowByMask_67 ?_
  obtain ⟨cO, h⟩ := gck_s h
  obtain ⟨r4, er4, h⟩ := gb_s h
  refine g_callV X hI (q := (RX4, TX4, 4)) (b := s0) (av := [.int x6, .ref g3]) cO rfl (c_X4_readSpread er4) gm_X4_readSpread tw_2_30 tw_2_31 tw_2_32 ⟨by decide, by decide⟩ hl.1 (rest := [.ref g2, .int x6, .ref g1]) rfl (Nat.le_of_ble_eq_true rfl) dX5_rowByMask_70 ⟨by decide, by decide⟩ (st1 := [.long r4, .ref g2, .int x6, .ref g1]) rfl (cells' := 0) (slots' := 0) rfl rfl (fun H locs hI => ?_)
  refine lv_aload hx hb dX5_rowByMask_73 (lv_at hl 0 rfl) ?_
  obtain ⟨v5, ev5, h⟩ := gb_s h
  refine g_get X hI (g_fI_s ev5) (C := RX4) (T := TX4) (N := 4) rfl gu_X4 (by decide) tw_1_144 dX5_rowByMask_75 ?_
  refine lv_iload_n hx hb dX5_rowByMask_78 rfl (lv_at hl 2 rfl) ?_
  obtain ⟨cO, h⟩ := gck_s h
  obtain ⟨r6, G7, er6, h⟩ := gb2_s h
  refine g_callV X hI (q := (RX0, TX0, 3)) (b := g2) (av := [.long r4, .int v5, .int x1]) cO rfl (c_X0_moved er6) gm_X0_moved tw_2_39 tw_2_40 tw_2_41 ⟨by decide, by decide⟩ hl.1 (rest := [.int x6, .ref g1]) rfl (Nat.le_of_ble_eq_true rfl) dX5_rowByMask_79 ⟨by decide, by decide⟩ (st1 := [.long r6, .int x6, .ref g1]) rfl (cells' := 0) (slots' := 0) rfl rfl (fun H locs hI => ?_)
  obtain ⟨G8, eG8, h⟩ := gb_s h
  refine g_last X hI (G' := G8) eG8 dX5_rowByMask_82 (fun H locs hI => ?_)
  obtain ⟨v9, ev9, h⟩ := gl_s h
  refine lv_iinc (v := v9) (lv' := [(6, .int v9), (7, .ref s0), (0, .ref x0), (1, .int x1), (2, .ref x2), (3, .ref x3), (4, .ref x4), (5, .int x5)]) hx hb dX5_rowByMask_83 hl (k := 7) rfl (by rw [← ev9]; rfl) (by decide) rfl (fun ls hl => ?_)
  refine lv_goto (tgt := 12) hx hb dX5_rowByMask_86 (by decide) ?_
  exact hk12 hI h (lv_sub hl [2, 3, 4, 5, 6, 7, 0] rfl)
def f_X5_rowByMask_12 : Nat → gG → Nat → Int32 → Nat → Nat → Nat → Int32 → Int32 → Option gG
  | 0, _, _, _, _, _, _, _, _ => none
  | fu + 1, G, x0, x1, x2, x3, x4, x5, x6 =>
    if x5 ≤ x6 then
      some G
    else
    gb (g_fA G x0 4 3) fun g1 =>
    gb (g_len G g1) fun v2 =>
    if v2 ≤ x6 then
      some G
    else
    gb (g_fA G x0 4 2) fun g3 =>
    gck (g_isO G x2 3) <|
    gb (f_X4_readSpread G x2 x6 g3) fun r4 =>
    if r4 = 0 then
      f_X5_rowByMask_50 (f_X5_rowByMask_12 fu) G x0 x1 x2 x3 x4 x5 x6 x4
    else
    f_X5_rowByMask_50 (f_X5_rowByMask_12 fu) G x0 x1 x2 x3 x4 x5 x6 x3
set_option maxHeartbeats 4000000 in
set_option maxRecDepth 100000 in
theorem b_X5_rowByMask_12 {p : Program} {l : Launch} {e : Env} {s : State} {m : MethodId} {args : Array Value} {below : List Frame} {meth : Method} {c : Code} {E : gE} {G0 : gG} {n0 : Nat} (X : g_X E G0 n0 p s m args meth c cX5_rowByMask 8 RX5 "rowByMask" none) {n : Nat} {Gr : gG} (fu : Nat) : ∀ {G : gG} {H : Heap} {locs : List Loc} (_ : g_I E (g_A G0 n0) G n s.heap H locs) {x0 : Nat} {x1 : Int32} {x2 : Nat} {x3 : Nat} {x4 : Nat} {x5 : Int32} {x6 : Int32} (_ : f_X5_rowByMask_12 fu G x0 x1 x2 x3 x4 x5 x6 = some Gr) {ls : Array Slot} (_ : lv_has ls 8 [(0, .ref x0), (1, .int x1), (2, .ref x2), (3, .ref x3), (4, .ref x4), (5, .int x5), (6, .int x6)]), W p l e rm_X5_rowByMask s m args below meth c H locs 0 0 (MQ below (g_Q E G0 n0 none Gr n) args s rm_X5_rowByMask.cells rm_X5_rowByMask.slots (g_A G0 n0)) (F0 m 12 ls []) := by
  have hx := X.1
  have hb := X.2.1
  induction fu with
  | zero =>
    intro G H locs hI x0 x1 x2 x3 x4 x5 x6 h ls hl
    rw [f_X5_rowByMask_12] at h
    cases h
  | succ fu ih =>
    intro G H locs hI x0 x1 x2 x3 x4 x5 x6 h ls hl
    rw [f_X5_rowByMask_12] at h
    refine lv_iload hx hb dX5_rowByMask_12 (lv_at hl 6 rfl) ?_
    refine lv_iload hx hb dX5_rowByMask_14 (lv_at hl 5 rfl) ?_
    refine lv_icmp_ge (tgt := 89) hx hb dX5_rowByMask_16 (by decide) (fun c => ?_) (fun c => ?_)
    · have h := g_t _ c h
      have h := Option.some.inj h
      subst h
      exact g_vret X hI dX5_rowByMask_89
    · have h := g_f _ c h
      refine lv_iload hx hb dX5_rowByMask_19 (lv_at hl 6 rfl) ?_
      refine lv_aload_n hx hb dX5_rowByMask_21 rfl (lv_at hl 0 rfl) ?_
      obtain ⟨g1, eg1, h⟩ := gb_s h
      refine g_get X hI (g_fA_s eg1) (C := RX5) (T := TX5) (N := 9) rfl gu_X5 (by decide) tw_1_75 dX5_rowByMask_22 ?_
      obtain ⟨v2, ev2, h⟩ := gb_s h
      refine g_alen X hI ev2 dX5_rowByMask_25 ?_
      refine lv_icmp_ge (tgt := 89) hx hb dX5_rowByMask_26 (by decide) (fun c => ?_) (fun c => ?_)
      · have h := g_t _ c h
        have h := Option.some.inj h
        subst h
        exact g_vret X hI dX5_rowByMask_89
      · have h := g_f _ c h
        refine lv_aload_n hx hb dX5_rowByMask_29 rfl (lv_at hl 2 rfl) ?_
        refine lv_iload hx hb dX5_rowByMask_30 (lv_at hl 6 rfl) ?_
        refine lv_aload_n hx hb dX5_rowByMask_32 rfl (lv_at hl 0 rfl) ?_
        obtain ⟨g3, eg3, h⟩ := gb_s h
        refine g_get X hI (g_fA_s eg3) (C := RX5) (T := TX5) (N := 9) rfl gu_X5 (by decide) tw_1_74 dX5_rowByMask_33 ?_
        obtain ⟨cO, h⟩ := gck_s h
        obtain ⟨r4, er4, h⟩ := gb_s h
        refine g_callV X hI (q := (RX4, TX4, 4)) (b := x2) (av := [.int x6, .ref g3]) cO rfl (c_X4_readSpread er4) gm_X4_readSpread tw_2_30 tw_2_31 tw_2_32 ⟨by decide, by decide⟩ hl.1 (rest := []) rfl (Nat.le_of_ble_eq_true rfl) dX5_rowByMask_36 ⟨by decide, by decide⟩ (st1 := [.long r4]) rfl (cells' := 0) (slots' := 0) rfl rfl (fun H locs hI => ?_)
        refine lv_lconst (v := 0) hx hb dX5_rowByMask_39 (by decide) ?_
        refine W.lcmp hx hb dX5_rowByMask_40 ?_
        refine lv_if_eq (tgt := 48) hx hb dX5_rowByMask_41 (by decide) (fun c => ?_) (fun c => ?_)
        · have h := g_t _ ((lg_cmp_eq _ _).mp c) h
          refine lv_aload hx hb dX5_rowByMask_48 (lv_at hl 4 rfl) ?_
          exact b_X5_rowByMask_50 X ih hI h (lv_sub hl [0, 1, 2, 3, 4, 5, 6] rfl)
        · have h := g_f _ (fun q => c ((lg_cmp_eq _ _).mpr q)) h
          refine lv_aload_n hx hb dX5_rowByMask_44 rfl (lv_at hl 3 rfl) ?_
          refine lv_goto (tgt := 50) hx hb dX5_rowByMask_45 (by decide) ?_
          exact b_X5_rowByMask_50 X ih hI h (lv_sub hl [0, 1, 2, 3, 4, 5, 6] rfl)
def f_X5_rowByMask (G : gG) (th : Nat) (a1 : Int32) (a2 : Nat) (a3 : Nat) (a4 : Nat) : Option gG :=
  gb (g_fA G th 4 2) fun g1 =>
  gck (g_isO G g1 2) <|
  gb (f_X3_size G g1) fun r2 =>
  f_X5_rowByMask_12 5000 G th a1 a2 a3 a4 r2 0
theorem gm_X5_rowByMask : g_M yX5_rowByMask cX5_rowByMask 8 none 4 := ⟨tw_3_10, tw_1_1, by decide +kernel, Or.inl (by decide +kernel)⟩
set_option maxHeartbeats 4000000 in
set_option maxRecDepth 100000 in
theorem c_X5_rowByMask {l : Launch} {E : gE} {G : gG} {n : Nat} {th : Nat} {a1 : Int32} {a2 : Nat} {a3 : Nat} {a4 : Nat} {Gr : gG} (h : f_X5_rowByMask G th a1 a2 a3 a4 = some Gr) : g_Met l yX5_rowByMask cX5_rowByMask 8 none rm_X5_rowByMask E G n [.ref th, .int a1, .ref a2, .ref a3, .ref a4] none Gr n := by
  refine g_ofW gm_X5_rowByMask (Nat.le_of_ble_eq_true rfl) ?_
  intro p e s m below meth c ls X hl hI
  have hx := X.1
  have hb := X.2.1
  have X : g_X E G n p s m _ meth c cX5_rowByMask 8 RX5 "rowByMask" none := X
  have hl : lv_has ls 8 [(0, .ref th), (1, .int a1), (2, .ref a2), (3, .ref a3), (4, .ref a4)] := hl
  unfold f_X5_rowByMask at h
  refine lv_aload_n hx hb dX5_rowByMask_0 rfl (lv_at hl 0 rfl) ?_
  obtain ⟨g1, eg1, h⟩ := gb_s h
  refine g_get X hI (g_fA_s eg1) (C := RX5) (T := TX5) (N := 9) rfl gu_X5 (by decide) tw_1_74 dX5_rowByMask_1 ?_
  obtain ⟨cO, h⟩ := gck_s h
  obtain ⟨r2, er2, h⟩ := gb_s h
  refine g_callV X hI (q := (RX3, TX3, 2)) (b := g1) (av := []) cO rfl (c_X3_size er2) gm_X3_size tw_1_128 tw_1_129 tw_1_130 ⟨by decide, by decide⟩ hl.1 (rest := []) rfl (Nat.le_of_ble_eq_true rfl) dX5_rowByMask_4 ⟨by decide, by decide⟩ (st1 := [.int r2]) rfl (cells' := 0) (slots' := 0) rfl rfl (fun H locs hI => ?_)
  refine lv_istore (lv' := [(5, .int r2), (0, .ref th), (1, .int a1), (2, .ref a2), (3, .ref a3), (4, .ref a4)]) hx hb dX5_rowByMask_7 hl (by decide) rfl (fun ls hl => ?_)
  refine lv_iconst (v := 0) hx hb dX5_rowByMask_9 (by decide) ?_
  refine lv_istore (lv' := [(6, .int 0), (5, .int r2), (0, .ref th), (1, .int a1), (2, .ref a2), (3, .ref a3), (4, .ref a4)]) hx hb dX5_rowByMask_10 hl (by decide) rfl (fun ls hl => ?_)
  exact b_X5_rowByMask_12 X 5000 hI h (lv_sub hl [2, 3, 4, 5, 6, 1, 0] rfl)
abbrev rm_X5_where : Room := { frames := 5, cells := 4, slots := 249, locals := 129 }
def f_X5_where_147 (G : gG) (n : Nat) (x0 : Nat) (x7 : Int32) : Option (Int32 × gG × Nat) :=
  gck (g_isO G x0 4) <|
  gb2 (f_X5_failed G x0 (6 : Int32) x7) fun r1 G2 =>
  some (r1, G2, n)
set_option maxHeartbeats 4000000 in
set_option maxRecDepth 100000 in
theorem b_X5_where_147 {p : Program} {l : Launch} {e : Env} {s : State} {m : MethodId} {args : Array Value} {below : List Frame} {meth : Method} {c : Code} {E : gE} {G0 : gG} {n0 : Nat} (X : g_X E G0 n0 p s m args meth c cX5_where 9 RX5 "where" (some .int)) {G : gG} {n : Nat} {r : Int32} {Gr : gG} {nr : Nat} {H : Heap} {locs : List Loc} (hI : g_I E (g_A G0 n0) G n s.heap H locs) {x0 : Nat} {x7 : Int32} (h : f_X5_where_147 G n x0 x7 = some (r, Gr, nr)) {ls : Array Slot} (hl : lv_has ls 9 [(0, .ref x0), (7, .int x7)]) : W p l e rm_X5_where s m args below meth c H locs 0 0 (MQ below (g_Q E G0 n0 (some (.int r)) Gr nr) args s rm_X5_where.cells rm_X5_where.slots (g_A G0 n0)) (F0 m 147 ls []) := by
  have hx := X.1
  have hb := X.2.1
  unfold f_X5_where_147 at h
  refine lv_aload_n hx hb dX5_where_147 rfl (lv_at hl 0 rfl) ?_
  refine lv_bipush (v := 6) hx hb dX5_where_148 (by decide) ?_
  refine lv_iload hx hb dX5_where_150 (lv_at hl 1 rfl) ?_
  obtain ⟨cO, h⟩ := gck_s h
  obtain ⟨r1, G2, er1, h⟩ := gb2_s h
  refine g_callV X hI (q := (RX5, TX5, 9)) (b := x0) (av := [.int 6, .int x7]) cO rfl (c_X5_failed er1) gm_X5_failed tw_1_167 tw_1_169 tw_p_4 ⟨by decide, by decide⟩ hl.1 (rest := []) rfl (Nat.le_of_ble_eq_true rfl) dX5_where_152 ⟨by decide, by decide⟩ (st1 := [.int r1]) rfl (cells' := 0) (slots' := 0) rfl rfl (fun H locs hI => ?_)
  obtain ⟨h, h2, h3⟩ := g_sp3 h
  subst h
  subst h2
  subst h3
  refine W.widen (k := 4) (n := 249) (by decide) (by decide) ?_
  exact g_iret X hI dX5_where_155
def f_X5_where_127 (G : gG) (n : Nat) (x0 : Nat) (x4 : Nat) (x5 : Nat) (x6 : Nat) (x7 : Int32) : Option (Int32 × gG × Nat) :=
  if x7 = (-3) then
    gb (g_fA G x0 4 2) fun g1 =>
    gck (g_isO G g1 2) <|
    gb (f_X3_size G g1) fun r2 =>
    if r2 ≤ 240 then
      gb (g_fI G x5 3 0) fun v3 =>
      gb (g_fI G x6 3 0) fun v4 =>
      gl ((f_X1_joined v3 v4) : Int32) fun v5 =>
      gck (g_isO G x0 4) <|
      gb (f_X5_rowByMask G x0 v5 x4 x5 x6) fun G6 =>
      gck (g_isO G6 x0 4) <|
      gb3 (f_X5_madeOfRow G6 n x0 v5) fun r7 G8 n9 =>
      some (r7, G8, n9)
    else
    f_X5_where_147 G n x0 x7
  else
  f_X5_where_147 G n x0 x7
set_option maxHeartbeats 4000000 in
set_option maxRecDepth 100000 in
theorem b_X5_where_127 {p : Program} {l : Launch} {e : Env} {s : State} {m : MethodId} {args : Array Value} {below : List Frame} {meth : Method} {c : Code} {E : gE} {G0 : gG} {n0 : Nat} (X : g_X E G0 n0 p s m args meth c cX5_where 9 RX5 "where" (some .int)) {G : gG} {n : Nat} {r : Int32} {Gr : gG} {nr : Nat} {H : Heap} {locs : List Loc} (hI : g_I E (g_A G0 n0) G n s.heap H locs) {x0 : Nat} {x4 : Nat} {x5 : Nat} {x6 : Nat} {x7 : Int32} (h : f_X5_where_127 G n x0 x4 x5 x6 x7 = some (r, Gr, nr)) {ls : Array Slot} (hl : lv_has ls 9 [(0, .ref x0), (4, .ref x4), (5, .ref x5), (6, .ref x6), (7, .int x7)]) : W p l e rm_X5_where s m args below meth c H locs 0 0 (MQ below (g_Q E G0 n0 (some (.int r)) Gr nr) args s rm_X5_where.cells rm_X5_where.slots (g_A G0 n0)) (F0 m 127 ls []) := by
  have hx := X.1
  have hb := X.2.1
  unfold f_X5_where_127 at h
  refine lv_iload hx hb dX5_where_127 (lv_at hl 4 rfl) ?_
  refine lv_bipush (v := (-3)) hx hb dX5_where_129 (by decide) ?_
  refine lv_icmp_ne (tgt := 147) hx hb dX5_where_131 (by decide) (fun c => ?_) (fun c => ?_)
  · have h := g_f _ c h
    exact b_X5_where_147 X hI h (lv_sub hl [0, 4] rfl)
  · have h := g_t _ c h
    refine lv_aload_n hx hb dX5_where_134 rfl (lv_at hl 0 rfl) ?_
    obtain ⟨g1, eg1, h⟩ := gb_s h
    refine g_get X hI (g_fA_s eg1) (C := RX5) (T := TX5) (N := 9) rfl gu_X5 (by decide) tw_1_74 dX5_where_135 ?_
    obtain ⟨cO, h⟩ := gck_s h
    obtain ⟨r2, er2, h⟩ := gb_s h
    refine g_callV X hI (q := (RX3, TX3, 2)) (b := g1) (av := []) cO rfl (c_X3_size er2) gm_X3_size tw_1_128 tw_1_129 tw_1_130 ⟨by decide, by decide⟩ hl.1 (rest := []) rfl (Nat.le_of_ble_eq_true rfl) dX5_where_138 ⟨by decide, by decide⟩ (st1 := [.int r2]) rfl (cells' := 0) (slots' := 0) rfl rfl (fun H locs hI => ?_)
    refine lv_sipush (v := 240) hx hb dX5_where_141 (by decide) ?_
    refine lv_icmp_le (tgt := 156) hx hb dX5_where_144 (by decide) (fun c => ?_) (fun c => ?_)
    · have h := g_t _ c h
      refine lv_aload hx hb dX5_where_156 (lv_at hl 2 rfl) ?_
      obtain ⟨v3, ev3, h⟩ := gb_s h
      refine g_get X hI (g_fI_s ev3) (C := RX4) (T := TX4) (N := 4) rfl gu_X4 (by decide) tw_1_144 dX5_where_158 ?_
      refine lv_aload hx hb dX5_where_161 (lv_at hl 3 rfl) ?_
      obtain ⟨v4, ev4, h⟩ := gb_s h
      refine g_get X hI (g_fI_s ev4) (C := RX4) (T := TX4) (N := 4) rfl gu_X4 (by decide) tw_1_144 dX5_where_163 ?_
      refine g_callS X hI (av := [.int v3, .int v4]) (c_X1_joined v3 v4) gm_X1_joined tw_3_6 tw_2_2 ⟨by decide, by decide⟩ hl.1 (rest := []) rfl (Nat.le_of_ble_eq_true rfl) dX5_where_166 ⟨by decide, by decide⟩ (st1 := [.int (f_X1_joined v3 v4)]) rfl (cells' := 0) (slots' := 0) rfl rfl (fun H locs hI => ?_)
      obtain ⟨v5, ev5, h⟩ := gl_s h
      refine g_topi ev5 ?_
      refine lv_istore (lv' := [(8, .int v5), (0, .ref x0), (4, .ref x4), (5, .ref x5), (6, .ref x6), (7, .int x7)]) hx hb dX5_where_169 hl (by decide) rfl (fun ls hl => ?_)
      refine lv_aload_n hx hb dX5_where_171 rfl (lv_at hl 1 rfl) ?_
      refine lv_iload hx hb dX5_where_172 (lv_at hl 0 rfl) ?_
      refine lv_aload hx hb dX5_where_174 (lv_at hl 2 rfl) ?_
      refine lv_aload hx hb dX5_where_176 (lv_at hl 3 rfl) ?_
      refine lv_aload hx hb dX5_where_178 (lv_at hl 4 rfl) ?_
      obtain ⟨cO, h⟩ := gck_s h
      obtain ⟨G6, eG6, h⟩ := gb_s h
      refine g_callV X hI (q := (RX5, TX5, 9)) (b := x0) (av := [.int v5, .ref x4, .ref x5, .ref x6]) cO rfl (c_X5_rowByMask eG6) gm_X5_rowByMask tw_3_7 tw_3_9 tw_p_18 ⟨by decide, by decide⟩ hl.1 (rest := []) rfl (Nat.le_of_ble_eq_true rfl) dX5_where_180 ⟨by decide, by decide⟩ (st1 := []) rfl (cells' := 0) (slots' := 0) rfl rfl (fun H locs hI => ?_)
      refine lv_aload_n hx hb dX5_where_183 rfl (lv_at hl 1 rfl) ?_
      refine lv_iload hx hb dX5_where_184 (lv_at hl 0 rfl) ?_
      obtain ⟨cO, h⟩ := gck_s h
      obtain ⟨r7, G8, n9, er7, h⟩ := gb3_s h
      refine g_callV X hI (q := (RX5, TX5, 9)) (b := x0) (av := [.int v5]) cO rfl (c_X5_madeOfRow er7) gm_X5_madeOfRow tw_1_124 tw_1_126 tw_p_3 ⟨by decide, by decide⟩ hl.1 (rest := []) rfl (Nat.le_of_ble_eq_true rfl) dX5_where_186 ⟨by decide, by decide⟩ (st1 := [.int r7]) rfl (cells' := 4) (slots' := 249) rfl rfl (fun H locs hI => ?_)
      obtain ⟨h, h2, h3⟩ := g_sp3 h
      subst h
      subst h2
      subst h3
      exact g_iret X hI dX5_where_189
    · have h := g_f _ c h
      exact b_X5_where_147 X hI h (lv_sub hl [0, 4] rfl)
def f_X5_where_72 (G : gG) (n : Nat) (x0 : Nat) : Option (Int32 × gG × Nat) :=
  gck (g_isO G x0 4) <|
  gb2 (f_X5_failed G x0 (1 : Int32) (-3 : Int32)) fun r1 G2 =>
  some (r1, G2, n)
set_option maxHeartbeats 4000000 in
set_option maxRecDepth 100000 in
theorem b_X5_where_72 {p : Program} {l : Launch} {e : Env} {s : State} {m : MethodId} {args : Array Value} {below : List Frame} {meth : Method} {c : Code} {E : gE} {G0 : gG} {n0 : Nat} (X : g_X E G0 n0 p s m args meth c cX5_where 9 RX5 "where" (some .int)) {G : gG} {n : Nat} {r : Int32} {Gr : gG} {nr : Nat} {H : Heap} {locs : List Loc} (hI : g_I E (g_A G0 n0) G n s.heap H locs) {x0 : Nat} (h : f_X5_where_72 G n x0 = some (r, Gr, nr)) {ls : Array Slot} (hl : lv_has ls 9 [(0, .ref x0)]) : W p l e rm_X5_where s m args below meth c H locs 0 0 (MQ below (g_Q E G0 n0 (some (.int r)) Gr nr) args s rm_X5_where.cells rm_X5_where.slots (g_A G0 n0)) (F0 m 72 ls []) := by
  have hx := X.1
  have hb := X.2.1
  unfold f_X5_where_72 at h
  refine lv_aload_n hx hb dX5_where_72 rfl (lv_at hl 0 rfl) ?_
  refine lv_iconst (v := 1) hx hb dX5_where_73 (by decide) ?_
  refine lv_bipush (v := (-3)) hx hb dX5_where_74 (by decide) ?_
  obtain ⟨cO, h⟩ := gck_s h
  obtain ⟨r1, G2, er1, h⟩ := gb2_s h
  refine g_callV X hI (q := (RX5, TX5, 9)) (b := x0) (av := [.int 1, .int (-3)]) cO rfl (c_X5_failed er1) gm_X5_failed tw_1_167 tw_1_169 tw_p_4 ⟨by decide, by decide⟩ hl.1 (rest := []) rfl (Nat.le_of_ble_eq_true rfl) dX5_where_76 ⟨by decide, by decide⟩ (st1 := [.int r1]) rfl (cells' := 0) (slots' := 0) rfl rfl (fun H locs hI => ?_)
  obtain ⟨h, h2, h3⟩ := g_sp3 h
  subst h
  subst h2
  subst h3
  refine W.widen (k := 4) (n := 249) (by decide) (by decide) ?_
  exact g_iret X hI dX5_where_79
def f_X5_where (G : gG) (n : Nat) (th : Nat) (a1 : Int32) (a2 : Int32) (a3 : Int32) : Option (Int32 × gG × Nat) :=
  gck (g_isO G th 4) <|
  gb (f_X5_known G th a1) fun o1 =>
  gck (g_isO G th 4) <|
  gb (f_X5_known G th a2) fun o2 =>
  gck (g_isO G th 4) <|
  gb (f_X5_known G th a3) fun o3 =>
  gnl o1 (
  some ((-1), G, n)) fun q4 =>
  gnl o2 (
  some ((-1), G, n)) fun q5 =>
  gnl o3 (
  some ((-1), G, n)) fun q6 =>
  gck (g_isO G th 4) <|
  gb (f_X5_isFull G th) fun r7 =>
  if r7 = 0 then
    gb (g_fI G q4 3 3) fun v8 =>
    if v8 = 0 then
      gb (g_fI G q5 3 3) fun v9 =>
      if v9 = 0 then
        gb (g_fI G q6 3 3) fun v10 =>
        if v10 = 0 then
          gb (g_fI G q4 3 0) fun v11 =>
          if v11 = 0 then
            gck (g_isO G th 4) <|
            gb2 (f_X5_spreadOf G th q5 q6) fun r12 G13 =>
            if r12 = (-3) then
              gb (g_fA G13 th 4 2) fun g14 =>
              gb (g_fA G13 q4 3 1) fun g15 =>
              gck (g_isO G13 g14 2) <|
              gb2 (f_X3_spreadWith G13 g14 g15) fun r16 G17 =>
              f_X5_where_127 G17 n th q4 q5 q6 r16
            else
            f_X5_where_127 G13 n th q4 q5 q6 r12
          else
          gck (g_isO G th 4) <|
          gb2 (f_X5_failed G th (4 : Int32) (-3 : Int32)) fun r18 G19 =>
          some (r18, G19, n)
        else
        f_X5_where_72 G n th
      else
      f_X5_where_72 G n th
    else
    f_X5_where_72 G n th
  else
  some ((-2), G, n)
theorem gm_X5_where : g_M yX5_where cX5_where 9 (some .int) 3 := ⟨tw_3_5, tw_1_1, by decide +kernel, Or.inl (by decide +kernel)⟩
set_option maxHeartbeats 4000000 in
set_option maxRecDepth 100000 in
theorem c_X5_where {l : Launch} {E : gE} {G : gG} {n : Nat} {th : Nat} {a1 : Int32} {a2 : Int32} {a3 : Int32} {r : Int32} {Gr : gG} {nr : Nat} (h : f_X5_where G n th a1 a2 a3 = some (r, Gr, nr)) : g_Met l yX5_where cX5_where 9 (some .int) rm_X5_where E G n [.ref th, .int a1, .int a2, .int a3] (some (.int r)) Gr nr := by
  refine g_ofW gm_X5_where (Nat.le_of_ble_eq_true rfl) ?_
  intro p e s m below meth c ls X hl hI
  have hx := X.1
  have hb := X.2.1
  have X : g_X E G n p s m _ meth c cX5_where 9 RX5 "where" (some .int) := X
  have hl : lv_has ls 9 [(0, .ref th), (1, .int a1), (2, .int a2), (3, .int a3)] := hl
  unfold f_X5_where at h
  refine lv_aload_n hx hb dX5_where_0 rfl (lv_at hl 0 rfl) ?_
  refine lv_iload_n hx hb dX5_where_1 rfl (lv_at hl 1 rfl) ?_
  obtain ⟨cO, h⟩ := gck_s h
  obtain ⟨o1, eo1, h⟩ := gb_s h
  refine g_callV X hI (q := (RX5, TX5, 9)) (b := th) (av := [.int a1]) cO rfl (c_X5_known eo1) gm_X5_known tw_1_175 tw_1_177 tw_p_5 ⟨by decide, by decide⟩ hl.1 (rest := []) rfl (Nat.le_of_ble_eq_true rfl) dX5_where_2 ⟨by decide, by decide⟩ (st1 := [va_rf o1]) rfl (cells' := 0) (slots' := 0) rfl rfl (fun H locs hI => ?_)
  refine g_aso (lv' := [(4, va_rf o1), (0, .ref th), (1, .int a1), (2, .int a2), (3, .int a3)]) hx hb dX5_where_5 hl (by decide) (by first | rfl | simp [g_rfcat]) (fun ls hl => ?_)
  refine lv_aload_n hx hb dX5_where_7 rfl (lv_at hl 1 rfl) ?_
  refine lv_iload_n hx hb dX5_where_8 rfl (lv_at hl 3 rfl) ?_
  obtain ⟨cO, h⟩ := gck_s h
  obtain ⟨o2, eo2, h⟩ := gb_s h
  refine g_callV X hI (q := (RX5, TX5, 9)) (b := th) (av := [.int a2]) cO rfl (c_X5_known eo2) gm_X5_known tw_1_175 tw_1_177 tw_p_5 ⟨by decide, by decide⟩ hl.1 (rest := []) rfl (Nat.le_of_ble_eq_true rfl) dX5_where_9 ⟨by decide, by decide⟩ (st1 := [va_rf o2]) rfl (cells' := 0) (slots' := 0) rfl rfl (fun H locs hI => ?_)
  refine g_aso (lv' := [(5, va_rf o2), (4, va_rf o1), (0, .ref th), (1, .int a1), (2, .int a2), (3, .int a3)]) hx hb dX5_where_12 hl (by decide) (by first | rfl | simp [g_rfcat]) (fun ls hl => ?_)
  refine lv_aload_n hx hb dX5_where_14 rfl (lv_at hl 2 rfl) ?_
  refine lv_iload_n hx hb dX5_where_15 rfl (lv_at hl 5 rfl) ?_
  obtain ⟨cO, h⟩ := gck_s h
  obtain ⟨o3, eo3, h⟩ := gb_s h
  refine g_callV X hI (q := (RX5, TX5, 9)) (b := th) (av := [.int a3]) cO rfl (c_X5_known eo3) gm_X5_known tw_1_175 tw_1_177 tw_p_5 ⟨by decide, by decide⟩ hl.1 (rest := []) rfl (Nat.le_of_ble_eq_true rfl) dX5_where_16 ⟨by decide, by decide⟩ (st1 := [va_rf o3]) rfl (cells' := 0) (slots' := 0) rfl rfl (fun H locs hI => ?_)
  refine g_aso (lv' := [(6, va_rf o3), (5, va_rf o2), (4, va_rf o1), (0, .ref th), (1, .int a1), (2, .int a2), (3, .int a3)]) hx hb dX5_where_19 hl (by decide) (by first | rfl | simp [g_rfcat]) (fun ls hl => ?_)
  refine g_alo hx hb dX5_where_21 (lv_at hl 2 rfl) ?_
  rcases o1 with _ | q4
  · have h := gnl_n h
    have hl : lv_has ls 9 [(6, va_rf o3), (5, va_rf o2), (4, .null), (0, .ref th), (1, .int a1), (2, .int a2), (3, .int a3)] := hl
    refine lv_ifnullN (tgt := 36) hx hb dX5_where_23 (by decide) ?_
    refine lv_iconst (v := (-1)) hx hb dX5_where_36 (by decide) ?_
    obtain ⟨h, h2, h3⟩ := g_sp3 h
    subst h
    subst h2
    subst h3
    refine W.widen (k := 4) (n := 249) (by decide) (by decide) ?_
    exact g_iret X hI dX5_where_37
  · have h := gnl_a h
    have hl : lv_has ls 9 [(6, va_rf o3), (5, va_rf o2), (4, .ref q4), (0, .ref th), (1, .int a1), (2, .int a2), (3, .int a3)] := hl
    refine lv_ifnull hx hb dX5_where_23 ?_
    refine g_alo hx hb dX5_where_26 (lv_at hl 1 rfl) ?_
    rcases o2 with _ | q5
    · have h := gnl_n h
      have hl : lv_has ls 9 [(6, va_rf o3), (5, .null), (4, .ref q4), (0, .ref th), (1, .int a1), (2, .int a2), (3, .int a3)] := hl
      refine lv_ifnullN (tgt := 36) hx hb dX5_where_28 (by decide) ?_
      refine lv_iconst (v := (-1)) hx hb dX5_where_36 (by decide) ?_
      obtain ⟨h, h2, h3⟩ := g_sp3 h
      subst h
      subst h2
      subst h3
      refine W.widen (k := 4) (n := 249) (by decide) (by decide) ?_
      exact g_iret X hI dX5_where_37
    · have h := gnl_a h
      have hl : lv_has ls 9 [(6, va_rf o3), (5, .ref q5), (4, .ref q4), (0, .ref th), (1, .int a1), (2, .int a2), (3, .int a3)] := hl
      refine lv_ifnull hx hb dX5_where_28 ?_
      refine g_alo hx hb dX5_where_31 (lv_at hl 0 rfl) ?_
      rcases o3 with _ | q6
      · have h := gnl_n h
        have hl : lv_has ls 9 [(6, .null), (5, .ref q5), (4, .ref q4), (0, .ref th), (1, .int a1), (2, .int a2), (3, .int a3)] := hl
        refine lv_ifnonnullN hx hb dX5_where_33 ?_
        refine lv_iconst (v := (-1)) hx hb dX5_where_36 (by decide) ?_
        obtain ⟨h, h2, h3⟩ := g_sp3 h
        subst h
        subst h2
        subst h3
        refine W.widen (k := 4) (n := 249) (by decide) (by decide) ?_
        exact g_iret X hI dX5_where_37
      · have h := gnl_a h
        have hl : lv_has ls 9 [(6, .ref q6), (5, .ref q5), (4, .ref q4), (0, .ref th), (1, .int a1), (2, .int a2), (3, .int a3)] := hl
        refine lv_ifnonnull (tgt := 38) hx hb dX5_where_33 (by decide) ?_
        refine lv_aload_n hx hb dX5_where_38 rfl (lv_at hl 3 rfl) ?_
        obtain ⟨cO, h⟩ := gck_s h
        obtain ⟨r7, er7, h⟩ := gb_s h
        refine g_callV X hI (q := (RX5, TX5, 9)) (b := th) (av := []) cO rfl (c_X5_isFull er7) gm_X5_isFull tw_1_108 tw_1_110 tw_p_0 ⟨by decide, by decide⟩ hl.1 (rest := []) rfl (Nat.le_of_ble_eq_true rfl) dX5_where_39 ⟨by decide, by decide⟩ (st1 := [.int r7]) rfl (cells' := 0) (slots' := 0) rfl rfl (fun H locs hI => ?_)
        refine lv_if_eq (tgt := 48) hx hb dX5_where_42 (by decide) (fun c => ?_) (fun c => ?_)
        · have h := g_t _ c h
          refine lv_aload hx hb dX5_where_48 (lv_at hl 2 rfl) ?_
          obtain ⟨v8, ev8, h⟩ := gb_s h
          refine g_get X hI (g_fI_s ev8) (C := RX4) (T := TX4) (N := 4) rfl gu_X4 (by decide) tw_1_150 dX5_where_50 ?_
          refine lv_if_ne (tgt := 72) hx hb dX5_where_53 (by decide) (fun c => ?_) (fun c => ?_)
          · have h := g_f _ c h
            exact b_X5_where_72 X hI h (lv_sub hl [3] rfl)
          · have h := g_t _ c h
            refine lv_aload hx hb dX5_where_56 (lv_at hl 1 rfl) ?_
            obtain ⟨v9, ev9, h⟩ := gb_s h
            refine g_get X hI (g_fI_s ev9) (C := RX4) (T := TX4) (N := 4) rfl gu_X4 (by decide) tw_1_150 dX5_where_58 ?_
            refine lv_if_ne (tgt := 72) hx hb dX5_where_61 (by decide) (fun c => ?_) (fun c => ?_)
            · have h := g_f _ c h
              exact b_X5_where_72 X hI h (lv_sub hl [3] rfl)
            · have h := g_t _ c h
              refine lv_aload hx hb dX5_where_64 (lv_at hl 0 rfl) ?_
              obtain ⟨v10, ev10, h⟩ := gb_s h
              refine g_get X hI (g_fI_s ev10) (C := RX4) (T := TX4) (N := 4) rfl gu_X4 (by decide) tw_1_150 dX5_where_66 ?_
              refine lv_if_eq (tgt := 80) hx hb dX5_where_69 (by decide) (fun c => ?_) (fun c => ?_)
              · have h := g_t _ c h
                refine lv_aload hx hb dX5_where_80 (lv_at hl 2 rfl) ?_
                obtain ⟨v11, ev11, h⟩ := gb_s h
                refine g_get X hI (g_fI_s ev11) (C := RX4) (T := TX4) (N := 4) rfl gu_X4 (by decide) tw_1_144 dX5_where_82 ?_
                refine lv_if_eq (tgt := 96) hx hb dX5_where_85 (by decide) (fun c => ?_) (fun c => ?_)
                · have h := g_t _ c h
                  refine lv_aload_n hx hb dX5_where_96 rfl (lv_at hl 3 rfl) ?_
                  refine lv_aload hx hb dX5_where_97 (lv_at hl 1 rfl) ?_
                  refine lv_aload hx hb dX5_where_99 (lv_at hl 0 rfl) ?_
                  obtain ⟨cO, h⟩ := gck_s h
                  obtain ⟨r12, G13, er12, h⟩ := gb2_s h
                  refine g_callV X hI (q := (RX5, TX5, 9)) (b := th) (av := [.ref q5, .ref q6]) cO rfl (c_X5_spreadOf er12) gm_X5_spreadOf tw_2_16 tw_2_18 tw_p_6 ⟨by decide, by decide⟩ hl.1 (rest := []) rfl (Nat.le_of_ble_eq_true rfl) dX5_where_101 ⟨by decide, by decide⟩ (st1 := [.int r12]) rfl (cells' := 0) (slots' := 0) rfl rfl (fun H locs hI => ?_)
                  refine lv_istore (lv' := [(7, .int r12), (6, .ref q6), (5, .ref q5), (4, .ref q4), (0, .ref th), (1, .int a1), (2, .int a2), (3, .int a3)]) hx hb dX5_where_104 hl (by decide) rfl (fun ls hl => ?_)
                  refine lv_iload hx hb dX5_where_106 (lv_at hl 0 rfl) ?_
                  refine lv_bipush (v := (-3)) hx hb dX5_where_108 (by decide) ?_
                  refine lv_icmp_ne (tgt := 127) hx hb dX5_where_110 (by decide) (fun c => ?_) (fun c => ?_)
                  · have h := g_f _ c h
                    exact b_X5_where_127 X hI h (lv_sub hl [4, 3, 2, 1, 0] rfl)
                  · have h := g_t _ c h
                    refine lv_aload_n hx hb dX5_where_113 rfl (lv_at hl 4 rfl) ?_
                    obtain ⟨g14, eg14, h⟩ := gb_s h
                    refine g_get X hI (g_fA_s eg14) (C := RX5) (T := TX5) (N := 9) rfl gu_X5 (by decide) tw_1_74 dX5_where_114 ?_
                    refine lv_aload hx hb dX5_where_117 (lv_at hl 3 rfl) ?_
                    obtain ⟨g15, eg15, h⟩ := gb_s h
                    refine g_get X hI (g_fA_s eg15) (C := RX4) (T := TX4) (N := 4) rfl gu_X4 (by decide) tw_1_146 dX5_where_119 ?_
                    obtain ⟨cO, h⟩ := gck_s h
                    obtain ⟨r16, G17, er16, h⟩ := gb2_s h
                    refine g_callV X hI (q := (RX3, TX3, 2)) (b := g14) (av := [.ref g15]) cO rfl (c_X3_spreadWith er16) gm_X3_spreadWith tw_2_21 tw_2_22 tw_2_23 ⟨by decide, by decide⟩ hl.1 (rest := []) rfl (Nat.le_of_ble_eq_true rfl) dX5_where_122 ⟨by decide, by decide⟩ (st1 := [.int r16]) rfl (cells' := 0) (slots' := 0) rfl rfl (fun H locs hI => ?_)
                    refine lv_istore (lv' := [(7, .int r16), (6, .ref q6), (5, .ref q5), (4, .ref q4), (0, .ref th), (1, .int a1), (2, .int a2), (3, .int a3)]) hx hb dX5_where_125 hl (by decide) rfl (fun ls hl => ?_)
                    exact b_X5_where_127 X hI h (lv_sub hl [4, 3, 2, 1, 0] rfl)
                · have h := g_f _ c h
                  refine lv_aload_n hx hb dX5_where_88 rfl (lv_at hl 3 rfl) ?_
                  refine lv_iconst (v := 4) hx hb dX5_where_89 (by decide) ?_
                  refine lv_bipush (v := (-3)) hx hb dX5_where_90 (by decide) ?_
                  obtain ⟨cO, h⟩ := gck_s h
                  obtain ⟨r18, G19, er18, h⟩ := gb2_s h
                  refine g_callV X hI (q := (RX5, TX5, 9)) (b := th) (av := [.int 4, .int (-3)]) cO rfl (c_X5_failed er18) gm_X5_failed tw_1_167 tw_1_169 tw_p_4 ⟨by decide, by decide⟩ hl.1 (rest := []) rfl (Nat.le_of_ble_eq_true rfl) dX5_where_92 ⟨by decide, by decide⟩ (st1 := [.int r18]) rfl (cells' := 0) (slots' := 0) rfl rfl (fun H locs hI => ?_)
                  obtain ⟨h, h2, h3⟩ := g_sp3 h
                  subst h
                  subst h2
                  subst h3
                  refine W.widen (k := 4) (n := 249) (by decide) (by decide) ?_
                  exact g_iret X hI dX5_where_95
              · have h := g_f _ c h
                exact b_X5_where_72 X hI h (lv_sub hl [3] rfl)
        · have h := g_f _ c h
          refine lv_bipush (v := (-2)) hx hb dX5_where_45 (by decide) ?_
          obtain ⟨h, h2, h3⟩ := g_sp3 h
          subst h
          subst h2
          subst h3
          refine W.widen (k := 4) (n := 249) (by decide) (by decide) ?_
          exact g_iret X hI dX5_where_47
abbrev rm_X5_copy : Room := { frames := 1, cells := 0, slots := 0, locals := 60 }
def f_X5_copy_112 (G : gG) (x0 : Nat) : Option (Int32 × gG) :=
  gck (g_isO G x0 4) <|
  gb2 (f_X5_failed G x0 (2 : Int32) (-3 : Int32)) fun r1 G2 =>
  some (r1, G2)
set_option maxHeartbeats 4000000 in
set_option maxRecDepth 100000 in
theorem b_X5_copy_112 {p : Program} {l : Launch} {e : Env} {s : State} {m : MethodId} {args : Array Value} {below : List Frame} {meth : Method} {c : Code} {E : gE} {G0 : gG} {n0 : Nat} (X : g_X E G0 n0 p s m args meth c cX5_copy 8 RX5 "copy" (some .int)) {G : gG} {n : Nat} {r : Int32} {Gr : gG} {H : Heap} {locs : List Loc} (hI : g_I E (g_A G0 n0) G n s.heap H locs) {x0 : Nat} (h : f_X5_copy_112 G x0 = some (r, Gr)) {ls : Array Slot} (hl : lv_has ls 8 [(0, .ref x0)]) : W p l e rm_X5_copy s m args below meth c H locs 0 0 (MQ below (g_Q E G0 n0 (some (.int r)) Gr n) args s rm_X5_copy.cells rm_X5_copy.slots (g_A G0 n0)) (F0 m 112 ls []) := by
  have hx := X.1
  have hb := X.2.1
  unfold f_X5_copy_112 at h
  refine lv_aload_n hx hb dX5_copy_112 rfl (lv_at hl 0 rfl) ?_
  refine lv_iconst (v := 2) hx hb dX5_copy_113 (by decide) ?_
  refine lv_bipush (v := (-3)) hx hb dX5_copy_114 (by decide) ?_
  obtain ⟨cO, h⟩ := gck_s h
  obtain ⟨r1, G2, er1, h⟩ := gb2_s h
  refine g_callV X hI (q := (RX5, TX5, 9)) (b := x0) (av := [.int 2, .int (-3)]) cO rfl (c_X5_failed er1) gm_X5_failed tw_1_167 tw_1_169 tw_p_4 ⟨by decide, by decide⟩ hl.1 (rest := []) rfl (Nat.le_of_ble_eq_true rfl) dX5_copy_116 ⟨by decide, by decide⟩ (st1 := [.int r1]) rfl (cells' := 0) (slots' := 0) rfl rfl (fun H locs hI => ?_)
  obtain ⟨h, h2⟩ := g_sp2 h
  subst h
  subst h2
  exact g_iret X hI dX5_copy_119
def f_X5_copy_42 (G : gG) (x0 : Nat) : Option (Int32 × gG) :=
  gck (g_isO G x0 4) <|
  gb2 (f_X5_failed G x0 (1 : Int32) (-3 : Int32)) fun r1 G2 =>
  some (r1, G2)
set_option maxHeartbeats 4000000 in
set_option maxRecDepth 100000 in
theorem b_X5_copy_42 {p : Program} {l : Launch} {e : Env} {s : State} {m : MethodId} {args : Array Value} {below : List Frame} {meth : Method} {c : Code} {E : gE} {G0 : gG} {n0 : Nat} (X : g_X E G0 n0 p s m args meth c cX5_copy 8 RX5 "copy" (some .int)) {G : gG} {n : Nat} {r : Int32} {Gr : gG} {H : Heap} {locs : List Loc} (hI : g_I E (g_A G0 n0) G n s.heap H locs) {x0 : Nat} (h : f_X5_copy_42 G x0 = some (r, Gr)) {ls : Array Slot} (hl : lv_has ls 8 [(0, .ref x0)]) : W p l e rm_X5_copy s m args below meth c H locs 0 0 (MQ below (g_Q E G0 n0 (some (.int r)) Gr n) args s rm_X5_copy.cells rm_X5_copy.slots (g_A G0 n0)) (F0 m 42 ls []) := by
  have hx := X.1
  have hb := X.2.1
  unfold f_X5_copy_42 at h
  refine lv_aload_n hx hb dX5_copy_42 rfl (lv_at hl 0 rfl) ?_
  refine lv_iconst (v := 1) hx hb dX5_copy_43 (by decide) ?_
  refine lv_bipush (v := (-3)) hx hb dX5_copy_44 (by decide) ?_
  obtain ⟨cO, h⟩ := gck_s h
  obtain ⟨r1, G2, er1, h⟩ := gb2_s h
  refine g_callV X hI (q := (RX5, TX5, 9)) (b := x0) (av := [.int 1, .int (-3)]) cO rfl (c_X5_failed er1) gm_X5_failed tw_1_167 tw_1_169 tw_p_4 ⟨by decide, by decide⟩ hl.1 (rest := []) rfl (Nat.le_of_ble_eq_true rfl) dX5_copy_46 ⟨by decide, by decide⟩ (st1 := [.int r1]) rfl (cells' := 0) (slots' := 0) rfl rfl (fun H locs hI => ?_)
  obtain ⟨h, h2⟩ := g_sp2 h
  subst h
  subst h2
  exact g_iret X hI dX5_copy_49
def f_X5_copy (G : gG) (th : Nat) (a1 : Int32) (a2 : Int32) (a3 : Int32) (a4 : Int32) (a5 : Int32) : Option (Int32 × gG) :=
  gck (g_isO G th 4) <|
  gb (f_X5_known G th a1) fun o1 =>
  gck (g_isO G th 4) <|
  gb (f_X5_known G th a3) fun o2 =>
  gnl o1 (
  some ((-1), G)) fun q3 =>
  gnl o2 (
  some ((-1), G)) fun q4 =>
  gb (g_fI G q3 3 3) fun v5 =>
  if v5 = 0 then
    gb (g_fI G q4 3 3) fun v6 =>
    if v6 = 0 then
      gb (g_fI G q3 3 0) fun v7 =>
      gb (g_fI G q4 3 0) fun v8 =>
      if v7 = v8 then
        if a2 < 0 then
          f_X5_copy_112 G th
        else
        if a4 < 0 then
          f_X5_copy_112 G th
        else
        if a5 < 0 then
          f_X5_copy_112 G th
        else
        gb (g_fA G q3 3 2) fun g9 =>
        gb (g_len G g9) fun v10 =>
        if (v10 - a2) < a5 then
          f_X5_copy_112 G th
        else
        gb (g_fA G q4 3 2) fun g11 =>
        gb (g_len G g11) fun v12 =>
        if a5 ≤ (v12 - a4) then
          gb (g_fA G q3 3 2) fun g13 =>
          gb (g_fA G q4 3 2) fun g14 =>
          gb (g_cp G g13 a2 g14 a4 a5) fun G15 =>
          some (a5, G15)
        else
        f_X5_copy_112 G th
      else
      gck (g_isO G th 4) <|
      gb2 (f_X5_failed G th (4 : Int32) (-3 : Int32)) fun r16 G17 =>
      some (r16, G17)
    else
    f_X5_copy_42 G th
  else
  f_X5_copy_42 G th
theorem gm_X5_copy : g_M yX5_copy cX5_copy 8 (some .int) 5 := ⟨tw_3_14, tw_1_1, by decide +kernel, Or.inl (by decide +kernel)⟩
set_option maxHeartbeats 4000000 in
set_option maxRecDepth 100000 in
theorem c_X5_copy {l : Launch} {E : gE} {G : gG} {n : Nat} {th : Nat} {a1 : Int32} {a2 : Int32} {a3 : Int32} {a4 : Int32} {a5 : Int32} {r : Int32} {Gr : gG} (h : f_X5_copy G th a1 a2 a3 a4 a5 = some (r, Gr)) : g_Met l yX5_copy cX5_copy 8 (some .int) rm_X5_copy E G n [.ref th, .int a1, .int a2, .int a3, .int a4, .int a5] (some (.int r)) Gr n := by
  refine g_ofW gm_X5_copy (Nat.le_of_ble_eq_true rfl) ?_
  intro p e s m below meth c ls X hl hI
  have hx := X.1
  have hb := X.2.1
  have X : g_X E G n p s m _ meth c cX5_copy 8 RX5 "copy" (some .int) := X
  have hl : lv_has ls 8 [(0, .ref th), (1, .int a1), (2, .int a2), (3, .int a3), (4, .int a4), (5, .int a5)] := hl
  unfold f_X5_copy at h
  refine lv_aload_n hx hb dX5_copy_0 rfl (lv_at hl 0 rfl) ?_
  refine lv_iload_n hx hb dX5_copy_1 rfl (lv_at hl 1 rfl) ?_
  obtain ⟨cO, h⟩ := gck_s h
  obtain ⟨o1, eo1, h⟩ := gb_s h
  refine g_callV X hI (q := (RX5, TX5, 9)) (b := th) (av := [.int a1]) cO rfl (c_X5_known eo1) gm_X5_known tw_1_175 tw_1_177 tw_p_5 ⟨by decide, by decide⟩ hl.1 (rest := []) rfl (Nat.le_of_ble_eq_true rfl) dX5_copy_2 ⟨by decide, by decide⟩ (st1 := [va_rf o1]) rfl (cells' := 0) (slots' := 0) rfl rfl (fun H locs hI => ?_)
  refine g_aso (lv' := [(6, va_rf o1), (0, .ref th), (1, .int a1), (2, .int a2), (3, .int a3), (4, .int a4), (5, .int a5)]) hx hb dX5_copy_5 hl (by decide) (by first | rfl | simp [g_rfcat]) (fun ls hl => ?_)
  refine lv_aload_n hx hb dX5_copy_7 rfl (lv_at hl 1 rfl) ?_
  refine lv_iload_n hx hb dX5_copy_8 rfl (lv_at hl 4 rfl) ?_
  obtain ⟨cO, h⟩ := gck_s h
  obtain ⟨o2, eo2, h⟩ := gb_s h
  refine g_callV X hI (q := (RX5, TX5, 9)) (b := th) (av := [.int a3]) cO rfl (c_X5_known eo2) gm_X5_known tw_1_175 tw_1_177 tw_p_5 ⟨by decide, by decide⟩ hl.1 (rest := []) rfl (Nat.le_of_ble_eq_true rfl) dX5_copy_9 ⟨by decide, by decide⟩ (st1 := [va_rf o2]) rfl (cells' := 0) (slots' := 0) rfl rfl (fun H locs hI => ?_)
  refine g_aso (lv' := [(7, va_rf o2), (6, va_rf o1), (0, .ref th), (1, .int a1), (2, .int a2), (3, .int a3), (4, .int a4), (5, .int a5)]) hx hb dX5_copy_12 hl (by decide) (by first | rfl | simp [g_rfcat]) (fun ls hl => ?_)
  refine g_alo hx hb dX5_copy_14 (lv_at hl 1 rfl) ?_
  rcases o1 with _ | q3
  · have h := gnl_n h
    have hl : lv_has ls 8 [(7, va_rf o2), (6, .null), (0, .ref th), (1, .int a1), (2, .int a2), (3, .int a3), (4, .int a4), (5, .int a5)] := hl
    refine lv_ifnullN (tgt := 24) hx hb dX5_copy_16 (by decide) ?_
    refine lv_iconst (v := (-1)) hx hb dX5_copy_24 (by decide) ?_
    obtain ⟨h, h2⟩ := g_sp2 h
    subst h
    subst h2
    exact g_iret X hI dX5_copy_25
  · have h := gnl_a h
    have hl : lv_has ls 8 [(7, va_rf o2), (6, .ref q3), (0, .ref th), (1, .int a1), (2, .int a2), (3, .int a3), (4, .int a4), (5, .int a5)] := hl
    refine lv_ifnull hx hb dX5_copy_16 ?_
    refine g_alo hx hb dX5_copy_19 (lv_at hl 0 rfl) ?_
    rcases o2 with _ | q4
    · have h := gnl_n h
      have hl : lv_has ls 8 [(7, .null), (6, .ref q3), (0, .ref th), (1, .int a1), (2, .int a2), (3, .int a3), (4, .int a4), (5, .int a5)] := hl
      refine lv_ifnonnullN hx hb dX5_copy_21 ?_
      refine lv_iconst (v := (-1)) hx hb dX5_copy_24 (by decide) ?_
      obtain ⟨h, h2⟩ := g_sp2 h
      subst h
      subst h2
      exact g_iret X hI dX5_copy_25
    · have h := gnl_a h
      have hl : lv_has ls 8 [(7, .ref q4), (6, .ref q3), (0, .ref th), (1, .int a1), (2, .int a2), (3, .int a3), (4, .int a4), (5, .int a5)] := hl
      refine lv_ifnonnull (tgt := 26) hx hb dX5_copy_21 (by decide) ?_
      refine lv_aload hx hb dX5_copy_26 (lv_at hl 1 rfl) ?_
      obtain ⟨v5, ev5, h⟩ := gb_s h
      refine g_get X hI (g_fI_s ev5) (C := RX4) (T := TX4) (N := 4) rfl gu_X4 (by decide) tw_1_150 dX5_copy_28 ?_
      refine lv_if_ne (tgt := 42) hx hb dX5_copy_31 (by decide) (fun c => ?_) (fun c => ?_)
      · have h := g_f _ c h
        exact b_X5_copy_42 X hI h (lv_sub hl [2] rfl)
      · have h := g_t _ c h
        refine lv_aload hx hb dX5_copy_34 (lv_at hl 0 rfl) ?_
        obtain ⟨v6, ev6, h⟩ := gb_s h
        refine g_get X hI (g_fI_s ev6) (C := RX4) (T := TX4) (N := 4) rfl gu_X4 (by decide) tw_1_150 dX5_copy_36 ?_
        refine lv_if_eq (tgt := 50) hx hb dX5_copy_39 (by decide) (fun c => ?_) (fun c => ?_)
        · have h := g_t _ c h
          refine lv_aload hx hb dX5_copy_50 (lv_at hl 1 rfl) ?_
          obtain ⟨v7, ev7, h⟩ := gb_s h
          refine g_get X hI (g_fI_s ev7) (C := RX4) (T := TX4) (N := 4) rfl gu_X4 (by decide) tw_1_144 dX5_copy_52 ?_
          refine lv_aload hx hb dX5_copy_55 (lv_at hl 0 rfl) ?_
          obtain ⟨v8, ev8, h⟩ := gb_s h
          refine g_get X hI (g_fI_s ev8) (C := RX4) (T := TX4) (N := 4) rfl gu_X4 (by decide) tw_1_144 dX5_copy_57 ?_
          refine lv_icmp_eq (tgt := 71) hx hb dX5_copy_60 (by decide) (fun c => ?_) (fun c => ?_)
          · have h := g_t _ c h
            refine lv_iload_n hx hb dX5_copy_71 rfl (lv_at hl 4 rfl) ?_
            refine lv_if_lt (tgt := 112) hx hb dX5_copy_72 (by decide) (fun c => ?_) (fun c => ?_)
            · have h := g_t _ c h
              exact b_X5_copy_112 X hI h (lv_sub hl [2] rfl)
            · have h := g_f _ c h
              refine lv_iload hx hb dX5_copy_75 (lv_at hl 6 rfl) ?_
              refine lv_if_lt (tgt := 112) hx hb dX5_copy_77 (by decide) (fun c => ?_) (fun c => ?_)
              · have h := g_t _ c h
                exact b_X5_copy_112 X hI h (lv_sub hl [2] rfl)
              · have h := g_f _ c h
                refine lv_iload hx hb dX5_copy_80 (lv_at hl 7 rfl) ?_
                refine lv_if_lt (tgt := 112) hx hb dX5_copy_82 (by decide) (fun c => ?_) (fun c => ?_)
                · have h := g_t _ c h
                  exact b_X5_copy_112 X hI h (lv_sub hl [2] rfl)
                · have h := g_f _ c h
                  refine lv_iload hx hb dX5_copy_85 (lv_at hl 7 rfl) ?_
                  refine lv_aload hx hb dX5_copy_87 (lv_at hl 1 rfl) ?_
                  obtain ⟨g9, eg9, h⟩ := gb_s h
                  refine g_get X hI (g_fA_s eg9) (C := RX4) (T := TX4) (N := 4) rfl gu_X4 (by decide) tw_1_148 dX5_copy_89 ?_
                  obtain ⟨v10, ev10, h⟩ := gb_s h
                  refine g_alen X hI ev10 dX5_copy_92 ?_
                  refine lv_iload_n hx hb dX5_copy_93 rfl (lv_at hl 4 rfl) ?_
                  refine lv_isub (x := v10) (y := a2) hx hb dX5_copy_94 ?_
                  refine lv_icmp_gt (tgt := 112) hx hb dX5_copy_95 (by decide) (fun c => ?_) (fun c => ?_)
                  · have h := g_t _ c h
                    exact b_X5_copy_112 X hI h (lv_sub hl [2] rfl)
                  · have h := g_f _ c h
                    refine lv_iload hx hb dX5_copy_98 (lv_at hl 7 rfl) ?_
                    refine lv_aload hx hb dX5_copy_100 (lv_at hl 0 rfl) ?_
                    obtain ⟨g11, eg11, h⟩ := gb_s h
                    refine g_get X hI (g_fA_s eg11) (C := RX4) (T := TX4) (N := 4) rfl gu_X4 (by decide) tw_1_148 dX5_copy_102 ?_
                    obtain ⟨v12, ev12, h⟩ := gb_s h
                    refine g_alen X hI ev12 dX5_copy_105 ?_
                    refine lv_iload hx hb dX5_copy_106 (lv_at hl 6 rfl) ?_
                    refine lv_isub (x := v12) (y := a4) hx hb dX5_copy_108 ?_
                    refine lv_icmp_le (tgt := 120) hx hb dX5_copy_109 (by decide) (fun c => ?_) (fun c => ?_)
                    · have h := g_t _ c h
                      refine lv_aload hx hb dX5_copy_120 (lv_at hl 1 rfl) ?_
                      obtain ⟨g13, eg13, h⟩ := gb_s h
                      refine g_get X hI (g_fA_s eg13) (C := RX4) (T := TX4) (N := 4) rfl gu_X4 (by decide) tw_1_148 dX5_copy_122 ?_
                      refine lv_iload_n hx hb dX5_copy_125 rfl (lv_at hl 4 rfl) ?_
                      refine lv_aload hx hb dX5_copy_126 (lv_at hl 0 rfl) ?_
                      obtain ⟨g14, eg14, h⟩ := gb_s h
                      refine g_get X hI (g_fA_s eg14) (C := RX4) (T := TX4) (N := 4) rfl gu_X4 (by decide) tw_1_148 dX5_copy_128 ?_
                      refine lv_iload hx hb dX5_copy_131 (lv_at hl 6 rfl) ?_
                      refine lv_iload hx hb dX5_copy_133 (lv_at hl 7 rfl) ?_
                      obtain ⟨G15, eG15, h⟩ := gb_s h
                      refine g_cpl X hI (G' := G15) eG15 hl.1 tw_1_160 tw_1_162 tw_1_161 tw_1_8 (by decide) (by decide +kernel) dX5_copy_135 (fun H locs hI => ?_)
                      refine lv_iload hx hb dX5_copy_138 (lv_at hl 7 rfl) ?_
                      obtain ⟨h, h2⟩ := g_sp2 h
                      subst h
                      subst h2
                      exact g_iret X hI dX5_copy_140
                    · have h := g_f _ c h
                      exact b_X5_copy_112 X hI h (lv_sub hl [2] rfl)
          · have h := g_f _ c h
            refine lv_aload_n hx hb dX5_copy_63 rfl (lv_at hl 2 rfl) ?_
            refine lv_iconst (v := 4) hx hb dX5_copy_64 (by decide) ?_
            refine lv_bipush (v := (-3)) hx hb dX5_copy_65 (by decide) ?_
            obtain ⟨cO, h⟩ := gck_s h
            obtain ⟨r16, G17, er16, h⟩ := gb2_s h
            refine g_callV X hI (q := (RX5, TX5, 9)) (b := th) (av := [.int 4, .int (-3)]) cO rfl (c_X5_failed er16) gm_X5_failed tw_1_167 tw_1_169 tw_p_4 ⟨by decide, by decide⟩ hl.1 (rest := []) rfl (Nat.le_of_ble_eq_true rfl) dX5_copy_67 ⟨by decide, by decide⟩ (st1 := [.int r16]) rfl (cells' := 0) (slots' := 0) rfl rfl (fun H locs hI => ?_)
            obtain ⟨h, h2⟩ := g_sp2 h
            subst h
            subst h2
            exact g_iret X hI dX5_copy_70
        · have h := g_f _ c h
          exact b_X5_copy_42 X hI h (lv_sub hl [2] rfl)
abbrev rm_X5_same : Room := { frames := 3, cells := 0, slots := 0, locals := 64 }
def f_X5_same_39 (G : gG) (x0 : Nat) : Option (Int32 × gG) :=
  gck (g_isO G x0 4) <|
  gb2 (f_X5_failed G x0 (1 : Int32) (-3 : Int32)) fun r1 G2 =>
  some (r1, G2)
set_option maxHeartbeats 4000000 in
set_option maxRecDepth 100000 in
theorem b_X5_same_39 {p : Program} {l : Launch} {e : Env} {s : State} {m : MethodId} {args : Array Value} {below : List Frame} {meth : Method} {c : Code} {E : gE} {G0 : gG} {n0 : Nat} (X : g_X E G0 n0 p s m args meth c cX5_same 5 RX5 "same" (some .int)) {G : gG} {n : Nat} {r : Int32} {Gr : gG} {H : Heap} {locs : List Loc} (hI : g_I E (g_A G0 n0) G n s.heap H locs) {x0 : Nat} (h : f_X5_same_39 G x0 = some (r, Gr)) {ls : Array Slot} (hl : lv_has ls 5 [(0, .ref x0)]) : W p l e rm_X5_same s m args below meth c H locs 0 0 (MQ below (g_Q E G0 n0 (some (.int r)) Gr n) args s rm_X5_same.cells rm_X5_same.slots (g_A G0 n0)) (F0 m 39 ls []) := by
  have hx := X.1
  have hb := X.2.1
  unfold f_X5_same_39 at h
  refine lv_aload_n hx hb dX5_same_39 rfl (lv_at hl 0 rfl) ?_
  refine lv_iconst (v := 1) hx hb dX5_same_40 (by decide) ?_
  refine lv_bipush (v := (-3)) hx hb dX5_same_41 (by decide) ?_
  obtain ⟨cO, h⟩ := gck_s h
  obtain ⟨r1, G2, er1, h⟩ := gb2_s h
  refine g_callV X hI (q := (RX5, TX5, 9)) (b := x0) (av := [.int 1, .int (-3)]) cO rfl (c_X5_failed er1) gm_X5_failed tw_1_167 tw_1_169 tw_p_4 ⟨by decide, by decide⟩ hl.1 (rest := []) rfl (Nat.le_of_ble_eq_true rfl) dX5_same_43 ⟨by decide, by decide⟩ (st1 := [.int r1]) rfl (cells' := 0) (slots' := 0) rfl rfl (fun H locs hI => ?_)
  obtain ⟨h, h2⟩ := g_sp2 h
  subst h
  subst h2
  exact g_iret X hI dX5_same_46
def f_X5_same (G : gG) (th : Nat) (a1 : Int32) (a2 : Int32) : Option (Int32 × gG) :=
  gck (g_isO G th 4) <|
  gb (f_X5_known G th a1) fun o1 =>
  gck (g_isO G th 4) <|
  gb (f_X5_known G th a2) fun o2 =>
  gnl o1 (
  some ((-1), G)) fun q3 =>
  gnl o2 (
  some ((-1), G)) fun q4 =>
  gb (g_fI G q3 3 3) fun v5 =>
  if v5 = 0 then
    gb (g_fI G q4 3 3) fun v6 =>
    if v6 = 0 then
      gck (g_isO G q3 3) <|
      gb (f_X4_isLike G q3 q4) fun r7 =>
      if r7 = 0 then
        some (0, G)
      else
      some (1, G)
    else
    f_X5_same_39 G th
  else
  f_X5_same_39 G th
theorem gm_X5_same : g_M yX5_same cX5_same 5 (some .int) 2 := ⟨tw_3_18, tw_1_1, by decide +kernel, Or.inl (by decide +kernel)⟩
set_option maxHeartbeats 4000000 in
set_option maxRecDepth 100000 in
theorem c_X5_same {l : Launch} {E : gE} {G : gG} {n : Nat} {th : Nat} {a1 : Int32} {a2 : Int32} {r : Int32} {Gr : gG} (h : f_X5_same G th a1 a2 = some (r, Gr)) : g_Met l yX5_same cX5_same 5 (some .int) rm_X5_same E G n [.ref th, .int a1, .int a2] (some (.int r)) Gr n := by
  refine g_ofW gm_X5_same (Nat.le_of_ble_eq_true rfl) ?_
  intro p e s m below meth c ls X hl hI
  have hx := X.1
  have hb := X.2.1
  have X : g_X E G n p s m _ meth c cX5_same 5 RX5 "same" (some .int) := X
  have hl : lv_has ls 5 [(0, .ref th), (1, .int a1), (2, .int a2)] := hl
  unfold f_X5_same at h
  refine lv_aload_n hx hb dX5_same_0 rfl (lv_at hl 0 rfl) ?_
  refine lv_iload_n hx hb dX5_same_1 rfl (lv_at hl 1 rfl) ?_
  obtain ⟨cO, h⟩ := gck_s h
  obtain ⟨o1, eo1, h⟩ := gb_s h
  refine g_callV X hI (q := (RX5, TX5, 9)) (b := th) (av := [.int a1]) cO rfl (c_X5_known eo1) gm_X5_known tw_1_175 tw_1_177 tw_p_5 ⟨by decide, by decide⟩ hl.1 (rest := []) rfl (Nat.le_of_ble_eq_true rfl) dX5_same_2 ⟨by decide, by decide⟩ (st1 := [va_rf o1]) rfl (cells' := 0) (slots' := 0) rfl rfl (fun H locs hI => ?_)
  refine g_aso_n (lv' := [(3, va_rf o1), (0, .ref th), (1, .int a1), (2, .int a2)]) hx hb dX5_same_5 rfl hl (by decide) (by first | rfl | simp [g_rfcat]) (fun ls hl => ?_)
  refine lv_aload_n hx hb dX5_same_6 rfl (lv_at hl 1 rfl) ?_
  refine lv_iload_n hx hb dX5_same_7 rfl (lv_at hl 3 rfl) ?_
  obtain ⟨cO, h⟩ := gck_s h
  obtain ⟨o2, eo2, h⟩ := gb_s h
  refine g_callV X hI (q := (RX5, TX5, 9)) (b := th) (av := [.int a2]) cO rfl (c_X5_known eo2) gm_X5_known tw_1_175 tw_1_177 tw_p_5 ⟨by decide, by decide⟩ hl.1 (rest := []) rfl (Nat.le_of_ble_eq_true rfl) dX5_same_8 ⟨by decide, by decide⟩ (st1 := [va_rf o2]) rfl (cells' := 0) (slots' := 0) rfl rfl (fun H locs hI => ?_)
  refine g_aso (lv' := [(4, va_rf o2), (3, va_rf o1), (0, .ref th), (1, .int a1), (2, .int a2)]) hx hb dX5_same_11 hl (by decide) (by first | rfl | simp [g_rfcat]) (fun ls hl => ?_)
  refine g_alo_n hx hb dX5_same_13 rfl (lv_at hl 1 rfl) ?_
  rcases o1 with _ | q3
  · have h := gnl_n h
    have hl : lv_has ls 5 [(4, va_rf o2), (3, .null), (0, .ref th), (1, .int a1), (2, .int a2)] := hl
    refine lv_ifnullN (tgt := 22) hx hb dX5_same_14 (by decide) ?_
    refine lv_iconst (v := (-1)) hx hb dX5_same_22 (by decide) ?_
    obtain ⟨h, h2⟩ := g_sp2 h
    subst h
    subst h2
    exact g_iret X hI dX5_same_23
  · have h := gnl_a h
    have hl : lv_has ls 5 [(4, va_rf o2), (3, .ref q3), (0, .ref th), (1, .int a1), (2, .int a2)] := hl
    refine lv_ifnull hx hb dX5_same_14 ?_
    refine g_alo hx hb dX5_same_17 (lv_at hl 0 rfl) ?_
    rcases o2 with _ | q4
    · have h := gnl_n h
      have hl : lv_has ls 5 [(4, .null), (3, .ref q3), (0, .ref th), (1, .int a1), (2, .int a2)] := hl
      refine lv_ifnonnullN hx hb dX5_same_19 ?_
      refine lv_iconst (v := (-1)) hx hb dX5_same_22 (by decide) ?_
      obtain ⟨h, h2⟩ := g_sp2 h
      subst h
      subst h2
      exact g_iret X hI dX5_same_23
    · have h := gnl_a h
      have hl : lv_has ls 5 [(4, .ref q4), (3, .ref q3), (0, .ref th), (1, .int a1), (2, .int a2)] := hl
      refine lv_ifnonnull (tgt := 24) hx hb dX5_same_19 (by decide) ?_
      refine lv_aload_n hx hb dX5_same_24 rfl (lv_at hl 1 rfl) ?_
      obtain ⟨v5, ev5, h⟩ := gb_s h
      refine g_get X hI (g_fI_s ev5) (C := RX4) (T := TX4) (N := 4) rfl gu_X4 (by decide) tw_1_150 dX5_same_25 ?_
      refine lv_if_ne (tgt := 39) hx hb dX5_same_28 (by decide) (fun c => ?_) (fun c => ?_)
      · have h := g_f _ c h
        exact b_X5_same_39 X hI h (lv_sub hl [2] rfl)
      · have h := g_t _ c h
        refine lv_aload hx hb dX5_same_31 (lv_at hl 0 rfl) ?_
        obtain ⟨v6, ev6, h⟩ := gb_s h
        refine g_get X hI (g_fI_s ev6) (C := RX4) (T := TX4) (N := 4) rfl gu_X4 (by decide) tw_1_150 dX5_same_33 ?_
        refine lv_if_eq (tgt := 47) hx hb dX5_same_36 (by decide) (fun c => ?_) (fun c => ?_)
        · have h := g_t _ c h
          refine lv_aload_n hx hb dX5_same_47 rfl (lv_at hl 1 rfl) ?_
          refine lv_aload hx hb dX5_same_48 (lv_at hl 0 rfl) ?_
          obtain ⟨cO, h⟩ := gck_s h
          obtain ⟨r7, er7, h⟩ := gb_s h
          refine g_callV X hI (q := (RX4, TX4, 4)) (b := q3) (av := [.ref q4]) cO rfl (c_X4_isLike er7) gm_X4_isLike tw_3_19 tw_3_20 tw_3_21 ⟨by decide, by decide⟩ hl.1 (rest := []) rfl (Nat.le_of_ble_eq_true rfl) dX5_same_50 ⟨by decide, by decide⟩ (st1 := [.int r7]) rfl (cells' := 0) (slots' := 0) rfl rfl (fun H locs hI => ?_)
          refine lv_if_eq (tgt := 60) hx hb dX5_same_53 (by decide) (fun c => ?_) (fun c => ?_)
          · have h := g_t _ c h
            refine lv_iconst (v := 0) hx hb dX5_same_60 (by decide) ?_
            obtain ⟨h, h2⟩ := g_sp2 h
            subst h
            subst h2
            exact g_iret X hI dX5_same_61
          · have h := g_f _ c h
            refine lv_iconst (v := 1) hx hb dX5_same_56 (by decide) ?_
            refine lv_goto (tgt := 61) hx hb dX5_same_57 (by decide) ?_
            obtain ⟨h, h2⟩ := g_sp2 h
            subst h
            subst h2
            exact g_iret X hI dX5_same_61
        · have h := g_f _ c h
          exact b_X5_same_39 X hI h (lv_sub hl [2] rfl)
abbrev rm_X5_place : Room := { frames := 0, cells := 0, slots := 0, locals := 0 }
def f_X5_place (G : gG) (th : Nat) : Option Int32 :=
  gb (g_fI G th 4 8) fun v1 =>
  some v1
theorem gm_X5_place : g_M yX5_place cX5_place 1 (some .int) 0 := ⟨tw_3_27, tw_1_1, by decide +kernel, Or.inl (by decide +kernel)⟩
set_option maxHeartbeats 4000000 in
set_option maxRecDepth 100000 in
theorem c_X5_place {l : Launch} {E : gE} {G : gG} {n : Nat} {th : Nat} {r : Int32} (h : f_X5_place G th = some r) : g_Met l yX5_place cX5_place 1 (some .int) rm_X5_place E G n [.ref th] (some (.int r)) G n := by
  refine g_ofW gm_X5_place (Nat.le_of_ble_eq_true rfl) ?_
  intro p e s m below meth c ls X hl hI
  have hx := X.1
  have hb := X.2.1
  have X : g_X E G n p s m _ meth c cX5_place 1 RX5 "place" (some .int) := X
  have hl : lv_has ls 1 [(0, .ref th)] := hl
  unfold f_X5_place at h
  refine lv_aload_n hx hb dX5_place_0 rfl (lv_at hl 0 rfl) ?_
  obtain ⟨v1, ev1, h⟩ := gb_s h
  refine g_get X hI (g_fI_s ev1) (C := RX5) (T := TX5) (N := 9) rfl gu_X5 (by decide) tw_1_80 dX5_place_1 ?_
  have h := Option.some.inj h
  subst h
  exact g_iret X hI dX5_place_4
abbrev rm_X5_notGone : Room := { frames := 1, cells := 0, slots := 0, locals := 21 }
def f_X5_notGone_32 (k4 : gG → Nat → Int32 → Int32 → Option Int32) (G : gG) (x0 : Nat) (x1 : Int32) (x2 : Int32) : Option Int32 :=
  gl (x2 + 1 : Int32) fun v1 =>
  k4 G x0 x1 v1
set_option maxHeartbeats 4000000 in
set_option maxRecDepth 100000 in
theorem b_X5_notGone_32 {p : Program} {l : Launch} {e : Env} {s : State} {m : MethodId} {args : Array Value} {below : List Frame} {meth : Method} {c : Code} {E : gE} {G0 : gG} {n0 : Nat} (X : g_X E G0 n0 p s m args meth c cX5_notGone 4 RX5 "notGone" (some .int)) {G : gG} {n : Nat} {r : Int32} {k4 : gG → Nat → Int32 → Int32 → Option Int32} (hk4 : ∀ {H : Heap} {locs : List Loc} (_ : g_I E (g_A G0 n0) G n s.heap H locs) {x0 : Nat} {x1 : Int32} {x2 : Int32}  (_ : k4 G x0 x1 x2 = some r) {ls : Array Slot} (_ : lv_has ls 4 [(0, .ref x0), (1, .int x1), (2, .int x2)]), W p l e rm_X5_notGone s m args below meth c H locs 0 0 (MQ below (g_Q E G0 n0 (some (.int r)) G n) args s rm_X5_notGone.cells rm_X5_notGone.slots (g_A G0 n0)) (F0 m 4 ls [])) {H : Heap} {locs : List Loc} (hI : g_I E (g_A G0 n0) G n s.heap H locs) {x0 : Nat} {x1 : Int32} {x2 : Int32} (h : f_X5_notGone_32 k4 G x0 x1 x2 = some r) {ls : Array Slot} (hl : lv_has ls 4 [(0, .ref x0), (1, .int x1), (2, .int x2)]) : W p l e rm_X5_notGone s m args below meth c H locs 0 0 (MQ below (g_Q E G0 n0 (some (.int r)) G n) args s rm_X5_notGone.cells rm_X5_notGone.slots (g_A G0 n0)) (F0 m 32 ls []) := by
  have hx := X.1
  have hb := X.2.1
  unfold f_X5_notGone_32 at h
  obtain ⟨v1, ev1, h⟩ := gl_s h
  refine lv_iinc (v := v1) (lv' := [(2, .int v1), (0, .ref x0), (1, .int x1)]) hx hb dX5_notGone_32 hl (k := 2) rfl (by rw [← ev1]; rfl) (by decide) rfl (fun ls hl => ?_)
  refine lv_goto (tgt := 4) hx hb dX5_notGone_35 (by decide) ?_
  exact hk4 hI h (lv_sub hl [1, 2, 0] rfl)
def f_X5_notGone_4 : Nat → gG → Nat → Int32 → Int32 → Option Int32
  | 0, _, _, _, _ => none
  | fu + 1, G, x0, x1, x2 =>
    gb (g_fI G x0 4 4) fun v1 =>
    if v1 ≤ x2 then
      some x1
    else
    gck (g_isO G x0 4) <|
    gb (f_X5_known G x0 x2) fun o2 =>
    gnl o2 (
    f_X5_notGone_32 (f_X5_notGone_4 fu) G x0 x1 x2) fun q3 =>
    gb (g_fI G q3 3 3) fun v4 =>
    if v4 = 0 then
      gl (x1 + 1 : Int32) fun v5 =>
      f_X5_notGone_32 (f_X5_notGone_4 fu) G x0 v5 x2
    else
    f_X5_notGone_32 (f_X5_notGone_4 fu) G x0 x1 x2
set_option maxHeartbeats 4000000 in
set_option maxRecDepth 100000 in
theorem b_X5_notGone_4 {p : Program} {l : Launch} {e : Env} {s : State} {m : MethodId} {args : Array Value} {below : List Frame} {meth : Method} {c : Code} {E : gE} {G0 : gG} {n0 : Nat} (X : g_X E G0 n0 p s m args meth c cX5_notGone 4 RX5 "notGone" (some .int)) {G : gG} {n : Nat} {r : Int32} (fu : Nat) : ∀ {H : Heap} {locs : List Loc} (_ : g_I E (g_A G0 n0) G n s.heap H locs) {x0 : Nat} {x1 : Int32} {x2 : Int32} (_ : f_X5_notGone_4 fu G x0 x1 x2 = some r) {ls : Array Slot} (_ : lv_has ls 4 [(0, .ref x0), (1, .int x1), (2, .int x2)]), W p l e rm_X5_notGone s m args below meth c H locs 0 0 (MQ below (g_Q E G0 n0 (some (.int r)) G n) args s rm_X5_notGone.cells rm_X5_notGone.slots (g_A G0 n0)) (F0 m 4 ls []) := by
  have hx := X.1
  have hb := X.2.1
  induction fu with
  | zero =>
    intro H locs hI x0 x1 x2 h ls hl
    rw [f_X5_notGone_4] at h
    cases h
  | succ fu ih =>
    intro H locs hI x0 x1 x2 h ls hl
    rw [f_X5_notGone_4] at h
    refine lv_iload_n hx hb dX5_notGone_4 rfl (lv_at hl 2 rfl) ?_
    refine lv_aload_n hx hb dX5_notGone_5 rfl (lv_at hl 0 rfl) ?_
    obtain ⟨v1, ev1, h⟩ := gb_s h
    refine g_get X hI (g_fI_s ev1) (C := RX5) (T := TX5) (N := 9) rfl gu_X5 (by decide) tw_1_76 dX5_notGone_6 ?_
    refine lv_icmp_ge (tgt := 38) hx hb dX5_notGone_9 (by decide) (fun c => ?_) (fun c => ?_)
    · have h := g_t _ c h
      refine lv_iload_n hx hb dX5_notGone_38 rfl (lv_at hl 1 rfl) ?_
      have h := Option.some.inj h
      subst h
      exact g_iret X hI dX5_notGone_39
    · have h := g_f _ c h
      refine lv_aload_n hx hb dX5_notGone_12 rfl (lv_at hl 0 rfl) ?_
      refine lv_iload_n hx hb dX5_notGone_13 rfl (lv_at hl 2 rfl) ?_
      obtain ⟨cO, h⟩ := gck_s h
      obtain ⟨o2, eo2, h⟩ := gb_s h
      refine g_callV X hI (q := (RX5, TX5, 9)) (b := x0) (av := [.int x2]) cO rfl (c_X5_known eo2) gm_X5_known tw_1_175 tw_1_177 tw_p_5 ⟨by decide, by decide⟩ hl.1 (rest := []) rfl (Nat.le_of_ble_eq_true rfl) dX5_notGone_14 ⟨by decide, by decide⟩ (st1 := [va_rf o2]) rfl (cells' := 0) (slots' := 0) rfl rfl (fun H locs hI => ?_)
      refine g_aso_n (lv' := [(3, va_rf o2), (0, .ref x0), (1, .int x1), (2, .int x2)]) hx hb dX5_notGone_17 rfl hl (by decide) (by first | rfl | simp [g_rfcat]) (fun ls hl => ?_)
      refine g_alo_n hx hb dX5_notGone_18 rfl (lv_at hl 0 rfl) ?_
      rcases o2 with _ | q3
      · have h := gnl_n h
        have hl : lv_has ls 4 [(3, .null), (0, .ref x0), (1, .int x1), (2, .int x2)] := hl
        refine lv_ifnullN (tgt := 32) hx hb dX5_notGone_19 (by decide) ?_
        exact b_X5_notGone_32 X ih hI h (lv_sub hl [1, 2, 3] rfl)
      · have h := gnl_a h
        have hl : lv_has ls 4 [(3, .ref q3), (0, .ref x0), (1, .int x1), (2, .int x2)] := hl
        refine lv_ifnull hx hb dX5_notGone_19 ?_
        refine lv_aload_n hx hb dX5_notGone_22 rfl (lv_at hl 0 rfl) ?_
        obtain ⟨v4, ev4, h⟩ := gb_s h
        refine g_get X hI (g_fI_s ev4) (C := RX4) (T := TX4) (N := 4) rfl gu_X4 (by decide) tw_1_150 dX5_notGone_23 ?_
        refine lv_if_ne (tgt := 32) hx hb dX5_notGone_26 (by decide) (fun c => ?_) (fun c => ?_)
        · have h := g_f _ c h
          exact b_X5_notGone_32 X ih hI h (lv_sub hl [1, 2, 3] rfl)
        · have h := g_t _ c h
          obtain ⟨v5, ev5, h⟩ := gl_s h
          refine lv_iinc (v := v5) (lv' := [(1, .int v5), (3, .ref q3), (0, .ref x0), (2, .int x2)]) hx hb dX5_notGone_29 hl (k := 2) rfl (by rw [← ev5]; rfl) (by decide) rfl (fun ls hl => ?_)
          exact b_X5_notGone_32 X ih hI h (lv_sub hl [2, 0, 3] rfl)
def f_X5_notGone (G : gG) (th : Nat) : Option Int32 :=
  f_X5_notGone_4 5000 G th 0 0
theorem gm_X5_notGone : g_M yX5_notGone cX5_notGone 4 (some .int) 0 := ⟨tw_3_35, tw_1_1, by decide +kernel, Or.inl (by decide +kernel)⟩
set_option maxHeartbeats 4000000 in
set_option maxRecDepth 100000 in
theorem c_X5_notGone {l : Launch} {E : gE} {G : gG} {n : Nat} {th : Nat} {r : Int32} (h : f_X5_notGone G th = some r) : g_Met l yX5_notGone cX5_notGone 4 (some .int) rm_X5_notGone E G n [.ref th] (some (.int r)) G n := by
  refine g_ofW gm_X5_notGone (Nat.le_of_ble_eq_true rfl) ?_
  intro p e s m below meth c ls X hl hI
  have hx := X.1
  have hb := X.2.1
  have X : g_X E G n p s m _ meth c cX5_notGone 4 RX5 "notGone" (some .int) := X
  have hl : lv_has ls 4 [(0, .ref th)] := hl
  unfold f_X5_notGone at h
  refine lv_iconst (v := 0) hx hb dX5_notGone_0 (by decide) ?_
  refine lv_istore_n (lv' := [(1, .int 0), (0, .ref th)]) hx hb dX5_notGone_1 rfl hl (by decide) rfl (fun ls hl => ?_)
  refine lv_iconst (v := 0) hx hb dX5_notGone_2 (by decide) ?_
  refine lv_istore_n (lv' := [(2, .int 0), (1, .int 0), (0, .ref th)]) hx hb dX5_notGone_3 rfl hl (by decide) rfl (fun ls hl => ?_)
  exact b_X5_notGone_4 X 5000 hI h (lv_sub hl [2, 1, 0] rfl)
abbrev rm_X5_count : Room := { frames := 2, cells := 0, slots := 0, locals := 44 }
def f_X5_count (G : gG) (th : Nat) (a1 : Int32) : Option Int32 :=
  if a1 = 0 then
    gb (g_fI G th 4 4) fun v1 =>
    some v1
  else
  if a1 = 1 then
    gck (g_isO G th 4) <|
    gb (f_X5_notGone G th) fun r2 =>
    some r2
  else
  if a1 = 2 then
    gb (g_fI G th 4 6) fun v3 =>
    some v3
  else
  if a1 = 3 then
    gb (g_fI G th 4 7) fun v4 =>
    some v4
  else
  some (-1)
theorem gm_X5_count : g_M yX5_count cX5_count 2 (some .int) 1 := ⟨tw_3_31, tw_1_1, by decide +kernel, Or.inl (by decide +kernel)⟩
set_option maxHeartbeats 4000000 in
set_option maxRecDepth 100000 in
theorem c_X5_count {l : Launch} {E : gE} {G : gG} {n : Nat} {th : Nat} {a1 : Int32} {r : Int32} (h : f_X5_count G th a1 = some r) : g_Met l yX5_count cX5_count 2 (some .int) rm_X5_count E G n [.ref th, .int a1] (some (.int r)) G n := by
  refine g_ofW gm_X5_count (Nat.le_of_ble_eq_true rfl) ?_
  intro p e s m below meth c ls X hl hI
  have hx := X.1
  have hb := X.2.1
  have X : g_X E G n p s m _ meth c cX5_count 2 RX5 "count" (some .int) := X
  have hl : lv_has ls 2 [(0, .ref th), (1, .int a1)] := hl
  unfold f_X5_count at h
  refine lv_iload_n hx hb dX5_count_0 rfl (lv_at hl 1 rfl) ?_
  by_cases c0 : a1 = 0
  · have h := g_t _ c0 h
    refine lv_tableIn (off := 31) (tgt := 32) hx hb dX5_count_1 (by rw [c0]; decide) (by rw [c0]; decide) (by rw [c0]; rfl) (by decide) ?_
    refine lv_aload_n hx hb dX5_count_32 rfl (lv_at hl 0 rfl) ?_
    obtain ⟨v1, ev1, h⟩ := gb_s h
    refine g_get X hI (g_fI_s ev1) (C := RX5) (T := TX5) (N := 9) rfl gu_X5 (by decide) tw_1_76 dX5_count_33 ?_
    have h := Option.some.inj h
    subst h
    exact g_iret X hI dX5_count_36
  · have h := g_f _ c0 h
    by_cases c1 : a1 = 1
    · have h := g_t _ c1 h
      refine lv_tableIn (off := 36) (tgt := 37) hx hb dX5_count_1 (by rw [c1]; decide) (by rw [c1]; decide) (by rw [c1]; rfl) (by decide) ?_
      refine lv_aload_n hx hb dX5_count_37 rfl (lv_at hl 0 rfl) ?_
      obtain ⟨cO, h⟩ := gck_s h
      obtain ⟨r2, er2, h⟩ := gb_s h
      refine g_callV X hI (q := (RX5, TX5, 9)) (b := th) (av := []) cO rfl (c_X5_notGone er2) gm_X5_notGone tw_3_32 tw_3_34 tw_p_19 ⟨by decide, by decide⟩ hl.1 (rest := []) rfl (Nat.le_of_ble_eq_true rfl) dX5_count_38 ⟨by decide, by decide⟩ (st1 := [.int r2]) rfl (cells' := 0) (slots' := 0) rfl rfl (fun H locs hI => ?_)
      have h := Option.some.inj h
      subst h
      exact g_iret X hI dX5_count_41
    · have h := g_f _ c1 h
      by_cases c2 : a1 = 2
      · have h := g_t _ c2 h
        refine lv_tableIn (off := 41) (tgt := 42) hx hb dX5_count_1 (by rw [c2]; decide) (by rw [c2]; decide) (by rw [c2]; rfl) (by decide) ?_
        refine lv_aload_n hx hb dX5_count_42 rfl (lv_at hl 0 rfl) ?_
        obtain ⟨v3, ev3, h⟩ := gb_s h
        refine g_get X hI (g_fI_s ev3) (C := RX5) (T := TX5) (N := 9) rfl gu_X5 (by decide) tw_1_78 dX5_count_43 ?_
        have h := Option.some.inj h
        subst h
        exact g_iret X hI dX5_count_46
      · have h := g_f _ c2 h
        by_cases c3 : a1 = 3
        · have h := g_t _ c3 h
          refine lv_tableIn (off := 46) (tgt := 47) hx hb dX5_count_1 (by rw [c3]; decide) (by rw [c3]; decide) (by rw [c3]; rfl) (by decide) ?_
          refine lv_aload_n hx hb dX5_count_47 rfl (lv_at hl 0 rfl) ?_
          obtain ⟨v4, ev4, h⟩ := gb_s h
          refine g_get X hI (g_fI_s ev4) (C := RX5) (T := TX5) (N := 9) rfl gu_X5 (by decide) tw_1_79 dX5_count_48 ?_
          have h := Option.some.inj h
          subst h
          exact g_iret X hI dX5_count_51
        · have h := g_f _ c3 h
          refine lv_tableOut (tgt := 52) hx hb dX5_count_1 (by have q0 := lv_neT (a := 0) c0 (by decide); have q1 := lv_neT (a := 1) c1 (by decide); have q2 := lv_neT (a := 2) c2 (by decide); have q3 := lv_neT (a := 3) c3 (by decide); omega) (by decide) ?_
          refine lv_iconst (v := (-1)) hx hb dX5_count_52 (by decide) ?_
          have h := Option.some.inj h
          subst h
          exact g_iret X hI dX5_count_53
