abbrev rm_X3_init : Room := { frames := 1, cells := 1, slots := 3, locals := 40 }
def f_X3_init (G : gG) (n : Nat) (th : Nat) : Option (gG × Nat) :=
  gb (g_sI G th 2 0 0) fun G1 =>
  gl (g_up G1 n (.inr (.inl (3, fun _ => 0)))) fun G2 =>
  gb (g_is G2 n 0 1) fun G3 =>
  gb (g_is G3 n 1 1) fun G4 =>
  gb (g_is G4 n 2 1) fun G5 =>
  gb (g_sA G5 th 2 1 n) fun G6 =>
  some (G6, (n + 1))
theorem gm_X3_init : g_M yX3_init cX3_init 1 none 0 := ⟨tw_1_61, tw_1_4, by decide +kernel, Or.inl (by decide +kernel)⟩
set_option maxHeartbeats 4000000 in
set_option maxRecDepth 100000 in
theorem c_X3_init {l : Launch} {E : gE} {G : gG} {n : Nat} {th : Nat} {Gr : gG} {nr : Nat} (h : f_X3_init G n th = some (Gr, nr)) : g_Met l yX3_init cX3_init 1 none rm_X3_init E G n [.ref th] none Gr nr := by
  refine g_ofW gm_X3_init (Nat.le_of_ble_eq_true rfl) ?_
  intro p e s m below meth c ls X hl hI
  have hx := X.1
  have hb := X.2.1
  have X : g_X E G n p s m _ meth c cX3_init 1 RX3 "<init>" none := X
  have hl : lv_has ls 1 [(0, .ref th)] := hl
  unfold f_X3_init at h
  refine lv_aload_n hx hb dX3_init_0 rfl (lv_at hl 0 rfl) ?_
  refine g_obji X tw_1_62 tw_1_16 tw_1_17 hl.1 dX3_init_1 (by decide) (by decide) ?_
  refine lv_aload_n hx hb dX3_init_4 rfl (lv_at hl 0 rfl) ?_
  refine lv_iconst (v := 0) hx hb dX3_init_5 (by decide) ?_
  obtain ⟨G1, eG1, h⟩ := gb_s h
  refine g_put X hI (k := 0) (v := .int 0) (G' := G1) eG1 (C := RX3) (T := TX3) (N := 2) rfl gu_X3 tyX3 tyX3_ok nmX3 (by decide) tw_1_63 rfl rfl rfl dX3_init_6 (fun H locs hI => ?_)
  refine lv_aload_n hx hb dX3_init_9 rfl (lv_at hl 0 rfl) ?_
  refine lv_iconst (v := 3) hx hb dX3_init_10 (by decide) ?_
  obtain ⟨G2, eG2, h⟩ := gl_s h
  refine g_newI X hI tw_1_71 (N := 3) (by decide) (by decide) (by decide) (by decide) (by decide) dX3_init_11 (fun H hI => ?_)
  rw [eG2] at hI
  refine W.cs (cells' := 1) (slots' := 3) rfl rfl ?_
  refine lv_dup hx hb dX3_init_13 rfl ?_
  refine lv_iconst (v := 0) hx hb dX3_init_14 (by decide) ?_
  refine lv_iconst (v := 1) hx hb dX3_init_15 (by decide) ?_
  obtain ⟨G3, eG3, h⟩ := gb_s h
  refine g_iast X hI (G' := G3) eG3 dX3_init_16 (fun H locs hI => ?_)
  refine lv_dup hx hb dX3_init_17 rfl ?_
  refine lv_iconst (v := 1) hx hb dX3_init_18 (by decide) ?_
  refine lv_iconst (v := 1) hx hb dX3_init_19 (by decide) ?_
  obtain ⟨G4, eG4, h⟩ := gb_s h
  refine g_iast X hI (G' := G4) eG4 dX3_init_20 (fun H locs hI => ?_)
  refine lv_dup hx hb dX3_init_21 rfl ?_
  refine lv_iconst (v := 2) hx hb dX3_init_22 (by decide) ?_
  refine lv_iconst (v := 1) hx hb dX3_init_23 (by decide) ?_
  obtain ⟨G5, eG5, h⟩ := gb_s h
  refine g_iast X hI (G' := G5) eG5 dX3_init_24 (fun H locs hI => ?_)
  obtain ⟨G6, eG6, h⟩ := gb_s h
  refine g_putF X hI (k := 1) (v := .ref n) (G' := G6) eG6 (C := RX3) (T := TX3) (N := 2) rfl gu_X3 tyX3 tyX3_ok nmX3 (by decide) tw_1_65 rfl rfl rfl rfl rfl dX3_init_25 (fun H locs hI => ?_)
  obtain ⟨h, h2⟩ := g_sp2 h
  subst h
  subst h2
  exact g_vret X hI dX3_init_28
abbrev rm_X3_setFromLast : Room := { frames := 0, cells := 0, slots := 0, locals := 0 }
def f_X3_setFromLast (G : gG) (th : Nat) (a1 : Int32) (a2 : Int32) (a3 : Int32) (a4 : Int32) : Option gG :=
  gb (g_sI G th 2 0 a1) fun G1 =>
  gb (g_fA G1 th 2 1) fun g2 =>
  gb (g_is G1 g2 0 a2) fun G3 =>
  gb (g_fA G3 th 2 1) fun g4 =>
  gb (g_is G3 g4 1 a3) fun G5 =>
  gb (g_fA G5 th 2 1) fun g6 =>
  gb (g_is G5 g6 2 a4) fun G7 =>
  some G7
theorem gm_X3_setFromLast : g_M yX3_setFromLast cX3_setFromLast 5 none 4 := ⟨tw_1_119, tw_1_4, by decide +kernel, Or.inl (by decide +kernel)⟩
set_option maxHeartbeats 4000000 in
set_option maxRecDepth 100000 in
theorem c_X3_setFromLast {l : Launch} {E : gE} {G : gG} {n : Nat} {th : Nat} {a1 : Int32} {a2 : Int32} {a3 : Int32} {a4 : Int32} {Gr : gG} (h : f_X3_setFromLast G th a1 a2 a3 a4 = some Gr) : g_Met l yX3_setFromLast cX3_setFromLast 5 none rm_X3_setFromLast E G n [.ref th, .int a1, .int a2, .int a3, .int a4] none Gr n := by
  refine g_ofW gm_X3_setFromLast (Nat.le_of_ble_eq_true rfl) ?_
  intro p e s m below meth c ls X hl hI
  have hx := X.1
  have hb := X.2.1
  have X : g_X E G n p s m _ meth c cX3_setFromLast 5 RX3 "setFromLast" none := X
  have hl : lv_has ls 5 [(0, .ref th), (1, .int a1), (2, .int a2), (3, .int a3), (4, .int a4)] := hl
  unfold f_X3_setFromLast at h
  refine lv_aload_n hx hb dX3_setFromLast_0 rfl (lv_at hl 0 rfl) ?_
  refine lv_iload_n hx hb dX3_setFromLast_1 rfl (lv_at hl 1 rfl) ?_
  obtain ⟨G1, eG1, h⟩ := gb_s h
  refine g_put X hI (k := 0) (v := .int a1) (G' := G1) eG1 (C := RX3) (T := TX3) (N := 2) rfl gu_X3 tyX3 tyX3_ok nmX3 (by decide) tw_1_63 rfl rfl rfl dX3_setFromLast_2 (fun H locs hI => ?_)
  refine lv_aload_n hx hb dX3_setFromLast_5 rfl (lv_at hl 0 rfl) ?_
  obtain ⟨g2, eg2, h⟩ := gb_s h
  refine g_get X hI (g_fA_s eg2) (C := RX3) (T := TX3) (N := 2) rfl gu_X3 (by decide) tw_1_65 dX3_setFromLast_6 ?_
  refine lv_iconst (v := 0) hx hb dX3_setFromLast_9 (by decide) ?_
  refine lv_iload_n hx hb dX3_setFromLast_10 rfl (lv_at hl 2 rfl) ?_
  obtain ⟨G3, eG3, h⟩ := gb_s h
  refine g_iast X hI (G' := G3) eG3 dX3_setFromLast_11 (fun H locs hI => ?_)
  refine lv_aload_n hx hb dX3_setFromLast_12 rfl (lv_at hl 0 rfl) ?_
  obtain ⟨g4, eg4, h⟩ := gb_s h
  refine g_get X hI (g_fA_s eg4) (C := RX3) (T := TX3) (N := 2) rfl gu_X3 (by decide) tw_1_65 dX3_setFromLast_13 ?_
  refine lv_iconst (v := 1) hx hb dX3_setFromLast_16 (by decide) ?_
  refine lv_iload_n hx hb dX3_setFromLast_17 rfl (lv_at hl 3 rfl) ?_
  obtain ⟨G5, eG5, h⟩ := gb_s h
  refine g_iast X hI (G' := G5) eG5 dX3_setFromLast_18 (fun H locs hI => ?_)
  refine lv_aload_n hx hb dX3_setFromLast_19 rfl (lv_at hl 0 rfl) ?_
  obtain ⟨g6, eg6, h⟩ := gb_s h
  refine g_get X hI (g_fA_s eg6) (C := RX3) (T := TX3) (N := 2) rfl gu_X3 (by decide) tw_1_65 dX3_setFromLast_20 ?_
  refine lv_iconst (v := 2) hx hb dX3_setFromLast_23 (by decide) ?_
  refine lv_iload hx hb dX3_setFromLast_24 (lv_at hl 4 rfl) ?_
  obtain ⟨G7, eG7, h⟩ := gb_s h
  refine g_iast X hI (G' := G7) eG7 dX3_setFromLast_26 (fun H locs hI => ?_)
  have h := Option.some.inj h
  subst h
  exact g_vret X hI dX3_setFromLast_27
abbrev rm_X3_setFromFirst : Room := { frames := 1, cells := 0, slots := 0, locals := 24 }
def f_X3_setFromFirst (G : gG) (th : Nat) (a1 : Int32) (a2 : Int32) (a3 : Int32) : Option gG :=
  if a1 = (-3) then
    gck (g_isO G th 2) <|
    gb (f_X3_setFromLast G th (0 : Int32) (1 : Int32) (1 : Int32) (1 : Int32)) fun G4 =>
    some G4
  else
  if a2 = (-3) then
    gck (g_isO G th 2) <|
    gb (f_X3_setFromLast G th (1 : Int32) a1 (1 : Int32) (1 : Int32)) fun G3 =>
    some G3
  else
  if a3 = (-3) then
    gck (g_isO G th 2) <|
    gb (f_X3_setFromLast G th (2 : Int32) a2 a1 (1 : Int32)) fun G2 =>
    some G2
  else
  gck (g_isO G th 2) <|
  gb (f_X3_setFromLast G th (3 : Int32) a3 a2 a1) fun G1 =>
  some G1
theorem gm_X3_setFromFirst : g_M yX3_setFromFirst cX3_setFromFirst 4 none 3 := ⟨tw_1_115, tw_1_4, by decide +kernel, Or.inl (by decide +kernel)⟩
set_option maxHeartbeats 4000000 in
set_option maxRecDepth 100000 in
theorem c_X3_setFromFirst {l : Launch} {E : gE} {G : gG} {n : Nat} {th : Nat} {a1 : Int32} {a2 : Int32} {a3 : Int32} {Gr : gG} (h : f_X3_setFromFirst G th a1 a2 a3 = some Gr) : g_Met l yX3_setFromFirst cX3_setFromFirst 4 none rm_X3_setFromFirst E G n [.ref th, .int a1, .int a2, .int a3] none Gr n := by
  refine g_ofW gm_X3_setFromFirst (Nat.le_of_ble_eq_true rfl) ?_
  intro p e s m below meth c ls X hl hI
  have hx := X.1
  have hb := X.2.1
  have X : g_X E G n p s m _ meth c cX3_setFromFirst 4 RX3 "setFromFirst" none := X
  have hl : lv_has ls 4 [(0, .ref th), (1, .int a1), (2, .int a2), (3, .int a3)] := hl
  unfold f_X3_setFromFirst at h
  refine lv_iload_n hx hb dX3_setFromFirst_0 rfl (lv_at hl 1 rfl) ?_
  refine lv_bipush (v := (-3)) hx hb dX3_setFromFirst_1 (by decide) ?_
  refine lv_icmp_ne (tgt := 17) hx hb dX3_setFromFirst_3 (by decide) (fun c => ?_) (fun c => ?_)
  · have h := g_f _ c h
    refine lv_iload_n hx hb dX3_setFromFirst_17 rfl (lv_at hl 2 rfl) ?_
    refine lv_bipush (v := (-3)) hx hb dX3_setFromFirst_18 (by decide) ?_
    refine lv_icmp_ne (tgt := 34) hx hb dX3_setFromFirst_20 (by decide) (fun c => ?_) (fun c => ?_)
    · have h := g_f _ c h
      refine lv_iload_n hx hb dX3_setFromFirst_34 rfl (lv_at hl 3 rfl) ?_
      refine lv_bipush (v := (-3)) hx hb dX3_setFromFirst_35 (by decide) ?_
      refine lv_icmp_ne (tgt := 51) hx hb dX3_setFromFirst_37 (by decide) (fun c => ?_) (fun c => ?_)
      · have h := g_f _ c h
        refine lv_aload_n hx hb dX3_setFromFirst_51 rfl (lv_at hl 0 rfl) ?_
        refine lv_iconst (v := 3) hx hb dX3_setFromFirst_52 (by decide) ?_
        refine lv_iload_n hx hb dX3_setFromFirst_53 rfl (lv_at hl 3 rfl) ?_
        refine lv_iload_n hx hb dX3_setFromFirst_54 rfl (lv_at hl 2 rfl) ?_
        refine lv_iload_n hx hb dX3_setFromFirst_55 rfl (lv_at hl 1 rfl) ?_
        obtain ⟨cO, h⟩ := gck_s h
        obtain ⟨G1, eG1, h⟩ := gb_s h
        refine g_callV X hI (q := (RX3, TX3, 2)) (b := th) (av := [.int 3, .int a3, .int a2, .int a1]) cO rfl (c_X3_setFromLast eG1) gm_X3_setFromLast tw_1_116 tw_1_118 tw_p_1 ⟨by decide, by decide⟩ hl.1 (rest := []) rfl (Nat.le_of_ble_eq_true rfl) dX3_setFromFirst_56 ⟨by decide, by decide⟩ (st1 := []) rfl (cells' := 0) (slots' := 0) rfl rfl (fun H locs hI => ?_)
        have h := Option.some.inj h
        subst h
        exact g_vret X hI dX3_setFromFirst_59
      · have h := g_t _ c h
        refine lv_aload_n hx hb dX3_setFromFirst_40 rfl (lv_at hl 0 rfl) ?_
        refine lv_iconst (v := 2) hx hb dX3_setFromFirst_41 (by decide) ?_
        refine lv_iload_n hx hb dX3_setFromFirst_42 rfl (lv_at hl 2 rfl) ?_
        refine lv_iload_n hx hb dX3_setFromFirst_43 rfl (lv_at hl 1 rfl) ?_
        refine lv_iconst (v := 1) hx hb dX3_setFromFirst_44 (by decide) ?_
        obtain ⟨cO, h⟩ := gck_s h
        obtain ⟨G2, eG2, h⟩ := gb_s h
        refine g_callV X hI (q := (RX3, TX3, 2)) (b := th) (av := [.int 2, .int a2, .int a1, .int 1]) cO rfl (c_X3_setFromLast eG2) gm_X3_setFromLast tw_1_116 tw_1_118 tw_p_1 ⟨by decide, by decide⟩ hl.1 (rest := []) rfl (Nat.le_of_ble_eq_true rfl) dX3_setFromFirst_45 ⟨by decide, by decide⟩ (st1 := []) rfl (cells' := 0) (slots' := 0) rfl rfl (fun H locs hI => ?_)
        refine lv_goto (tgt := 59) hx hb dX3_setFromFirst_48 (by decide) ?_
        have h := Option.some.inj h
        subst h
        exact g_vret X hI dX3_setFromFirst_59
    · have h := g_t _ c h
      refine lv_aload_n hx hb dX3_setFromFirst_23 rfl (lv_at hl 0 rfl) ?_
      refine lv_iconst (v := 1) hx hb dX3_setFromFirst_24 (by decide) ?_
      refine lv_iload_n hx hb dX3_setFromFirst_25 rfl (lv_at hl 1 rfl) ?_
      refine lv_iconst (v := 1) hx hb dX3_setFromFirst_26 (by decide) ?_
      refine lv_iconst (v := 1) hx hb dX3_setFromFirst_27 (by decide) ?_
      obtain ⟨cO, h⟩ := gck_s h
      obtain ⟨G3, eG3, h⟩ := gb_s h
      refine g_callV X hI (q := (RX3, TX3, 2)) (b := th) (av := [.int 1, .int a1, .int 1, .int 1]) cO rfl (c_X3_setFromLast eG3) gm_X3_setFromLast tw_1_116 tw_1_118 tw_p_1 ⟨by decide, by decide⟩ hl.1 (rest := []) rfl (Nat.le_of_ble_eq_true rfl) dX3_setFromFirst_28 ⟨by decide, by decide⟩ (st1 := []) rfl (cells' := 0) (slots' := 0) rfl rfl (fun H locs hI => ?_)
      refine lv_goto (tgt := 59) hx hb dX3_setFromFirst_31 (by decide) ?_
      have h := Option.some.inj h
      subst h
      exact g_vret X hI dX3_setFromFirst_59
  · have h := g_t _ c h
    refine lv_aload_n hx hb dX3_setFromFirst_6 rfl (lv_at hl 0 rfl) ?_
    refine lv_iconst (v := 0) hx hb dX3_setFromFirst_7 (by decide) ?_
    refine lv_iconst (v := 1) hx hb dX3_setFromFirst_8 (by decide) ?_
    refine lv_iconst (v := 1) hx hb dX3_setFromFirst_9 (by decide) ?_
    refine lv_iconst (v := 1) hx hb dX3_setFromFirst_10 (by decide) ?_
    obtain ⟨cO, h⟩ := gck_s h
    obtain ⟨G4, eG4, h⟩ := gb_s h
    refine g_callV X hI (q := (RX3, TX3, 2)) (b := th) (av := [.int 0, .int 1, .int 1, .int 1]) cO rfl (c_X3_setFromLast eG4) gm_X3_setFromLast tw_1_116 tw_1_118 tw_p_1 ⟨by decide, by decide⟩ hl.1 (rest := []) rfl (Nat.le_of_ble_eq_true rfl) dX3_setFromFirst_11 ⟨by decide, by decide⟩ (st1 := []) rfl (cells' := 0) (slots' := 0) rfl rfl (fun H locs hI => ?_)
    refine lv_goto (tgt := 59) hx hb dX3_setFromFirst_14 (by decide) ?_
    have h := Option.some.inj h
    subst h
    exact g_vret X hI dX3_setFromFirst_59
abbrev rm_X3_setAs : Room := { frames := 1, cells := 0, slots := 0, locals := 24 }
def f_X3_setAs (G : gG) (th : Nat) (a1 : Nat) : Option gG :=
  gb (g_fI G a1 2 0) fun v1 =>
  gb (g_fA G a1 2 1) fun g2 =>
  gb (g_il G g2 0) fun v3 =>
  gb (g_fA G a1 2 1) fun g4 =>
  gb (g_il G g4 1) fun v5 =>
  gb (g_fA G a1 2 1) fun g6 =>
  gb (g_il G g6 2) fun v7 =>
  gck (g_isO G th 2) <|
  gb (f_X3_setFromLast G th v1 v3 v5 v7) fun G8 =>
  some G8
theorem gm_X3_setAs : g_M yX3_setAs cX3_setAs 2 none 1 := ⟨tw_1_142, tw_1_4, by decide +kernel, Or.inl (by decide +kernel)⟩
set_option maxHeartbeats 4000000 in
set_option maxRecDepth 100000 in
theorem c_X3_setAs {l : Launch} {E : gE} {G : gG} {n : Nat} {th : Nat} {a1 : Nat} {Gr : gG} (h : f_X3_setAs G th a1 = some Gr) : g_Met l yX3_setAs cX3_setAs 2 none rm_X3_setAs E G n [.ref th, .ref a1] none Gr n := by
  refine g_ofW gm_X3_setAs (Nat.le_of_ble_eq_true rfl) ?_
  intro p e s m below meth c ls X hl hI
  have hx := X.1
  have hb := X.2.1
  have X : g_X E G n p s m _ meth c cX3_setAs 2 RX3 "setAs" none := X
  have hl : lv_has ls 2 [(0, .ref th), (1, .ref a1)] := hl
  unfold f_X3_setAs at h
  refine lv_aload_n hx hb dX3_setAs_0 rfl (lv_at hl 0 rfl) ?_
  refine lv_aload_n hx hb dX3_setAs_1 rfl (lv_at hl 1 rfl) ?_
  obtain ⟨v1, ev1, h⟩ := gb_s h
  refine g_get X hI (g_fI_s ev1) (C := RX3) (T := TX3) (N := 2) rfl gu_X3 (by decide) tw_1_63 dX3_setAs_2 ?_
  refine lv_aload_n hx hb dX3_setAs_5 rfl (lv_at hl 1 rfl) ?_
  obtain ⟨g2, eg2, h⟩ := gb_s h
  refine g_get X hI (g_fA_s eg2) (C := RX3) (T := TX3) (N := 2) rfl gu_X3 (by decide) tw_1_65 dX3_setAs_6 ?_
  refine lv_iconst (v := 0) hx hb dX3_setAs_9 (by decide) ?_
  obtain ⟨v3, ev3, h⟩ := gb_s h
  refine g_iald X hI ev3 dX3_setAs_10 ?_
  refine lv_aload_n hx hb dX3_setAs_11 rfl (lv_at hl 1 rfl) ?_
  obtain ⟨g4, eg4, h⟩ := gb_s h
  refine g_get X hI (g_fA_s eg4) (C := RX3) (T := TX3) (N := 2) rfl gu_X3 (by decide) tw_1_65 dX3_setAs_12 ?_
  refine lv_iconst (v := 1) hx hb dX3_setAs_15 (by decide) ?_
  obtain ⟨v5, ev5, h⟩ := gb_s h
  refine g_iald X hI ev5 dX3_setAs_16 ?_
  refine lv_aload_n hx hb dX3_setAs_17 rfl (lv_at hl 1 rfl) ?_
  obtain ⟨g6, eg6, h⟩ := gb_s h
  refine g_get X hI (g_fA_s eg6) (C := RX3) (T := TX3) (N := 2) rfl gu_X3 (by decide) tw_1_65 dX3_setAs_18 ?_
  refine lv_iconst (v := 2) hx hb dX3_setAs_21 (by decide) ?_
  obtain ⟨v7, ev7, h⟩ := gb_s h
  refine g_iald X hI ev7 dX3_setAs_22 ?_
  obtain ⟨cO, h⟩ := gck_s h
  obtain ⟨G8, eG8, h⟩ := gb_s h
  refine g_callV X hI (q := (RX3, TX3, 2)) (b := th) (av := [.int v1, .int v3, .int v5, .int v7]) cO rfl (c_X3_setFromLast eG8) gm_X3_setFromLast tw_1_116 tw_1_118 tw_p_1 ⟨by decide, by decide⟩ hl.1 (rest := []) rfl (Nat.le_of_ble_eq_true rfl) dX3_setAs_23 ⟨by decide, by decide⟩ (st1 := []) rfl (cells' := 0) (slots' := 0) rfl rfl (fun H locs hI => ?_)
  have h := Option.some.inj h
  subst h
  exact g_vret X hI dX3_setAs_26
abbrev rm_X3_spreadWith : Room := { frames := 1, cells := 0, slots := 0, locals := 21 }
def f_X3_spreadWith_51 (k2 : gG → Nat → Nat → Int32 → Option (Int32 × gG)) (G : gG) (x0 : Nat) (x1 : Nat) (x2 : Int32) : Option (Int32 × gG) :=
  gl (x2 + 1 : Int32) fun v1 =>
  k2 G x0 x1 v1
set_option maxHeartbeats 4000000 in
set_option maxRecDepth 100000 in
theorem b_X3_spreadWith_51 {p : Program} {l : Launch} {e : Env} {s : State} {m : MethodId} {args : Array Value} {below : List Frame} {meth : Method} {c : Code} {E : gE} {G0 : gG} {n0 : Nat} (X : g_X E G0 n0 p s m args meth c cX3_spreadWith 4 RX3 "spreadWith" (some .int)) {G : gG} {n : Nat} {r : Int32} {Gr : gG} {k2 : gG → Nat → Nat → Int32 → Option (Int32 × gG)} (hk2 : ∀ {G : gG} {H : Heap} {locs : List Loc} (_ : g_I E (g_A G0 n0) G n s.heap H locs) {x0 : Nat} {x1 : Nat} {x2 : Int32}  (_ : k2 G x0 x1 x2 = some (r, Gr)) {ls : Array Slot} (_ : lv_has ls 4 [(0, .ref x0), (1, .ref x1), (2, .int x2)]), W p l e rm_X3_spreadWith s m args below meth c H locs 0 0 (MQ below (g_Q E G0 n0 (some (.int r)) Gr n) args s rm_X3_spreadWith.cells rm_X3_spreadWith.slots (g_A G0 n0)) (F0 m 2 ls [])) {H : Heap} {locs : List Loc} (hI : g_I E (g_A G0 n0) G n s.heap H locs) {x0 : Nat} {x1 : Nat} {x2 : Int32} (h : f_X3_spreadWith_51 k2 G x0 x1 x2 = some (r, Gr)) {ls : Array Slot} (hl : lv_has ls 4 [(0, .ref x0), (1, .ref x1), (2, .int x2)]) : W p l e rm_X3_spreadWith s m args below meth c H locs 0 0 (MQ below (g_Q E G0 n0 (some (.int r)) Gr n) args s rm_X3_spreadWith.cells rm_X3_spreadWith.slots (g_A G0 n0)) (F0 m 51 ls []) := by
  have hx := X.1
  have hb := X.2.1
  unfold f_X3_spreadWith_51 at h
  obtain ⟨v1, ev1, h⟩ := gl_s h
  refine lv_iinc (v := v1) (lv' := [(2, .int v1), (0, .ref x0), (1, .ref x1)]) hx hb dX3_spreadWith_51 hl (k := 2) rfl (by rw [← ev1]; rfl) (by decide) rfl (fun ls hl => ?_)
  refine lv_goto (tgt := 2) hx hb dX3_spreadWith_54 (by decide) ?_
  exact hk2 hI h (lv_sub hl [1, 2, 0] rfl)
def f_X3_spreadWith_2 : Nat → gG → Nat → Nat → Int32 → Option (Int32 × gG)
  | 0, _, _, _, _ => none
  | fu + 1, G, x0, x1, x2 =>
    if (3 : Int32) ≤ x2 then
      gb (g_fI G x0 2 0) fun v1 =>
      gb (g_fI G x1 2 0) fun v2 =>
      gb (g_sI G x0 2 0 (f_J9_max_7cf53 v1 v2)) fun G3 =>
      some ((-3), G3)
    else
    gb (g_fA G x1 2 1) fun g4 =>
    gb (g_il G g4 x2) fun v5 =>
    gb (g_fA G x0 2 1) fun g6 =>
    gb (g_il G g6 x2) fun v7 =>
    if v7 = 1 then
      gb (g_fA G x0 2 1) fun g10 =>
      gb (g_is G g10 x2 v5) fun G11 =>
      f_X3_spreadWith_51 (f_X3_spreadWith_2 fu) G11 x0 x1 x2
    else
    if v5 = 1 then
      f_X3_spreadWith_51 (f_X3_spreadWith_2 fu) G x0 x1 x2
    else
    gb (g_fA G x0 2 1) fun g8 =>
    gb (g_il G g8 x2) fun v9 =>
    if v5 = v9 then
      f_X3_spreadWith_51 (f_X3_spreadWith_2 fu) G x0 x1 x2
    else
    some (x2, G)
set_option maxHeartbeats 4000000 in
set_option maxRecDepth 100000 in
theorem b_X3_spreadWith_2 {p : Program} {l : Launch} {e : Env} {s : State} {m : MethodId} {args : Array Value} {below : List Frame} {meth : Method} {c : Code} {E : gE} {G0 : gG} {n0 : Nat} (X : g_X E G0 n0 p s m args meth c cX3_spreadWith 4 RX3 "spreadWith" (some .int)) {n : Nat} {r : Int32} {Gr : gG} (fu : Nat) : ∀ {G : gG} {H : Heap} {locs : List Loc} (_ : g_I E (g_A G0 n0) G n s.heap H locs) {x0 : Nat} {x1 : Nat} {x2 : Int32} (_ : f_X3_spreadWith_2 fu G x0 x1 x2 = some (r, Gr)) {ls : Array Slot} (_ : lv_has ls 4 [(0, .ref x0), (1, .ref x1), (2, .int x2)]), W p l e rm_X3_spreadWith s m args below meth c H locs 0 0 (MQ below (g_Q E G0 n0 (some (.int r)) Gr n) args s rm_X3_spreadWith.cells rm_X3_spreadWith.slots (g_A G0 n0)) (F0 m 2 ls []) := by
  have hx := X.1
  have hb := X.2.1
  induction fu with
  | zero =>
    intro G H locs hI x0 x1 x2 h ls hl
    rw [f_X3_spreadWith_2] at h
    cases h
  | succ fu ih =>
    intro G H locs hI x0 x1 x2 h ls hl
    rw [f_X3_spreadWith_2] at h
    refine lv_iload_n hx hb dX3_spreadWith_2 rfl (lv_at hl 2 rfl) ?_
    refine lv_iconst (v := 3) hx hb dX3_spreadWith_3 (by decide) ?_
    refine lv_icmp_ge (tgt := 57) hx hb dX3_spreadWith_4 (by decide) (fun c => ?_) (fun c => ?_)
    · have h := g_t _ c h
      refine lv_aload_n hx hb dX3_spreadWith_57 rfl (lv_at hl 0 rfl) ?_
      refine lv_aload_n hx hb dX3_spreadWith_58 rfl (lv_at hl 0 rfl) ?_
      obtain ⟨v1, ev1, h⟩ := gb_s h
      refine g_get X hI (g_fI_s ev1) (C := RX3) (T := TX3) (N := 2) rfl gu_X3 (by decide) tw_1_63 dX3_spreadWith_59 ?_
      refine lv_aload_n hx hb dX3_spreadWith_62 rfl (lv_at hl 1 rfl) ?_
      obtain ⟨v2, ev2, h⟩ := gb_s h
      refine g_get X hI (g_fI_s ev2) (C := RX3) (T := TX3) (N := 2) rfl gu_X3 (by decide) tw_1_63 dX3_spreadWith_63 ?_
      refine g_callS X hI (av := [.int v1, .int v2]) (c_J9_max_7cf53 v1 v2) gm_J9_max_7cf53 tw_2_25 tw_2_5 ⟨by decide, by decide⟩ hl.1 (rest := [.ref x0]) rfl (Nat.le_of_ble_eq_true rfl) dX3_spreadWith_66 ⟨by decide, by decide⟩ (st1 := [.int (f_J9_max_7cf53 v1 v2), .ref x0]) rfl (cells' := 0) (slots' := 0) rfl rfl (fun H locs hI => ?_)
      obtain ⟨G3, eG3, h⟩ := gb_s h
      refine g_put X hI (k := 0) (v := .int (f_J9_max_7cf53 v1 v2)) (G' := G3) eG3 (C := RX3) (T := TX3) (N := 2) rfl gu_X3 tyX3 tyX3_ok nmX3 (by decide) tw_1_63 rfl rfl rfl dX3_spreadWith_69 (fun H locs hI => ?_)
      refine lv_bipush (v := (-3)) hx hb dX3_spreadWith_72 (by decide) ?_
      obtain ⟨h, h2⟩ := g_sp2 h
      subst h
      subst h2
      exact g_iret X hI dX3_spreadWith_74
    · have h := g_f _ c h
      refine lv_aload_n hx hb dX3_spreadWith_7 rfl (lv_at hl 1 rfl) ?_
      obtain ⟨g4, eg4, h⟩ := gb_s h
      refine g_get X hI (g_fA_s eg4) (C := RX3) (T := TX3) (N := 2) rfl gu_X3 (by decide) tw_1_65 dX3_spreadWith_8 ?_
      refine lv_iload_n hx hb dX3_spreadWith_11 rfl (lv_at hl 2 rfl) ?_
      obtain ⟨v5, ev5, h⟩ := gb_s h
      refine g_iald X hI ev5 dX3_spreadWith_12 ?_
      refine lv_istore_n (lv' := [(3, .int v5), (0, .ref x0), (1, .ref x1), (2, .int x2)]) hx hb dX3_spreadWith_13 rfl hl (by decide) rfl (fun ls hl => ?_)
      refine lv_aload_n hx hb dX3_spreadWith_14 rfl (lv_at hl 1 rfl) ?_
      obtain ⟨g6, eg6, h⟩ := gb_s h
      refine g_get X hI (g_fA_s eg6) (C := RX3) (T := TX3) (N := 2) rfl gu_X3 (by decide) tw_1_65 dX3_spreadWith_15 ?_
      refine lv_iload_n hx hb dX3_spreadWith_18 rfl (lv_at hl 3 rfl) ?_
      obtain ⟨v7, ev7, h⟩ := gb_s h
      refine g_iald X hI ev7 dX3_spreadWith_19 ?_
      refine lv_iconst (v := 1) hx hb dX3_spreadWith_20 (by decide) ?_
      refine lv_icmp_ne (tgt := 34) hx hb dX3_spreadWith_21 (by decide) (fun c => ?_) (fun c => ?_)
      · have h := g_f _ c h
        refine lv_iload_n hx hb dX3_spreadWith_34 rfl (lv_at hl 0 rfl) ?_
        refine lv_iconst (v := 1) hx hb dX3_spreadWith_35 (by decide) ?_
        refine lv_icmp_eq (tgt := 51) hx hb dX3_spreadWith_36 (by decide) (fun c => ?_) (fun c => ?_)
        · have h := g_t _ c h
          exact b_X3_spreadWith_51 X ih hI h (lv_sub hl [1, 2, 3] rfl)
        · have h := g_f _ c h
          refine lv_iload_n hx hb dX3_spreadWith_39 rfl (lv_at hl 0 rfl) ?_
          refine lv_aload_n hx hb dX3_spreadWith_40 rfl (lv_at hl 1 rfl) ?_
          obtain ⟨g8, eg8, h⟩ := gb_s h
          refine g_get X hI (g_fA_s eg8) (C := RX3) (T := TX3) (N := 2) rfl gu_X3 (by decide) tw_1_65 dX3_spreadWith_41 ?_
          refine lv_iload_n hx hb dX3_spreadWith_44 rfl (lv_at hl 3 rfl) ?_
          obtain ⟨v9, ev9, h⟩ := gb_s h
          refine g_iald X hI ev9 dX3_spreadWith_45 ?_
          refine lv_icmp_eq (tgt := 51) hx hb dX3_spreadWith_46 (by decide) (fun c => ?_) (fun c => ?_)
          · have h := g_t _ c h
            exact b_X3_spreadWith_51 X ih hI h (lv_sub hl [1, 2, 3] rfl)
          · have h := g_f _ c h
            refine lv_iload_n hx hb dX3_spreadWith_49 rfl (lv_at hl 3 rfl) ?_
            obtain ⟨h, h2⟩ := g_sp2 h
            subst h
            subst h2
            exact g_iret X hI dX3_spreadWith_50
      · have h := g_t _ c h
        refine lv_aload_n hx hb dX3_spreadWith_24 rfl (lv_at hl 1 rfl) ?_
        obtain ⟨g10, eg10, h⟩ := gb_s h
        refine g_get X hI (g_fA_s eg10) (C := RX3) (T := TX3) (N := 2) rfl gu_X3 (by decide) tw_1_65 dX3_spreadWith_25 ?_
        refine lv_iload_n hx hb dX3_spreadWith_28 rfl (lv_at hl 3 rfl) ?_
        refine lv_iload_n hx hb dX3_spreadWith_29 rfl (lv_at hl 0 rfl) ?_
        obtain ⟨G11, eG11, h⟩ := gb_s h
        refine g_iast X hI (G' := G11) eG11 dX3_spreadWith_30 (fun H locs hI => ?_)
        refine lv_goto (tgt := 51) hx hb dX3_spreadWith_31 (by decide) ?_
        exact b_X3_spreadWith_51 X ih hI h (lv_sub hl [1, 2, 3] rfl)
def f_X3_spreadWith (G : gG) (th : Nat) (a1 : Nat) : Option (Int32 × gG) :=
  f_X3_spreadWith_2 5000 G th a1 0
theorem gm_X3_spreadWith : g_M yX3_spreadWith cX3_spreadWith 4 (some .int) 1 := ⟨tw_2_24, tw_1_4, by decide +kernel, Or.inl (by decide +kernel)⟩
set_option maxHeartbeats 4000000 in
set_option maxRecDepth 100000 in
theorem c_X3_spreadWith {l : Launch} {E : gE} {G : gG} {n : Nat} {th : Nat} {a1 : Nat} {r : Int32} {Gr : gG} (h : f_X3_spreadWith G th a1 = some (r, Gr)) : g_Met l yX3_spreadWith cX3_spreadWith 4 (some .int) rm_X3_spreadWith E G n [.ref th, .ref a1] (some (.int r)) Gr n := by
  refine g_ofW gm_X3_spreadWith (Nat.le_of_ble_eq_true rfl) ?_
  intro p e s m below meth c ls X hl hI
  have hx := X.1
  have hb := X.2.1
  have X : g_X E G n p s m _ meth c cX3_spreadWith 4 RX3 "spreadWith" (some .int) := X
  have hl : lv_has ls 4 [(0, .ref th), (1, .ref a1)] := hl
  unfold f_X3_spreadWith at h
  refine lv_iconst (v := 0) hx hb dX3_spreadWith_0 (by decide) ?_
  refine lv_istore_n (lv' := [(2, .int 0), (0, .ref th), (1, .ref a1)]) hx hb dX3_spreadWith_1 rfl hl (by decide) rfl (fun ls hl => ?_)
  exact b_X3_spreadWith_2 X 5000 hI h (lv_sub hl [1, 2, 0] rfl)
abbrev rm_X3_size : Room := { frames := 0, cells := 0, slots := 0, locals := 0 }
def f_X3_size (G : gG) (th : Nat) : Option Int32 :=
  gb (g_fA G th 2 1) fun g1 =>
  gb (g_il G g1 0) fun v2 =>
  gb (g_fA G th 2 1) fun g3 =>
  gb (g_il G g3 1) fun v4 =>
  gb (g_fA G th 2 1) fun g5 =>
  gb (g_il G g5 2) fun v6 =>
  some ((v2 * v4) * v6)
theorem gm_X3_size : g_M yX3_size cX3_size 1 (some .int) 0 := ⟨tw_1_131, tw_1_4, by decide +kernel, Or.inl (by decide +kernel)⟩
set_option maxHeartbeats 4000000 in
set_option maxRecDepth 100000 in
theorem c_X3_size {l : Launch} {E : gE} {G : gG} {n : Nat} {th : Nat} {r : Int32} (h : f_X3_size G th = some r) : g_Met l yX3_size cX3_size 1 (some .int) rm_X3_size E G n [.ref th] (some (.int r)) G n := by
  refine g_ofW gm_X3_size (Nat.le_of_ble_eq_true rfl) ?_
  intro p e s m below meth c ls X hl hI
  have hx := X.1
  have hb := X.2.1
  have X : g_X E G n p s m _ meth c cX3_size 1 RX3 "size" (some .int) := X
  have hl : lv_has ls 1 [(0, .ref th)] := hl
  unfold f_X3_size at h
  refine lv_aload_n hx hb dX3_size_0 rfl (lv_at hl 0 rfl) ?_
  obtain ⟨g1, eg1, h⟩ := gb_s h
  refine g_get X hI (g_fA_s eg1) (C := RX3) (T := TX3) (N := 2) rfl gu_X3 (by decide) tw_1_65 dX3_size_1 ?_
  refine lv_iconst (v := 0) hx hb dX3_size_4 (by decide) ?_
  obtain ⟨v2, ev2, h⟩ := gb_s h
  refine g_iald X hI ev2 dX3_size_5 ?_
  refine lv_aload_n hx hb dX3_size_6 rfl (lv_at hl 0 rfl) ?_
  obtain ⟨g3, eg3, h⟩ := gb_s h
  refine g_get X hI (g_fA_s eg3) (C := RX3) (T := TX3) (N := 2) rfl gu_X3 (by decide) tw_1_65 dX3_size_7 ?_
  refine lv_iconst (v := 1) hx hb dX3_size_10 (by decide) ?_
  obtain ⟨v4, ev4, h⟩ := gb_s h
  refine g_iald X hI ev4 dX3_size_11 ?_
  refine lv_imul (x := v2) (y := v4) hx hb dX3_size_12 ?_
  refine lv_aload_n hx hb dX3_size_13 rfl (lv_at hl 0 rfl) ?_
  obtain ⟨g5, eg5, h⟩ := gb_s h
  refine g_get X hI (g_fA_s eg5) (C := RX3) (T := TX3) (N := 2) rfl gu_X3 (by decide) tw_1_65 dX3_size_14 ?_
  refine lv_iconst (v := 2) hx hb dX3_size_17 (by decide) ?_
  obtain ⟨v6, ev6, h⟩ := gb_s h
  refine g_iald X hI ev6 dX3_size_18 ?_
  refine lv_imul (x := (v2 * v4)) (y := v6) hx hb dX3_size_19 ?_
  have h := Option.some.inj h
  subst h
  exact g_iret X hI dX3_size_20
abbrev rm_X3_extentFromFirst : Room := { frames := 0, cells := 0, slots := 0, locals := 0 }
def f_X3_extentFromFirst (G : gG) (th : Nat) (a1 : Int32) : Option Int32 :=
  gb (g_fI G th 2 0) fun v1 =>
  gl (((v1 - 1) - a1) : Int32) fun v2 =>
  if a1 < 0 then
    some (-3)
  else
  if v2 < 0 then
    some (-3)
  else
  if (3 : Int32) ≤ v2 then
    some (-3)
  else
  gb (g_fA G th 2 1) fun g3 =>
  gb (g_il G g3 v2) fun v4 =>
  some v4
theorem gm_X3_extentFromFirst : g_M yX3_extentFromFirst cX3_extentFromFirst 3 (some .int) 1 := ⟨tw_1_225, tw_1_4, by decide +kernel, Or.inl (by decide +kernel)⟩
set_option maxHeartbeats 4000000 in
set_option maxRecDepth 100000 in
theorem c_X3_extentFromFirst {l : Launch} {E : gE} {G : gG} {n : Nat} {th : Nat} {a1 : Int32} {r : Int32} (h : f_X3_extentFromFirst G th a1 = some r) : g_Met l yX3_extentFromFirst cX3_extentFromFirst 3 (some .int) rm_X3_extentFromFirst E G n [.ref th, .int a1] (some (.int r)) G n := by
  refine g_ofW gm_X3_extentFromFirst (Nat.le_of_ble_eq_true rfl) ?_
  intro p e s m below meth c ls X hl hI
  have hx := X.1
  have hb := X.2.1
  have X : g_X E G n p s m _ meth c cX3_extentFromFirst 3 RX3 "extentFromFirst" (some .int) := X
  have hl : lv_has ls 3 [(0, .ref th), (1, .int a1)] := hl
  unfold f_X3_extentFromFirst at h
  refine lv_aload_n hx hb dX3_extentFromFirst_0 rfl (lv_at hl 0 rfl) ?_
  obtain ⟨v1, ev1, h⟩ := gb_s h
  refine g_get X hI (g_fI_s ev1) (C := RX3) (T := TX3) (N := 2) rfl gu_X3 (by decide) tw_1_63 dX3_extentFromFirst_1 ?_
  refine lv_iconst (v := 1) hx hb dX3_extentFromFirst_4 (by decide) ?_
  refine lv_isub (x := v1) (y := 1) hx hb dX3_extentFromFirst_5 ?_
  refine lv_iload_n hx hb dX3_extentFromFirst_6 rfl (lv_at hl 1 rfl) ?_
  refine lv_isub (x := (v1 - 1)) (y := a1) hx hb dX3_extentFromFirst_7 ?_
  obtain ⟨v2, ev2, h⟩ := gl_s h
  refine g_topi ev2 ?_
  refine lv_istore_n (lv' := [(2, .int v2), (0, .ref th), (1, .int a1)]) hx hb dX3_extentFromFirst_8 rfl hl (by decide) rfl (fun ls hl => ?_)
  refine lv_iload_n hx hb dX3_extentFromFirst_9 rfl (lv_at hl 2 rfl) ?_
  refine lv_if_lt (tgt := 31) hx hb dX3_extentFromFirst_10 (by decide) (fun c => ?_) (fun c => ?_)
  · have h := g_t _ c h
    refine lv_bipush (v := (-3)) hx hb dX3_extentFromFirst_31 (by decide) ?_
    have h := Option.some.inj h
    subst h
    exact g_iret X hI dX3_extentFromFirst_33
  · have h := g_f _ c h
    refine lv_iload_n hx hb dX3_extentFromFirst_13 rfl (lv_at hl 0 rfl) ?_
    refine lv_if_lt (tgt := 31) hx hb dX3_extentFromFirst_14 (by decide) (fun c => ?_) (fun c => ?_)
    · have h := g_t _ c h
      refine lv_bipush (v := (-3)) hx hb dX3_extentFromFirst_31 (by decide) ?_
      have h := Option.some.inj h
      subst h
      exact g_iret X hI dX3_extentFromFirst_33
    · have h := g_f _ c h
      refine lv_iload_n hx hb dX3_extentFromFirst_17 rfl (lv_at hl 0 rfl) ?_
      refine lv_iconst (v := 3) hx hb dX3_extentFromFirst_18 (by decide) ?_
      refine lv_icmp_ge (tgt := 31) hx hb dX3_extentFromFirst_19 (by decide) (fun c => ?_) (fun c => ?_)
      · have h := g_t _ c h
        refine lv_bipush (v := (-3)) hx hb dX3_extentFromFirst_31 (by decide) ?_
        have h := Option.some.inj h
        subst h
        exact g_iret X hI dX3_extentFromFirst_33
      · have h := g_f _ c h
        refine lv_aload_n hx hb dX3_extentFromFirst_22 rfl (lv_at hl 1 rfl) ?_
        obtain ⟨g3, eg3, h⟩ := gb_s h
        refine g_get X hI (g_fA_s eg3) (C := RX3) (T := TX3) (N := 2) rfl gu_X3 (by decide) tw_1_65 dX3_extentFromFirst_23 ?_
        refine lv_iload_n hx hb dX3_extentFromFirst_26 rfl (lv_at hl 0 rfl) ?_
        obtain ⟨v4, ev4, h⟩ := gb_s h
        refine g_iald X hI ev4 dX3_extentFromFirst_27 ?_
        refine lv_goto (tgt := 33) hx hb dX3_extentFromFirst_28 (by decide) ?_
        have h := Option.some.inj h
        subst h
        exact g_iret X hI dX3_extentFromFirst_33
abbrev rm_X3_isLike : Room := { frames := 0, cells := 0, slots := 0, locals := 0 }
def f_X3_isLike (G : gG) (th : Nat) (a1 : Nat) : Option Int32 :=
  gb (g_fI G th 2 0) fun v1 =>
  gb (g_fI G a1 2 0) fun v2 =>
  if v1 = v2 then
    gb (g_fA G th 2 1) fun g3 =>
    gb (g_il G g3 0) fun v4 =>
    gb (g_fA G a1 2 1) fun g5 =>
    gb (g_il G g5 0) fun v6 =>
    if v4 = v6 then
      gb (g_fA G th 2 1) fun g7 =>
      gb (g_il G g7 1) fun v8 =>
      gb (g_fA G a1 2 1) fun g9 =>
      gb (g_il G g9 1) fun v10 =>
      if v8 = v10 then
        gb (g_fA G th 2 1) fun g11 =>
        gb (g_il G g11 2) fun v12 =>
        gb (g_fA G a1 2 1) fun g13 =>
        gb (g_il G g13 2) fun v14 =>
        if v12 = v14 then
          some 1
        else
        some 0
      else
      some 0
    else
    some 0
  else
  some 0
theorem gm_X3_isLike : g_M yX3_isLike cX3_isLike 2 (some .boolean) 1 := ⟨tw_2_206, tw_1_4, by decide +kernel, Or.inl (by decide +kernel)⟩
set_option maxHeartbeats 4000000 in
set_option maxRecDepth 100000 in
theorem c_X3_isLike {l : Launch} {E : gE} {G : gG} {n : Nat} {th : Nat} {a1 : Nat} {r : Int32} (h : f_X3_isLike G th a1 = some r) : g_Met l yX3_isLike cX3_isLike 2 (some .boolean) rm_X3_isLike E G n [.ref th, .ref a1] (some (.int r)) G n := by
  refine g_ofW gm_X3_isLike (Nat.le_of_ble_eq_true rfl) ?_
  intro p e s m below meth c ls X hl hI
  have hx := X.1
  have hb := X.2.1
  have X : g_X E G n p s m _ meth c cX3_isLike 2 RX3 "isLike" (some .boolean) := X
  have hl : lv_has ls 2 [(0, .ref th), (1, .ref a1)] := hl
  unfold f_X3_isLike at h
  refine lv_aload_n hx hb dX3_isLike_0 rfl (lv_at hl 0 rfl) ?_
  obtain ⟨v1, ev1, h⟩ := gb_s h
  refine g_get X hI (g_fI_s ev1) (C := RX3) (T := TX3) (N := 2) rfl gu_X3 (by decide) tw_1_63 dX3_isLike_1 ?_
  refine lv_aload_n hx hb dX3_isLike_4 rfl (lv_at hl 1 rfl) ?_
  obtain ⟨v2, ev2, h⟩ := gb_s h
  refine g_get X hI (g_fI_s ev2) (C := RX3) (T := TX3) (N := 2) rfl gu_X3 (by decide) tw_1_63 dX3_isLike_5 ?_
  refine lv_icmp_ne (tgt := 60) hx hb dX3_isLike_8 (by decide) (fun c => ?_) (fun c => ?_)
  · have h := g_f _ c h
    refine lv_iconst (v := 0) hx hb dX3_isLike_60 (by decide) ?_
    have h := Option.some.inj h
    subst h
    exact g_zret X hI (Or.inl rfl) dX3_isLike_61
  · have h := g_t _ c h
    refine lv_aload_n hx hb dX3_isLike_11 rfl (lv_at hl 0 rfl) ?_
    obtain ⟨g3, eg3, h⟩ := gb_s h
    refine g_get X hI (g_fA_s eg3) (C := RX3) (T := TX3) (N := 2) rfl gu_X3 (by decide) tw_1_65 dX3_isLike_12 ?_
    refine lv_iconst (v := 0) hx hb dX3_isLike_15 (by decide) ?_
    obtain ⟨v4, ev4, h⟩ := gb_s h
    refine g_iald X hI ev4 dX3_isLike_16 ?_
    refine lv_aload_n hx hb dX3_isLike_17 rfl (lv_at hl 1 rfl) ?_
    obtain ⟨g5, eg5, h⟩ := gb_s h
    refine g_get X hI (g_fA_s eg5) (C := RX3) (T := TX3) (N := 2) rfl gu_X3 (by decide) tw_1_65 dX3_isLike_18 ?_
    refine lv_iconst (v := 0) hx hb dX3_isLike_21 (by decide) ?_
    obtain ⟨v6, ev6, h⟩ := gb_s h
    refine g_iald X hI ev6 dX3_isLike_22 ?_
    refine lv_icmp_ne (tgt := 60) hx hb dX3_isLike_23 (by decide) (fun c => ?_) (fun c => ?_)
    · have h := g_f _ c h
      refine lv_iconst (v := 0) hx hb dX3_isLike_60 (by decide) ?_
      have h := Option.some.inj h
      subst h
      exact g_zret X hI (Or.inl rfl) dX3_isLike_61
    · have h := g_t _ c h
      refine lv_aload_n hx hb dX3_isLike_26 rfl (lv_at hl 0 rfl) ?_
      obtain ⟨g7, eg7, h⟩ := gb_s h
      refine g_get X hI (g_fA_s eg7) (C := RX3) (T := TX3) (N := 2) rfl gu_X3 (by decide) tw_1_65 dX3_isLike_27 ?_
      refine lv_iconst (v := 1) hx hb dX3_isLike_30 (by decide) ?_
      obtain ⟨v8, ev8, h⟩ := gb_s h
      refine g_iald X hI ev8 dX3_isLike_31 ?_
      refine lv_aload_n hx hb dX3_isLike_32 rfl (lv_at hl 1 rfl) ?_
      obtain ⟨g9, eg9, h⟩ := gb_s h
      refine g_get X hI (g_fA_s eg9) (C := RX3) (T := TX3) (N := 2) rfl gu_X3 (by decide) tw_1_65 dX3_isLike_33 ?_
      refine lv_iconst (v := 1) hx hb dX3_isLike_36 (by decide) ?_
      obtain ⟨v10, ev10, h⟩ := gb_s h
      refine g_iald X hI ev10 dX3_isLike_37 ?_
      refine lv_icmp_ne (tgt := 60) hx hb dX3_isLike_38 (by decide) (fun c => ?_) (fun c => ?_)
      · have h := g_f _ c h
        refine lv_iconst (v := 0) hx hb dX3_isLike_60 (by decide) ?_
        have h := Option.some.inj h
        subst h
        exact g_zret X hI (Or.inl rfl) dX3_isLike_61
      · have h := g_t _ c h
        refine lv_aload_n hx hb dX3_isLike_41 rfl (lv_at hl 0 rfl) ?_
        obtain ⟨g11, eg11, h⟩ := gb_s h
        refine g_get X hI (g_fA_s eg11) (C := RX3) (T := TX3) (N := 2) rfl gu_X3 (by decide) tw_1_65 dX3_isLike_42 ?_
        refine lv_iconst (v := 2) hx hb dX3_isLike_45 (by decide) ?_
        obtain ⟨v12, ev12, h⟩ := gb_s h
        refine g_iald X hI ev12 dX3_isLike_46 ?_
        refine lv_aload_n hx hb dX3_isLike_47 rfl (lv_at hl 1 rfl) ?_
        obtain ⟨g13, eg13, h⟩ := gb_s h
        refine g_get X hI (g_fA_s eg13) (C := RX3) (T := TX3) (N := 2) rfl gu_X3 (by decide) tw_1_65 dX3_isLike_48 ?_
        refine lv_iconst (v := 2) hx hb dX3_isLike_51 (by decide) ?_
        obtain ⟨v14, ev14, h⟩ := gb_s h
        refine g_iald X hI ev14 dX3_isLike_52 ?_
        refine lv_icmp_ne (tgt := 60) hx hb dX3_isLike_53 (by decide) (fun c => ?_) (fun c => ?_)
        · have h := g_f _ c h
          refine lv_iconst (v := 0) hx hb dX3_isLike_60 (by decide) ?_
          have h := Option.some.inj h
          subst h
          exact g_zret X hI (Or.inl rfl) dX3_isLike_61
        · have h := g_t _ c h
          refine lv_iconst (v := 1) hx hb dX3_isLike_56 (by decide) ?_
          refine lv_goto (tgt := 61) hx hb dX3_isLike_57 (by decide) ?_
          have h := Option.some.inj h
          subst h
          exact g_zret X hI (Or.inr rfl) dX3_isLike_61
abbrev rm_X3_numberAt : Room := { frames := 1, cells := 0, slots := 0, locals := 22 }
def f_X3_numberAt_35 (k6 : gG → Nat → Int32 → Int32 → Int32 → Int32 → Int32 → Option Int32) (G : gG) (x0 : Nat) (x1 : Int32) (x2 : Int32) (x3 : Int32) (x4 : Int32) (x5 : Int32) (s0 : Int32) : Option Int32 :=
  gck (g_isO G x0 2) <|
  gb (f_X3_extentFromFirst G x0 x5) fun r1 =>
  if s0 < 0 then
    some (-3)
  else
  if s0 < r1 then
    gl (((x4 * r1) + s0) : Int32) fun v2 =>
    gl (x5 + 1 : Int32) fun v3 =>
    k6 G x0 x1 x2 x3 v2 v3
  else
  some (-3)
set_option maxHeartbeats 4000000 in
set_option maxRecDepth 100000 in
theorem b_X3_numberAt_35 {p : Program} {l : Launch} {e : Env} {s : State} {m : MethodId} {args : Array Value} {below : List Frame} {meth : Method} {c : Code} {E : gE} {G0 : gG} {n0 : Nat} (X : g_X E G0 n0 p s m args meth c cX3_numberAt 8 RX3 "numberAt" (some .int)) {G : gG} {n : Nat} {r : Int32} {k6 : gG → Nat → Int32 → Int32 → Int32 → Int32 → Int32 → Option Int32} (hk6 : ∀ {H : Heap} {locs : List Loc} (_ : g_I E (g_A G0 n0) G n s.heap H locs) {x0 : Nat} {x1 : Int32} {x2 : Int32} {x3 : Int32} {x4 : Int32} {x5 : Int32}  (_ : k6 G x0 x1 x2 x3 x4 x5 = some r) {ls : Array Slot} (_ : lv_has ls 8 [(0, .ref x0), (1, .int x1), (2, .int x2), (3, .int x3), (4, .int x4), (5, .int x5)]), W p l e rm_X3_numberAt s m args below meth c H locs 0 0 (MQ below (g_Q E G0 n0 (some (.int r)) G n) args s rm_X3_numberAt.cells rm_X3_numberAt.slots (g_A G0 n0)) (F0 m 6 ls [])) {H : Heap} {locs : List Loc} (hI : g_I E (g_A G0 n0) G n s.heap H locs) {x0 : Nat} {x1 : Int32} {x2 : Int32} {x3 : Int32} {x4 : Int32} {x5 : Int32} {s0 : Int32} (h : f_X3_numberAt_35 k6 G x0 x1 x2 x3 x4 x5 s0 = some r) {ls : Array Slot} (hl : lv_has ls 8 [(0, .ref x0), (1, .int x1), (2, .int x2), (3, .int x3), (4, .int x4), (5, .int x5)]) : W p l e rm_X3_numberAt s m args below meth c H locs 0 0 (MQ below (g_Q E G0 n0 (some (.int r)) G n) args s rm_X3_numberAt.cells rm_X3_numberAt.slots (g_A G0 n0)) (F0 m 35 ls [.int s0]) := by
  have hx := X.1
  have hb := X.2.1
  unfold f_X3_numberAt_35 at h
  refine lv_istore (lv' := [(6, .int s0), (0, .ref x0), (1, .int x1), (2, .int x2), (3, .int x3), (4, .int x4), (5, .int x5)]) hx hb dX3_numberAt_35 hl (by decide) rfl (fun ls hl => ?_)
  refine lv_aload_n hx hb dX3_numberAt_37 rfl (lv_at hl 1 rfl) ?_
  refine lv_iload hx hb dX3_numberAt_38 (lv_at hl 6 rfl) ?_
  obtain ⟨cO, h⟩ := gck_s h
  obtain ⟨r1, er1, h⟩ := gb_s h
  refine g_callV X hI (q := (RX3, TX3, 2)) (b := x0) (av := [.int x5]) cO rfl (c_X3_extentFromFirst er1) gm_X3_extentFromFirst tw_1_222 tw_1_223 tw_1_224 ⟨by decide, by decide⟩ hl.1 (rest := []) rfl (Nat.le_of_ble_eq_true rfl) dX3_numberAt_40 ⟨by decide, by decide⟩ (st1 := [.int r1]) rfl (cells' := 0) (slots' := 0) rfl rfl (fun H locs hI => ?_)
  refine lv_istore (lv' := [(7, .int r1), (6, .int s0), (0, .ref x0), (1, .int x1), (2, .int x2), (3, .int x3), (4, .int x4), (5, .int x5)]) hx hb dX3_numberAt_43 hl (by decide) rfl (fun ls hl => ?_)
  refine lv_iload hx hb dX3_numberAt_45 (lv_at hl 1 rfl) ?_
  refine lv_if_lt (tgt := 57) hx hb dX3_numberAt_47 (by decide) (fun c => ?_) (fun c => ?_)
  · have h := g_t _ c h
    refine lv_bipush (v := (-3)) hx hb dX3_numberAt_57 (by decide) ?_
    have h := Option.some.inj h
    subst h
    exact g_iret X hI dX3_numberAt_59
  · have h := g_f _ c h
    refine lv_iload hx hb dX3_numberAt_50 (lv_at hl 1 rfl) ?_
    refine lv_iload hx hb dX3_numberAt_52 (lv_at hl 0 rfl) ?_
    refine lv_icmp_lt (tgt := 60) hx hb dX3_numberAt_54 (by decide) (fun c => ?_) (fun c => ?_)
    · have h := g_t _ c h
      refine lv_iload hx hb dX3_numberAt_60 (lv_at hl 6 rfl) ?_
      refine lv_iload hx hb dX3_numberAt_62 (lv_at hl 0 rfl) ?_
      refine lv_imul (x := x4) (y := r1) hx hb dX3_numberAt_64 ?_
      refine lv_iload hx hb dX3_numberAt_65 (lv_at hl 1 rfl) ?_
      refine lv_iadd (x := (x4 * r1)) (y := s0) hx hb dX3_numberAt_67 ?_
      obtain ⟨v2, ev2, h⟩ := gl_s h
      refine g_topi ev2 ?_
      refine lv_istore (lv' := [(4, .int v2), (7, .int r1), (6, .int s0), (0, .ref x0), (1, .int x1), (2, .int x2), (3, .int x3), (5, .int x5)]) hx hb dX3_numberAt_68 hl (by decide) rfl (fun ls hl => ?_)
      obtain ⟨v3, ev3, h⟩ := gl_s h
      refine lv_iinc (v := v3) (lv' := [(5, .int v3), (4, .int v2), (7, .int r1), (6, .int s0), (0, .ref x0), (1, .int x1), (2, .int x2), (3, .int x3)]) hx hb dX3_numberAt_70 hl (k := 7) rfl (by rw [← ev3]; rfl) (by decide) rfl (fun ls hl => ?_)
      refine lv_goto (tgt := 6) hx hb dX3_numberAt_73 (by decide) ?_
      exact hk6 hI h (lv_sub hl [4, 5, 6, 7, 1, 0] rfl)
    · have h := g_f _ c h
      refine lv_bipush (v := (-3)) hx hb dX3_numberAt_57 (by decide) ?_
      have h := Option.some.inj h
      subst h
      exact g_iret X hI dX3_numberAt_59
def f_X3_numberAt_6 : Nat → gG → Nat → Int32 → Int32 → Int32 → Int32 → Int32 → Option Int32
  | 0, _, _, _, _, _, _, _ => none
  | fu + 1, G, x0, x1, x2, x3, x4, x5 =>
    gb (g_fI G x0 2 0) fun v1 =>
    if v1 ≤ x5 then
      some x4
    else
    if x5 = 0 then
      f_X3_numberAt_35 (f_X3_numberAt_6 fu) G x0 x1 x2 x3 x4 x5 x1
    else
    if x5 = 1 then
      f_X3_numberAt_35 (f_X3_numberAt_6 fu) G x0 x1 x2 x3 x4 x5 x2
    else
    f_X3_numberAt_35 (f_X3_numberAt_6 fu) G x0 x1 x2 x3 x4 x5 x3
set_option maxHeartbeats 4000000 in
set_option maxRecDepth 100000 in
theorem b_X3_numberAt_6 {p : Program} {l : Launch} {e : Env} {s : State} {m : MethodId} {args : Array Value} {below : List Frame} {meth : Method} {c : Code} {E : gE} {G0 : gG} {n0 : Nat} (X : g_X E G0 n0 p s m args meth c cX3_numberAt 8 RX3 "numberAt" (some .int)) {G : gG} {n : Nat} {r : Int32} (fu : Nat) : ∀ {H : Heap} {locs : List Loc} (_ : g_I E (g_A G0 n0) G n s.heap H locs) {x0 : Nat} {x1 : Int32} {x2 : Int32} {x3 : Int32} {x4 : Int32} {x5 : Int32} (_ : f_X3_numberAt_6 fu G x0 x1 x2 x3 x4 x5 = some r) {ls : Array Slot} (_ : lv_has ls 8 [(0, .ref x0), (1, .int x1), (2, .int x2), (3, .int x3), (4, .int x4), (5, .int x5)]), W p l e rm_X3_numberAt s m args below meth c H locs 0 0 (MQ below (g_Q E G0 n0 (some (.int r)) G n) args s rm_X3_numberAt.cells rm_X3_numberAt.slots (g_A G0 n0)) (F0 m 6 ls []) := by
  have hx := X.1
  have hb := X.2.1
  induction fu with
  | zero =>
    intro H locs hI x0 x1 x2 x3 x4 x5 h ls hl
    rw [f_X3_numberAt_6] at h
    cases h
  | succ fu ih =>
    intro H locs hI x0 x1 x2 x3 x4 x5 h ls hl
    rw [f_X3_numberAt_6] at h
    refine lv_iload hx hb dX3_numberAt_6 (lv_at hl 5 rfl) ?_
    refine lv_aload_n hx hb dX3_numberAt_8 rfl (lv_at hl 0 rfl) ?_
    obtain ⟨v1, ev1, h⟩ := gb_s h
    refine g_get X hI (g_fI_s ev1) (C := RX3) (T := TX3) (N := 2) rfl gu_X3 (by decide) tw_1_63 dX3_numberAt_9 ?_
    refine lv_icmp_ge (tgt := 76) hx hb dX3_numberAt_12 (by decide) (fun c => ?_) (fun c => ?_)
    · have h := g_t _ c h
      refine lv_iload hx hb dX3_numberAt_76 (lv_at hl 4 rfl) ?_
      have h := Option.some.inj h
      subst h
      exact g_iret X hI dX3_numberAt_78
    · have h := g_f _ c h
      refine lv_iload hx hb dX3_numberAt_15 (lv_at hl 5 rfl) ?_
      refine lv_if_ne (tgt := 24) hx hb dX3_numberAt_17 (by decide) (fun c => ?_) (fun c => ?_)
      · have h := g_f _ c h
        refine lv_iload hx hb dX3_numberAt_24 (lv_at hl 5 rfl) ?_
        refine lv_iconst (v := 1) hx hb dX3_numberAt_26 (by decide) ?_
        refine lv_icmp_ne (tgt := 34) hx hb dX3_numberAt_27 (by decide) (fun c => ?_) (fun c => ?_)
        · have h := g_f _ c h
          refine lv_iload_n hx hb dX3_numberAt_34 rfl (lv_at hl 3 rfl) ?_
          exact b_X3_numberAt_35 X ih hI h (lv_sub hl [0, 1, 2, 3, 4, 5] rfl)
        · have h := g_t _ c h
          refine lv_iload_n hx hb dX3_numberAt_30 rfl (lv_at hl 2 rfl) ?_
          refine lv_goto (tgt := 35) hx hb dX3_numberAt_31 (by decide) ?_
          exact b_X3_numberAt_35 X ih hI h (lv_sub hl [0, 1, 2, 3, 4, 5] rfl)
      · have h := g_t _ c h
        refine lv_iload_n hx hb dX3_numberAt_20 rfl (lv_at hl 1 rfl) ?_
        refine lv_goto (tgt := 35) hx hb dX3_numberAt_21 (by decide) ?_
        exact b_X3_numberAt_35 X ih hI h (lv_sub hl [0, 1, 2, 3, 4, 5] rfl)
def f_X3_numberAt (G : gG) (th : Nat) (a1 : Int32) (a2 : Int32) (a3 : Int32) : Option Int32 :=
  f_X3_numberAt_6 5000 G th a1 a2 a3 0 0
theorem gm_X3_numberAt : g_M yX3_numberAt cX3_numberAt 8 (some .int) 3 := ⟨tw_1_221, tw_1_4, by decide +kernel, Or.inl (by decide +kernel)⟩
set_option maxHeartbeats 4000000 in
set_option maxRecDepth 100000 in
theorem c_X3_numberAt {l : Launch} {E : gE} {G : gG} {n : Nat} {th : Nat} {a1 : Int32} {a2 : Int32} {a3 : Int32} {r : Int32} (h : f_X3_numberAt G th a1 a2 a3 = some r) : g_Met l yX3_numberAt cX3_numberAt 8 (some .int) rm_X3_numberAt E G n [.ref th, .int a1, .int a2, .int a3] (some (.int r)) G n := by
  refine g_ofW gm_X3_numberAt (Nat.le_of_ble_eq_true rfl) ?_
  intro p e s m below meth c ls X hl hI
  have hx := X.1
  have hb := X.2.1
  have X : g_X E G n p s m _ meth c cX3_numberAt 8 RX3 "numberAt" (some .int) := X
  have hl : lv_has ls 8 [(0, .ref th), (1, .int a1), (2, .int a2), (3, .int a3)] := hl
  unfold f_X3_numberAt at h
  refine lv_iconst (v := 0) hx hb dX3_numberAt_0 (by decide) ?_
  refine lv_istore (lv' := [(4, .int 0), (0, .ref th), (1, .int a1), (2, .int a2), (3, .int a3)]) hx hb dX3_numberAt_1 hl (by decide) rfl (fun ls hl => ?_)
  refine lv_iconst (v := 0) hx hb dX3_numberAt_3 (by decide) ?_
  refine lv_istore (lv' := [(5, .int 0), (4, .int 0), (0, .ref th), (1, .int a1), (2, .int a2), (3, .int a3)]) hx hb dX3_numberAt_4 hl (by decide) rfl (fun ls hl => ?_)
  exact b_X3_numberAt_6 X 5000 hI h (lv_sub hl [2, 3, 4, 5, 1, 0] rfl)
abbrev rm_X3_numberUnder : Room := { frames := 0, cells := 0, slots := 0, locals := 0 }
def f_X3_numberUnder_69 (k11 : gG → Nat → Nat → Int32 → Int32 → Int32 → Int32 → Option Int32) (G : gG) (x0 : Nat) (x2 : Nat) (x3 : Int32) (x4 : Int32) (x5 : Int32) (x6 : Int32) (x7 : Int32) : Option Int32 :=
  gne x7 <|
  gl ((x5 / x7) : Int32) fun v1 =>
  gl (x6 + 1 : Int32) fun v2 =>
  k11 G x0 x2 x3 x4 v1 v2
set_option maxHeartbeats 4000000 in
set_option maxRecDepth 100000 in
theorem b_X3_numberUnder_69 {p : Program} {l : Launch} {e : Env} {s : State} {m : MethodId} {args : Array Value} {below : List Frame} {meth : Method} {c : Code} {E : gE} {G0 : gG} {n0 : Nat} (X : g_X E G0 n0 p s m args meth c cX3_numberUnder 8 RX3 "numberUnder" (some .int)) {G : gG} {n : Nat} {r : Int32} {k11 : gG → Nat → Nat → Int32 → Int32 → Int32 → Int32 → Option Int32} (hk11 : ∀ {H : Heap} {locs : List Loc} (_ : g_I E (g_A G0 n0) G n s.heap H locs) {x0 : Nat} {x2 : Nat} {x3 : Int32} {x4 : Int32} {x5 : Int32} {x6 : Int32}  (_ : k11 G x0 x2 x3 x4 x5 x6 = some r) {ls : Array Slot} (_ : lv_has ls 8 [(0, .ref x0), (2, .ref x2), (3, .int x3), (4, .int x4), (5, .int x5), (6, .int x6)]), W p l e rm_X3_numberUnder s m args below meth c H locs 0 0 (MQ below (g_Q E G0 n0 (some (.int r)) G n) args s rm_X3_numberUnder.cells rm_X3_numberUnder.slots (g_A G0 n0)) (F0 m 11 ls [])) {H : Heap} {locs : List Loc} (hI : g_I E (g_A G0 n0) G n s.heap H locs) {x0 : Nat} {x2 : Nat} {x3 : Int32} {x4 : Int32} {x5 : Int32} {x6 : Int32} {x7 : Int32} (h : f_X3_numberUnder_69 k11 G x0 x2 x3 x4 x5 x6 x7 = some r) {ls : Array Slot} (hl : lv_has ls 8 [(0, .ref x0), (2, .ref x2), (3, .int x3), (4, .int x4), (5, .int x5), (6, .int x6), (7, .int x7)]) : W p l e rm_X3_numberUnder s m args below meth c H locs 0 0 (MQ below (g_Q E G0 n0 (some (.int r)) G n) args s rm_X3_numberUnder.cells rm_X3_numberUnder.slots (g_A G0 n0)) (F0 m 69 ls []) := by
  have hx := X.1
  have hb := X.2.1
  unfold f_X3_numberUnder_69 at h
  refine lv_iload hx hb dX3_numberUnder_69 (lv_at hl 4 rfl) ?_
  refine lv_iload hx hb dX3_numberUnder_71 (lv_at hl 6 rfl) ?_
  obtain ⟨cz, h⟩ := gne_s h
  refine lv_idiv hx hb dX3_numberUnder_73 cz ?_
  obtain ⟨v1, ev1, h⟩ := gl_s h
  refine g_topi ev1 ?_
  refine lv_istore (lv' := [(5, .int v1), (0, .ref x0), (2, .ref x2), (3, .int x3), (4, .int x4), (6, .int x6), (7, .int x7)]) hx hb dX3_numberUnder_74 hl (by decide) rfl (fun ls hl => ?_)
  obtain ⟨v2, ev2, h⟩ := gl_s h
  refine lv_iinc (v := v2) (lv' := [(6, .int v2), (5, .int v1), (0, .ref x0), (2, .ref x2), (3, .int x3), (4, .int x4), (7, .int x7)]) hx hb dX3_numberUnder_76 hl (k := 5) rfl (by rw [← ev2]; rfl) (by decide) rfl (fun ls hl => ?_)
  refine lv_goto (tgt := 11) hx hb dX3_numberUnder_79 (by decide) ?_
  exact hk11 hI h (lv_sub hl [2, 3, 4, 5, 1, 0] rfl)
def f_X3_numberUnder_11 : Nat → gG → Nat → Nat → Int32 → Int32 → Int32 → Int32 → Option Int32
  | 0, _, _, _, _, _, _, _ => none
  | fu + 1, G, x0, x2, x3, x4, x5, x6 =>
    if (3 : Int32) ≤ x6 then
      some x3
    else
    gb (g_fA G x2 2 1) fun g1 =>
    gb (g_il G g1 x6) fun v2 =>
    if (1 : Int32) ≤ v2 then
      gb (g_fA G x0 2 1) fun g3 =>
      gb (g_il G g3 x6) fun v4 =>
      if v4 = 1 then
        f_X3_numberUnder_69 (f_X3_numberUnder_11 fu) G x0 x2 x3 x4 x5 x6 v2
      else
      gne v2 <|
      gl ((x3 + ((g_irem x5 v2) * x4)) : Int32) fun v5 =>
      gb (g_fA G x0 2 1) fun g6 =>
      gb (g_il G g6 x6) fun v7 =>
      gl ((x4 * v7) : Int32) fun v8 =>
      f_X3_numberUnder_69 (f_X3_numberUnder_11 fu) G x0 x2 v5 v8 x5 x6 v2
    else
    some (-3)
set_option maxHeartbeats 4000000 in
set_option maxRecDepth 100000 in
theorem b_X3_numberUnder_11 {p : Program} {l : Launch} {e : Env} {s : State} {m : MethodId} {args : Array Value} {below : List Frame} {meth : Method} {c : Code} {E : gE} {G0 : gG} {n0 : Nat} (X : g_X E G0 n0 p s m args meth c cX3_numberUnder 8 RX3 "numberUnder" (some .int)) {G : gG} {n : Nat} {r : Int32} (fu : Nat) : ∀ {H : Heap} {locs : List Loc} (_ : g_I E (g_A G0 n0) G n s.heap H locs) {x0 : Nat} {x2 : Nat} {x3 : Int32} {x4 : Int32} {x5 : Int32} {x6 : Int32} (_ : f_X3_numberUnder_11 fu G x0 x2 x3 x4 x5 x6 = some r) {ls : Array Slot} (_ : lv_has ls 8 [(0, .ref x0), (2, .ref x2), (3, .int x3), (4, .int x4), (5, .int x5), (6, .int x6)]), W p l e rm_X3_numberUnder s m args below meth c H locs 0 0 (MQ below (g_Q E G0 n0 (some (.int r)) G n) args s rm_X3_numberUnder.cells rm_X3_numberUnder.slots (g_A G0 n0)) (F0 m 11 ls []) := by
  have hx := X.1
  have hb := X.2.1
  induction fu with
  | zero =>
    intro H locs hI x0 x2 x3 x4 x5 x6 h ls hl
    rw [f_X3_numberUnder_11] at h
    cases h
  | succ fu ih =>
    intro H locs hI x0 x2 x3 x4 x5 x6 h ls hl
    rw [f_X3_numberUnder_11] at h
    refine lv_iload hx hb dX3_numberUnder_11 (lv_at hl 5 rfl) ?_
    refine lv_iconst (v := 3) hx hb dX3_numberUnder_13 (by decide) ?_
    refine lv_icmp_ge (tgt := 82) hx hb dX3_numberUnder_14 (by decide) (fun c => ?_) (fun c => ?_)
    · have h := g_t _ c h
      refine lv_iload_n hx hb dX3_numberUnder_82 rfl (lv_at hl 2 rfl) ?_
      have h := Option.some.inj h
      subst h
      exact g_iret X hI dX3_numberUnder_83
    · have h := g_f _ c h
      refine lv_aload_n hx hb dX3_numberUnder_17 rfl (lv_at hl 1 rfl) ?_
      obtain ⟨g1, eg1, h⟩ := gb_s h
      refine g_get X hI (g_fA_s eg1) (C := RX3) (T := TX3) (N := 2) rfl gu_X3 (by decide) tw_1_65 dX3_numberUnder_18 ?_
      refine lv_iload hx hb dX3_numberUnder_21 (lv_at hl 5 rfl) ?_
      obtain ⟨v2, ev2, h⟩ := gb_s h
      refine g_iald X hI ev2 dX3_numberUnder_23 ?_
      refine lv_istore (lv' := [(7, .int v2), (0, .ref x0), (2, .ref x2), (3, .int x3), (4, .int x4), (5, .int x5), (6, .int x6)]) hx hb dX3_numberUnder_24 hl (by decide) rfl (fun ls hl => ?_)
      refine lv_iload hx hb dX3_numberUnder_26 (lv_at hl 0 rfl) ?_
      refine lv_iconst (v := 1) hx hb dX3_numberUnder_28 (by decide) ?_
      refine lv_icmp_ge (tgt := 35) hx hb dX3_numberUnder_29 (by decide) (fun c => ?_) (fun c => ?_)
      · have h := g_t _ c h
        refine lv_aload_n hx hb dX3_numberUnder_35 rfl (lv_at hl 1 rfl) ?_
        obtain ⟨g3, eg3, h⟩ := gb_s h
        refine g_get X hI (g_fA_s eg3) (C := RX3) (T := TX3) (N := 2) rfl gu_X3 (by decide) tw_1_65 dX3_numberUnder_36 ?_
        refine lv_iload hx hb dX3_numberUnder_39 (lv_at hl 6 rfl) ?_
        obtain ⟨v4, ev4, h⟩ := gb_s h
        refine g_iald X hI ev4 dX3_numberUnder_41 ?_
        refine lv_iconst (v := 1) hx hb dX3_numberUnder_42 (by decide) ?_
        refine lv_icmp_eq (tgt := 69) hx hb dX3_numberUnder_43 (by decide) (fun c => ?_) (fun c => ?_)
        · have h := g_t _ c h
          exact b_X3_numberUnder_69 X ih hI h (lv_sub hl [1, 2, 3, 4, 5, 6, 0] rfl)
        · have h := g_f _ c h
          refine lv_iload_n hx hb dX3_numberUnder_46 rfl (lv_at hl 3 rfl) ?_
          refine lv_iload hx hb dX3_numberUnder_47 (lv_at hl 5 rfl) ?_
          refine lv_iload hx hb dX3_numberUnder_49 (lv_at hl 0 rfl) ?_
          obtain ⟨cz, h⟩ := gne_s h
          refine lv_irem hx hb dX3_numberUnder_51 cz ?_
          refine lv_iload hx hb dX3_numberUnder_52 (lv_at hl 4 rfl) ?_
          refine lv_imul (x := (g_irem x5 v2)) (y := x4) hx hb dX3_numberUnder_54 ?_
          refine lv_iadd (x := x3) (y := ((g_irem x5 v2) * x4)) hx hb dX3_numberUnder_55 ?_
          obtain ⟨v5, ev5, h⟩ := gl_s h
          refine g_topi ev5 ?_
          refine lv_istore_n (lv' := [(3, .int v5), (7, .int v2), (0, .ref x0), (2, .ref x2), (4, .int x4), (5, .int x5), (6, .int x6)]) hx hb dX3_numberUnder_56 rfl hl (by decide) rfl (fun ls hl => ?_)
          refine lv_iload hx hb dX3_numberUnder_57 (lv_at hl 4 rfl) ?_
          refine lv_aload_n hx hb dX3_numberUnder_59 rfl (lv_at hl 2 rfl) ?_
          obtain ⟨g6, eg6, h⟩ := gb_s h
          refine g_get X hI (g_fA_s eg6) (C := RX3) (T := TX3) (N := 2) rfl gu_X3 (by decide) tw_1_65 dX3_numberUnder_60 ?_
          refine lv_iload hx hb dX3_numberUnder_63 (lv_at hl 6 rfl) ?_
          obtain ⟨v7, ev7, h⟩ := gb_s h
          refine g_iald X hI ev7 dX3_numberUnder_65 ?_
          refine lv_imul (x := x4) (y := v7) hx hb dX3_numberUnder_66 ?_
          obtain ⟨v8, ev8, h⟩ := gl_s h
          refine g_topi ev8 ?_
          refine lv_istore (lv' := [(4, .int v8), (3, .int v5), (7, .int v2), (0, .ref x0), (2, .ref x2), (5, .int x5), (6, .int x6)]) hx hb dX3_numberUnder_67 hl (by decide) rfl (fun ls hl => ?_)
          exact b_X3_numberUnder_69 X ih hI h (lv_sub hl [3, 4, 1, 0, 5, 6, 2] rfl)
      · have h := g_f _ c h
        refine lv_bipush (v := (-3)) hx hb dX3_numberUnder_32 (by decide) ?_
        have h := Option.some.inj h
        subst h
        exact g_iret X hI dX3_numberUnder_34
def f_X3_numberUnder (G : gG) (th : Nat) (a1 : Int32) (a2 : Nat) : Option Int32 :=
  f_X3_numberUnder_11 5000 G th a2 0 1 a1 0
theorem gm_X3_numberUnder : g_M yX3_numberUnder cX3_numberUnder 8 (some .int) 2 := ⟨tw_2_37, tw_1_4, by decide +kernel, Or.inl (by decide +kernel)⟩
set_option maxHeartbeats 4000000 in
set_option maxRecDepth 100000 in
theorem c_X3_numberUnder {l : Launch} {E : gE} {G : gG} {n : Nat} {th : Nat} {a1 : Int32} {a2 : Nat} {r : Int32} (h : f_X3_numberUnder G th a1 a2 = some r) : g_Met l yX3_numberUnder cX3_numberUnder 8 (some .int) rm_X3_numberUnder E G n [.ref th, .int a1, .ref a2] (some (.int r)) G n := by
  refine g_ofW gm_X3_numberUnder (Nat.le_of_ble_eq_true rfl) ?_
  intro p e s m below meth c ls X hl hI
  have hx := X.1
  have hb := X.2.1
  have X : g_X E G n p s m _ meth c cX3_numberUnder 8 RX3 "numberUnder" (some .int) := X
  have hl : lv_has ls 8 [(0, .ref th), (1, .int a1), (2, .ref a2)] := hl
  unfold f_X3_numberUnder at h
  refine lv_iconst (v := 0) hx hb dX3_numberUnder_0 (by decide) ?_
  refine lv_istore_n (lv' := [(3, .int 0), (0, .ref th), (1, .int a1), (2, .ref a2)]) hx hb dX3_numberUnder_1 rfl hl (by decide) rfl (fun ls hl => ?_)
  refine lv_iconst (v := 1) hx hb dX3_numberUnder_2 (by decide) ?_
  refine lv_istore (lv' := [(4, .int 1), (3, .int 0), (0, .ref th), (1, .int a1), (2, .ref a2)]) hx hb dX3_numberUnder_3 hl (by decide) rfl (fun ls hl => ?_)
  refine lv_iload_n hx hb dX3_numberUnder_5 rfl (lv_at hl 3 rfl) ?_
  refine lv_istore (lv' := [(5, .int a1), (4, .int 1), (3, .int 0), (0, .ref th), (1, .int a1), (2, .ref a2)]) hx hb dX3_numberUnder_6 hl (by decide) rfl (fun ls hl => ?_)
  refine lv_iconst (v := 0) hx hb dX3_numberUnder_8 (by decide) ?_
  refine lv_istore (lv' := [(6, .int 0), (5, .int a1), (4, .int 1), (3, .int 0), (0, .ref th), (1, .int a1), (2, .ref a2)]) hx hb dX3_numberUnder_9 hl (by decide) rfl (fun ls hl => ?_)
  exact b_X3_numberUnder_11 X 5000 hI h (lv_sub hl [4, 6, 3, 2, 1, 0] rfl)
abbrev rm_X4_init : Room := { frames := 2, cells := 3, slots := 245, locals := 60 }
def f_X4_init (G : gG) (n : Nat) (th : Nat) (a1 : Int32) (a2 : Nat) (a3 : Int32) : Option (gG × Nat) :=
  gl (g_up G n (.inl (2, [.int 0, .null]))) fun G1 =>
  gb2 (f_X3_init G1 (n + 1) n) fun G2 n3 =>
  gb (g_sA G2 th 3 1 n) fun G4 =>
  gb (g_sZ G4 th 3 3 0) fun G5 =>
  gb (g_sI G5 th 3 0 a1) fun G6 =>
  gb (g_fA G6 th 3 1) fun g7 =>
  gck (g_isO G6 g7 2) <|
  gb (f_X3_setAs G6 g7 a2) fun G8 =>
  if (0 : Int32) ≤ a3 then
    gck (decide (¬ a3 < 0 ∧ (Int32.toNatClampNeg a3) ≤ 240)) <|
    gl (g_up G8 n3 (.inr (.inr (.inl ((Int32.toNatClampNeg a3), fun _ => 0))))) fun G9 =>
    gb (g_sA G9 th 3 2 n3) fun G10 =>
    some (G10, (n3 + 1))
  else
  gl (g_up G8 n3 (.inr (.inr (.inl (0, fun _ => 0))))) fun G11 =>
  gb (g_sA G11 th 3 2 n3) fun G12 =>
  some (G12, (n3 + 1))
theorem gm_X4_init : g_M yX4_init cX4_init 4 none 3 := ⟨tw_1_135, tw_1_7, by decide +kernel, Or.inl (by decide +kernel)⟩
set_option maxHeartbeats 4000000 in
set_option maxRecDepth 100000 in
theorem c_X4_init {l : Launch} {E : gE} {G : gG} {n : Nat} {th : Nat} {a1 : Int32} {a2 : Nat} {a3 : Int32} {Gr : gG} {nr : Nat} (h : f_X4_init G n th a1 a2 a3 = some (Gr, nr)) : g_Met l yX4_init cX4_init 4 none rm_X4_init E G n [.ref th, .int a1, .ref a2, .int a3] none Gr nr := by
  refine g_ofW gm_X4_init (Nat.le_of_ble_eq_true rfl) ?_
  intro p e s m below meth c ls X hl hI
  have hx := X.1
  have hb := X.2.1
  have X : g_X E G n p s m _ meth c cX4_init 4 RX4 "<init>" none := X
  have hl : lv_has ls 4 [(0, .ref th), (1, .int a1), (2, .ref a2), (3, .int a3)] := hl
  unfold f_X4_init at h
  refine lv_aload_n hx hb dX4_init_0 rfl (lv_at hl 0 rfl) ?_
  refine g_obji X tw_1_136 tw_1_16 tw_1_17 hl.1 dX4_init_1 (by decide) (by decide) ?_
  refine lv_aload_n hx hb dX4_init_4 rfl (lv_at hl 0 rfl) ?_
  obtain ⟨G1, eG1, h⟩ := gl_s h
  refine g_new X hI (ci := 2) (fs := [.int 0, .null]) (C := RX3) (T := TX3) (N := 2) rfl gu_X3 tyX3 tyX3_ok tw_1_137 tw_1_58 tw_1_4 (fun j hj => by rcases (show j = 0 ∨ j = 1 by omega) with rfl | rfl <;> rfl) (by decide) (by decide) dX4_init_5 (fun H hI => ?_)
  rw [eG1] at hI
  refine W.cs (cells' := 1) (slots' := 2) rfl rfl ?_
  refine lv_dup hx hb dX4_init_8 rfl ?_
  obtain ⟨G2, n3, eG2, h⟩ := gb2_s h
  refine g_callN X hI (b := n) (av := []) (c_X3_init eG2) gm_X3_init X.2.2.2.2.2.1.2.2.2.1 tw_1_60 rfl ⟨by decide, by decide⟩ hl.1 (rest := [.ref n, .ref th]) rfl (Nat.le_of_ble_eq_true rfl) dX4_init_9 ⟨by decide, by decide⟩ (st1 := [.ref n, .ref th]) rfl (cells' := 2) (slots' := 5) rfl rfl (fun H locs hI => ?_)
  obtain ⟨G4, eG4, h⟩ := gb_s h
  refine g_putF X hI (k := 1) (v := .ref n) (G' := G4) eG4 (C := RX4) (T := TX4) (N := 4) rfl gu_X4 tyX4 tyX4_ok nmX4 (by decide) tw_1_145 rfl rfl rfl rfl rfl dX4_init_12 (fun H locs hI => ?_)
  refine lv_aload_n hx hb dX4_init_15 rfl (lv_at hl 0 rfl) ?_
  refine lv_iconst (v := 0) hx hb dX4_init_16 (by decide) ?_
  obtain ⟨G5, eG5, h⟩ := gb_s h
  obtain ⟨cz, eG5⟩ := g_sZ_s eG5
  refine g_put X hI (k := 3) (v := .int 0) (G' := G5) eG5 (C := RX4) (T := TX4) (N := 4) rfl gu_X4 tyX4 tyX4_ok nmX4 (by decide) tw_1_149 rfl (g_nz cz) (g_fz cz) dX4_init_17 (fun H locs hI => ?_)
  refine lv_aload_n hx hb dX4_init_20 rfl (lv_at hl 0 rfl) ?_
  refine lv_iload_n hx hb dX4_init_21 rfl (lv_at hl 1 rfl) ?_
  obtain ⟨G6, eG6, h⟩ := gb_s h
  refine g_putF X hI (k := 0) (v := .int a1) (G' := G6) eG6 (C := RX4) (T := TX4) (N := 4) rfl gu_X4 tyX4 tyX4_ok nmX4 (by decide) tw_1_143 rfl rfl rfl rfl rfl dX4_init_22 (fun H locs hI => ?_)
  refine lv_aload_n hx hb dX4_init_25 rfl (lv_at hl 0 rfl) ?_
  obtain ⟨g7, eg7, h⟩ := gb_s h
  refine g_get X hI (g_fA_s eg7) (C := RX4) (T := TX4) (N := 4) rfl gu_X4 (by decide) tw_1_145 dX4_init_26 ?_
  refine lv_aload_n hx hb dX4_init_29 rfl (lv_at hl 2 rfl) ?_
  obtain ⟨cO, h⟩ := gck_s h
  obtain ⟨G8, eG8, h⟩ := gb_s h
  refine g_callV X hI (q := (RX3, TX3, 2)) (b := g7) (av := [.ref a2]) cO rfl (c_X3_setAs eG8) gm_X3_setAs tw_1_139 tw_1_140 tw_1_141 ⟨by decide, by decide⟩ hl.1 (rest := []) rfl (Nat.le_of_ble_eq_true rfl) dX4_init_30 ⟨by decide, by decide⟩ (st1 := []) rfl (cells' := 2) (slots' := 5) rfl rfl (fun H locs hI => ?_)
  refine lv_aload_n hx hb dX4_init_33 rfl (lv_at hl 0 rfl) ?_
  refine lv_iload_n hx hb dX4_init_34 rfl (lv_at hl 3 rfl) ?_
  refine lv_if_ge (tgt := 42) hx hb dX4_init_35 (by decide) (fun c => ?_) (fun c => ?_)
  · have h := g_t _ c h
    refine lv_iload_n hx hb dX4_init_42 rfl (lv_at hl 3 rfl) ?_
    obtain ⟨cz, h⟩ := gck_s h
    have cz := of_decide_eq_true cz
    obtain ⟨G9, eG9, h⟩ := gl_s h
    refine g_newJ X hI tw_1_100 (N := (Int32.toNatClampNeg a3)) cz.1 rfl (by have := cz.2; omega) (by decide) (by have := cz.2; show 5 + _ ≤ 245; omega) dX4_init_43 (fun H hI => ?_)
    rw [eG9] at hI
    refine W.widen (k := 3) (n := 245) (by decide) (by have := cz.2; omega) ?_
    obtain ⟨G10, eG10, h⟩ := gb_s h
    refine g_putF X hI (k := 2) (v := .ref n3) (G' := G10) eG10 (C := RX4) (T := TX4) (N := 4) rfl gu_X4 tyX4 tyX4_ok nmX4 (by decide) tw_1_147 rfl rfl rfl rfl rfl dX4_init_45 (fun H locs hI => ?_)
    obtain ⟨h, h2⟩ := g_sp2 h
    subst h
    subst h2
    exact g_vret X hI dX4_init_48
  · have h := g_f _ c h
    refine lv_iconst (v := 0) hx hb dX4_init_38 (by decide) ?_
    refine lv_goto (tgt := 43) hx hb dX4_init_39 (by decide) ?_
    obtain ⟨G11, eG11, h⟩ := gl_s h
    refine g_newJ X hI tw_1_100 (N := 0) (by decide) (by decide) (by decide) (by decide) (by decide) dX4_init_43 (fun H hI => ?_)
    rw [eG11] at hI
    refine W.cs (cells' := 3) (slots' := 5) rfl rfl ?_
    obtain ⟨G12, eG12, h⟩ := gb_s h
    refine g_putF X hI (k := 2) (v := .ref n3) (G' := G12) eG12 (C := RX4) (T := TX4) (N := 4) rfl gu_X4 tyX4 tyX4_ok nmX4 (by decide) tw_1_147 rfl rfl rfl rfl rfl dX4_init_45 (fun H locs hI => ?_)
    obtain ⟨h, h2⟩ := g_sp2 h
    subst h
    subst h2
    refine W.widen (k := 3) (n := 245) (by decide) (by decide) ?_
    exact g_vret X hI dX4_init_48
abbrev rm_X4_hasItem : Room := { frames := 0, cells := 0, slots := 0, locals := 0 }
def f_X4_hasItem (G : gG) (th : Nat) (a1 : Int32) : Option Int32 :=
  if a1 < 0 then
    some 0
  else
  gb (g_fA G th 3 2) fun g1 =>
  gb (g_len G g1) fun v2 =>
  if v2 ≤ a1 then
    some 0
  else
  some 1
theorem gm_X4_hasItem : g_M yX4_hasItem cX4_hasItem 2 (some .boolean) 1 := ⟨tw_1_190, tw_1_7, by decide +kernel, Or.inl (by decide +kernel)⟩
set_option maxHeartbeats 4000000 in
set_option maxRecDepth 100000 in
theorem c_X4_hasItem {l : Launch} {E : gE} {G : gG} {n : Nat} {th : Nat} {a1 : Int32} {r : Int32} (h : f_X4_hasItem G th a1 = some r) : g_Met l yX4_hasItem cX4_hasItem 2 (some .boolean) rm_X4_hasItem E G n [.ref th, .int a1] (some (.int r)) G n := by
  refine g_ofW gm_X4_hasItem (Nat.le_of_ble_eq_true rfl) ?_
  intro p e s m below meth c ls X hl hI
  have hx := X.1
  have hb := X.2.1
  have X : g_X E G n p s m _ meth c cX4_hasItem 2 RX4 "hasItem" (some .boolean) := X
  have hl : lv_has ls 2 [(0, .ref th), (1, .int a1)] := hl
  unfold f_X4_hasItem at h
  refine lv_iload_n hx hb dX4_hasItem_0 rfl (lv_at hl 1 rfl) ?_
  refine lv_if_lt (tgt := 17) hx hb dX4_hasItem_1 (by decide) (fun c => ?_) (fun c => ?_)
  · have h := g_t _ c h
    refine lv_iconst (v := 0) hx hb dX4_hasItem_17 (by decide) ?_
    have h := Option.some.inj h
    subst h
    exact g_zret X hI (Or.inl rfl) dX4_hasItem_18
  · have h := g_f _ c h
    refine lv_iload_n hx hb dX4_hasItem_4 rfl (lv_at hl 1 rfl) ?_
    refine lv_aload_n hx hb dX4_hasItem_5 rfl (lv_at hl 0 rfl) ?_
    obtain ⟨g1, eg1, h⟩ := gb_s h
    refine g_get X hI (g_fA_s eg1) (C := RX4) (T := TX4) (N := 4) rfl gu_X4 (by decide) tw_1_147 dX4_hasItem_6 ?_
    obtain ⟨v2, ev2, h⟩ := gb_s h
    refine g_alen X hI ev2 dX4_hasItem_9 ?_
    refine lv_icmp_ge (tgt := 17) hx hb dX4_hasItem_10 (by decide) (fun c => ?_) (fun c => ?_)
    · have h := g_t _ c h
      refine lv_iconst (v := 0) hx hb dX4_hasItem_17 (by decide) ?_
      have h := Option.some.inj h
      subst h
      exact g_zret X hI (Or.inl rfl) dX4_hasItem_18
    · have h := g_f _ c h
      refine lv_iconst (v := 1) hx hb dX4_hasItem_13 (by decide) ?_
      refine lv_goto (tgt := 18) hx hb dX4_hasItem_14 (by decide) ?_
      have h := Option.some.inj h
      subst h
      exact g_zret X hI (Or.inr rfl) dX4_hasItem_18
abbrev rm_X4_read : Room := { frames := 1, cells := 0, slots := 0, locals := 21 }
def f_X4_read (G : gG) (th : Nat) (a1 : Int32) : Option Int64 :=
  gck (g_isO G th 3) <|
  gb (f_X4_hasItem G th a1) fun r1 =>
  if r1 = 0 then
    some 0
  else
  gb (g_fA G th 3 2) fun g2 =>
  gb (g_ll G g2 a1) fun v3 =>
  some v3
theorem gm_X4_read : g_M yX4_read cX4_read 2 (some .long) 1 := ⟨tw_1_213, tw_1_7, by decide +kernel, Or.inl (by decide +kernel)⟩
set_option maxHeartbeats 4000000 in
set_option maxRecDepth 100000 in
theorem c_X4_read {l : Launch} {E : gE} {G : gG} {n : Nat} {th : Nat} {a1 : Int32} {r : Int64} (h : f_X4_read G th a1 = some r) : g_Met l yX4_read cX4_read 2 (some .long) rm_X4_read E G n [.ref th, .int a1] (some (.long r)) G n := by
  refine g_ofW gm_X4_read (Nat.le_of_ble_eq_true rfl) ?_
  intro p e s m below meth c ls X hl hI
  have hx := X.1
  have hb := X.2.1
  have X : g_X E G n p s m _ meth c cX4_read 2 RX4 "read" (some .long) := X
  have hl : lv_has ls 2 [(0, .ref th), (1, .int a1)] := hl
  unfold f_X4_read at h
  refine lv_aload_n hx hb dX4_read_0 rfl (lv_at hl 0 rfl) ?_
  refine lv_iload_n hx hb dX4_read_1 rfl (lv_at hl 1 rfl) ?_
  obtain ⟨cO, h⟩ := gck_s h
  obtain ⟨r1, er1, h⟩ := gb_s h
  refine g_callV X hI (q := (RX4, TX4, 4)) (b := th) (av := [.int a1]) cO rfl (c_X4_hasItem er1) gm_X4_hasItem tw_1_204 tw_1_188 tw_1_189 ⟨by decide, by decide⟩ hl.1 (rest := []) rfl (Nat.le_of_ble_eq_true rfl) dX4_read_2 ⟨by decide, by decide⟩ (st1 := [.int r1]) rfl (cells' := 0) (slots' := 0) rfl rfl (fun H locs hI => ?_)
  refine lv_if_eq (tgt := 17) hx hb dX4_read_5 (by decide) (fun c => ?_) (fun c => ?_)
  · have h := g_t _ c h
    refine lv_lconst (v := 0) hx hb dX4_read_17 (by decide) ?_
    have h := Option.some.inj h
    subst h
    exact g_lret X hI dX4_read_18
  · have h := g_f _ c h
    refine lv_aload_n hx hb dX4_read_8 rfl (lv_at hl 0 rfl) ?_
    obtain ⟨g2, eg2, h⟩ := gb_s h
    refine g_get X hI (g_fA_s eg2) (C := RX4) (T := TX4) (N := 4) rfl gu_X4 (by decide) tw_1_147 dX4_read_9 ?_
    refine lv_iload_n hx hb dX4_read_12 rfl (lv_at hl 1 rfl) ?_
    obtain ⟨v3, ev3, h⟩ := gb_s h
    refine g_lald X hI ev3 dX4_read_13 ?_
    refine lv_goto (tgt := 18) hx hb dX4_read_14 (by decide) ?_
    have h := Option.some.inj h
    subst h
    exact g_lret X hI dX4_read_18
abbrev rm_X4_write : Room := { frames := 1, cells := 0, slots := 0, locals := 21 }
def f_X4_write (G : gG) (th : Nat) (a1 : Int32) (a2 : Int64) : Option gG :=
  gck (g_isO G th 3) <|
  gb (f_X4_hasItem G th a1) fun r1 =>
  if r1 = 0 then
    some G
  else
  gb (g_fA G th 3 2) fun g2 =>
  gb (g_ls G g2 a1 a2) fun G3 =>
  some G3
theorem gm_X4_write : g_M yX4_write cX4_write 4 none 2 := ⟨tw_1_203, tw_1_7, by decide +kernel, Or.inl (by decide +kernel)⟩
set_option maxHeartbeats 4000000 in
set_option maxRecDepth 100000 in
theorem c_X4_write {l : Launch} {E : gE} {G : gG} {n : Nat} {th : Nat} {a1 : Int32} {a2 : Int64} {Gr : gG} (h : f_X4_write G th a1 a2 = some Gr) : g_Met l yX4_write cX4_write 4 none rm_X4_write E G n [.ref th, .int a1, .long a2] none Gr n := by
  refine g_ofW gm_X4_write (Nat.le_of_ble_eq_true rfl) ?_
  intro p e s m below meth c ls X hl hI
  have hx := X.1
  have hb := X.2.1
  have X : g_X E G n p s m _ meth c cX4_write 4 RX4 "write" none := X
  have hl : lv_has ls 4 [(0, .ref th), (1, .int a1), (2, .long a2)] := hl
  unfold f_X4_write at h
  refine lv_aload_n hx hb dX4_write_0 rfl (lv_at hl 0 rfl) ?_
  refine lv_iload_n hx hb dX4_write_1 rfl (lv_at hl 1 rfl) ?_
  obtain ⟨cO, h⟩ := gck_s h
  obtain ⟨r1, er1, h⟩ := gb_s h
  refine g_callV X hI (q := (RX4, TX4, 4)) (b := th) (av := [.int a1]) cO rfl (c_X4_hasItem er1) gm_X4_hasItem tw_1_204 tw_1_188 tw_1_189 ⟨by decide, by decide⟩ hl.1 (rest := []) rfl (Nat.le_of_ble_eq_true rfl) dX4_write_2 ⟨by decide, by decide⟩ (st1 := [.int r1]) rfl (cells' := 0) (slots' := 0) rfl rfl (fun H locs hI => ?_)
  refine lv_if_eq (tgt := 15) hx hb dX4_write_5 (by decide) (fun c => ?_) (fun c => ?_)
  · have h := g_t _ c h
    have h := Option.some.inj h
    subst h
    exact g_vret X hI dX4_write_15
  · have h := g_f _ c h
    refine lv_aload_n hx hb dX4_write_8 rfl (lv_at hl 0 rfl) ?_
    obtain ⟨g2, eg2, h⟩ := gb_s h
    refine g_get X hI (g_fA_s eg2) (C := RX4) (T := TX4) (N := 4) rfl gu_X4 (by decide) tw_1_147 dX4_write_9 ?_
    refine lv_iload_n hx hb dX4_write_12 rfl (lv_at hl 1 rfl) ?_
    refine lv_lload_n hx hb dX4_write_13 rfl (lv_at hl 2 rfl) ?_
    obtain ⟨G3, eG3, h⟩ := gb_s h
    refine g_last X hI (G' := G3) eG3 dX4_write_14 (fun H locs hI => ?_)
    have h := Option.some.inj h
    subst h
    exact g_vret X hI dX4_write_15
abbrev rm_X4_readSpread : Room := { frames := 2, cells := 0, slots := 0, locals := 42 }
def f_X4_readSpread (G : gG) (th : Nat) (a1 : Int32) (a2 : Nat) : Option Int64 :=
  gb (g_fA G th 3 1) fun g1 =>
  gck (g_isO G g1 2) <|
  gb (f_X3_numberUnder G g1 a1 a2) fun r2 =>
  gck (g_isO G th 3) <|
  gb (f_X4_read G th r2) fun r3 =>
  some r3
theorem gm_X4_readSpread : g_M yX4_readSpread cX4_readSpread 3 (some .long) 2 := ⟨tw_2_33, tw_1_7, by decide +kernel, Or.inl (by decide +kernel)⟩
set_option maxHeartbeats 4000000 in
set_option maxRecDepth 100000 in
theorem c_X4_readSpread {l : Launch} {E : gE} {G : gG} {n : Nat} {th : Nat} {a1 : Int32} {a2 : Nat} {r : Int64} (h : f_X4_readSpread G th a1 a2 = some r) : g_Met l yX4_readSpread cX4_readSpread 3 (some .long) rm_X4_readSpread E G n [.ref th, .int a1, .ref a2] (some (.long r)) G n := by
  refine g_ofW gm_X4_readSpread (Nat.le_of_ble_eq_true rfl) ?_
  intro p e s m below meth c ls X hl hI
  have hx := X.1
  have hb := X.2.1
  have X : g_X E G n p s m _ meth c cX4_readSpread 3 RX4 "readSpread" (some .long) := X
  have hl : lv_has ls 3 [(0, .ref th), (1, .int a1), (2, .ref a2)] := hl
  unfold f_X4_readSpread at h
  refine lv_aload_n hx hb dX4_readSpread_0 rfl (lv_at hl 0 rfl) ?_
  refine lv_aload_n hx hb dX4_readSpread_1 rfl (lv_at hl 0 rfl) ?_
  obtain ⟨g1, eg1, h⟩ := gb_s h
  refine g_get X hI (g_fA_s eg1) (C := RX4) (T := TX4) (N := 4) rfl gu_X4 (by decide) tw_1_145 dX4_readSpread_2 ?_
  refine lv_iload_n hx hb dX4_readSpread_5 rfl (lv_at hl 1 rfl) ?_
  refine lv_aload_n hx hb dX4_readSpread_6 rfl (lv_at hl 2 rfl) ?_
  obtain ⟨cO, h⟩ := gck_s h
  obtain ⟨r2, er2, h⟩ := gb_s h
  refine g_callV X hI (q := (RX3, TX3, 2)) (b := g1) (av := [.int a1, .ref a2]) cO rfl (c_X3_numberUnder er2) gm_X3_numberUnder tw_2_34 tw_2_35 tw_2_36 ⟨by decide, by decide⟩ hl.1 (rest := [.ref th]) rfl (Nat.le_of_ble_eq_true rfl) dX4_readSpread_7 ⟨by decide, by decide⟩ (st1 := [.int r2, .ref th]) rfl (cells' := 0) (slots' := 0) rfl rfl (fun H locs hI => ?_)
  obtain ⟨cO, h⟩ := gck_s h
  obtain ⟨r3, er3, h⟩ := gb_s h
  refine g_callV X hI (q := (RX4, TX4, 4)) (b := th) (av := [.int r2]) cO rfl (c_X4_read er3) gm_X4_read tw_2_38 tw_1_211 tw_1_212 ⟨by decide, by decide⟩ hl.1 (rest := []) rfl (Nat.le_of_ble_eq_true rfl) dX4_readSpread_10 ⟨by decide, by decide⟩ (st1 := [.long r3]) rfl (cells' := 0) (slots' := 0) rfl rfl (fun H locs hI => ?_)
  have h := Option.some.inj h
  subst h
  exact g_lret X hI dX4_readSpread_13
abbrev rm_X4_isLike : Room := { frames := 2, cells := 0, slots := 0, locals := 42 }
def f_X4_isLike_29 : Nat → gG → Nat → Nat → Int32 → Option Int32
  | 0, _, _, _, _ => none
  | fu + 1, G, x0, x1, x2 =>
    gb (g_fA G x0 3 2) fun g1 =>
    gb (g_len G g1) fun v2 =>
    if v2 ≤ x2 then
      some 1
    else
    gb (g_fA G x0 3 2) fun g3 =>
    gb (g_ll G g3 x2) fun v4 =>
    gck (g_isO G x1 3) <|
    gb (f_X4_read G x1 x2) fun r5 =>
    if v4 = r5 then
      gl (x2 + 1 : Int32) fun v6 =>
      f_X4_isLike_29 fu G x0 x1 v6
    else
    some 0
set_option maxHeartbeats 4000000 in
set_option maxRecDepth 100000 in
theorem b_X4_isLike_29 {p : Program} {l : Launch} {e : Env} {s : State} {m : MethodId} {args : Array Value} {below : List Frame} {meth : Method} {c : Code} {E : gE} {G0 : gG} {n0 : Nat} (X : g_X E G0 n0 p s m args meth c cX4_isLike 3 RX4 "isLike" (some .boolean)) {G : gG} {n : Nat} {r : Int32} (fu : Nat) : ∀ {H : Heap} {locs : List Loc} (_ : g_I E (g_A G0 n0) G n s.heap H locs) {x0 : Nat} {x1 : Nat} {x2 : Int32} (_ : f_X4_isLike_29 fu G x0 x1 x2 = some r) {ls : Array Slot} (_ : lv_has ls 3 [(0, .ref x0), (1, .ref x1), (2, .int x2)]), W p l e rm_X4_isLike s m args below meth c H locs 0 0 (MQ below (g_Q E G0 n0 (some (.int r)) G n) args s rm_X4_isLike.cells rm_X4_isLike.slots (g_A G0 n0)) (F0 m 29 ls []) := by
  have hx := X.1
  have hb := X.2.1
  induction fu with
  | zero =>
    intro H locs hI x0 x1 x2 h ls hl
    rw [f_X4_isLike_29] at h
    cases h
  | succ fu ih =>
    intro H locs hI x0 x1 x2 h ls hl
    rw [f_X4_isLike_29] at h
    refine lv_iload_n hx hb dX4_isLike_29 rfl (lv_at hl 2 rfl) ?_
    refine lv_aload_n hx hb dX4_isLike_30 rfl (lv_at hl 0 rfl) ?_
    obtain ⟨g1, eg1, h⟩ := gb_s h
    refine g_get X hI (g_fA_s eg1) (C := RX4) (T := TX4) (N := 4) rfl gu_X4 (by decide) tw_1_147 dX4_isLike_31 ?_
    obtain ⟨v2, ev2, h⟩ := gb_s h
    refine g_alen X hI ev2 dX4_isLike_34 ?_
    refine lv_icmp_ge (tgt := 61) hx hb dX4_isLike_35 (by decide) (fun c => ?_) (fun c => ?_)
    · have h := g_t _ c h
      refine lv_iconst (v := 1) hx hb dX4_isLike_61 (by decide) ?_
      have h := Option.some.inj h
      subst h
      exact g_zret X hI (Or.inr rfl) dX4_isLike_62
    · have h := g_f _ c h
      refine lv_aload_n hx hb dX4_isLike_38 rfl (lv_at hl 0 rfl) ?_
      obtain ⟨g3, eg3, h⟩ := gb_s h
      refine g_get X hI (g_fA_s eg3) (C := RX4) (T := TX4) (N := 4) rfl gu_X4 (by decide) tw_1_147 dX4_isLike_39 ?_
      refine lv_iload_n hx hb dX4_isLike_42 rfl (lv_at hl 2 rfl) ?_
      obtain ⟨v4, ev4, h⟩ := gb_s h
      refine g_lald X hI ev4 dX4_isLike_43 ?_
      refine lv_aload_n hx hb dX4_isLike_44 rfl (lv_at hl 1 rfl) ?_
      refine lv_iload_n hx hb dX4_isLike_45 rfl (lv_at hl 2 rfl) ?_
      obtain ⟨cO, h⟩ := gck_s h
      obtain ⟨r5, er5, h⟩ := gb_s h
      refine g_callV X hI (q := (RX4, TX4, 4)) (b := x1) (av := [.int x2]) cO rfl (c_X4_read er5) gm_X4_read tw_2_38 tw_1_211 tw_1_212 ⟨by decide, by decide⟩ hl.1 (rest := [.long v4]) rfl (Nat.le_of_ble_eq_true rfl) dX4_isLike_46 ⟨by decide, by decide⟩ (st1 := [.long r5, .long v4]) rfl (cells' := 0) (slots' := 0) rfl rfl (fun H locs hI => ?_)
      refine W.lcmp hx hb dX4_isLike_49 ?_
      refine lv_if_eq (tgt := 55) hx hb dX4_isLike_50 (by decide) (fun c => ?_) (fun c => ?_)
      · have h := g_t _ ((lg_cmp_eq _ _).mp c) h
        obtain ⟨v6, ev6, h⟩ := gl_s h
        refine lv_iinc (v := v6) (lv' := [(2, .int v6), (0, .ref x0), (1, .ref x1)]) hx hb dX4_isLike_55 hl (k := 2) rfl (by rw [← ev6]; rfl) (by decide) rfl (fun ls hl => ?_)
        refine lv_goto (tgt := 29) hx hb dX4_isLike_58 (by decide) ?_
        exact ih hI h (lv_sub hl [1, 2, 0] rfl)
      · have h := g_f _ (fun q => c ((lg_cmp_eq _ _).mpr q)) h
        refine lv_iconst (v := 0) hx hb dX4_isLike_53 (by decide) ?_
        have h := Option.some.inj h
        subst h
        exact g_zret X hI (Or.inl rfl) dX4_isLike_54
def f_X4_isLike (G : gG) (th : Nat) (a1 : Nat) : Option Int32 :=
  gb (g_fI G th 3 0) fun v1 =>
  gb (g_fI G a1 3 0) fun v2 =>
  if v1 = v2 then
    gb (g_fA G th 3 1) fun g3 =>
    gb (g_fA G a1 3 1) fun g4 =>
    gck (g_isO G g3 2) <|
    gb (f_X3_isLike G g3 g4) fun r5 =>
    if r5 = 0 then
      some 0
    else
    f_X4_isLike_29 5000 G th a1 0
  else
  some 0
theorem gm_X4_isLike : g_M yX4_isLike cX4_isLike 3 (some .boolean) 1 := ⟨tw_3_22, tw_1_7, by decide +kernel, Or.inl (by decide +kernel)⟩
set_option maxHeartbeats 4000000 in
set_option maxRecDepth 100000 in
theorem c_X4_isLike {l : Launch} {E : gE} {G : gG} {n : Nat} {th : Nat} {a1 : Nat} {r : Int32} (h : f_X4_isLike G th a1 = some r) : g_Met l yX4_isLike cX4_isLike 3 (some .boolean) rm_X4_isLike E G n [.ref th, .ref a1] (some (.int r)) G n := by
  refine g_ofW gm_X4_isLike (Nat.le_of_ble_eq_true rfl) ?_
  intro p e s m below meth c ls X hl hI
  have hx := X.1
  have hb := X.2.1
  have X : g_X E G n p s m _ meth c cX4_isLike 3 RX4 "isLike" (some .boolean) := X
  have hl : lv_has ls 3 [(0, .ref th), (1, .ref a1)] := hl
  unfold f_X4_isLike at h
  refine lv_aload_n hx hb dX4_isLike_0 rfl (lv_at hl 0 rfl) ?_
  obtain ⟨v1, ev1, h⟩ := gb_s h
  refine g_get X hI (g_fI_s ev1) (C := RX4) (T := TX4) (N := 4) rfl gu_X4 (by decide) tw_1_143 dX4_isLike_1 ?_
  refine lv_aload_n hx hb dX4_isLike_4 rfl (lv_at hl 1 rfl) ?_
  obtain ⟨v2, ev2, h⟩ := gb_s h
  refine g_get X hI (g_fI_s ev2) (C := RX4) (T := TX4) (N := 4) rfl gu_X4 (by decide) tw_1_143 dX4_isLike_5 ?_
  refine lv_icmp_ne (tgt := 25) hx hb dX4_isLike_8 (by decide) (fun c => ?_) (fun c => ?_)
  · have h := g_f _ c h
    refine lv_iconst (v := 0) hx hb dX4_isLike_25 (by decide) ?_
    have h := Option.some.inj h
    subst h
    exact g_zret X hI (Or.inl rfl) dX4_isLike_26
  · have h := g_t _ c h
    refine lv_aload_n hx hb dX4_isLike_11 rfl (lv_at hl 0 rfl) ?_
    obtain ⟨g3, eg3, h⟩ := gb_s h
    refine g_get X hI (g_fA_s eg3) (C := RX4) (T := TX4) (N := 4) rfl gu_X4 (by decide) tw_1_145 dX4_isLike_12 ?_
    refine lv_aload_n hx hb dX4_isLike_15 rfl (lv_at hl 1 rfl) ?_
    obtain ⟨g4, eg4, h⟩ := gb_s h
    refine g_get X hI (g_fA_s eg4) (C := RX4) (T := TX4) (N := 4) rfl gu_X4 (by decide) tw_1_145 dX4_isLike_16 ?_
    obtain ⟨cO, h⟩ := gck_s h
    obtain ⟨r5, er5, h⟩ := gb_s h
    refine g_callV X hI (q := (RX3, TX3, 2)) (b := g3) (av := [.ref g4]) cO rfl (c_X3_isLike er5) gm_X3_isLike tw_3_23 tw_2_204 tw_2_205 ⟨by decide, by decide⟩ hl.1 (rest := []) rfl (Nat.le_of_ble_eq_true rfl) dX4_isLike_19 ⟨by decide, by decide⟩ (st1 := [.int r5]) rfl (cells' := 0) (slots' := 0) rfl rfl (fun H locs hI => ?_)
    refine lv_if_ne (tgt := 27) hx hb dX4_isLike_22 (by decide) (fun c => ?_) (fun c => ?_)
    · have h := g_f _ c h
      refine lv_iconst (v := 0) hx hb dX4_isLike_27 (by decide) ?_
      refine lv_istore_n (lv' := [(2, .int 0), (0, .ref th), (1, .ref a1)]) hx hb dX4_isLike_28 rfl hl (by decide) rfl (fun ls hl => ?_)
      exact b_X4_isLike_29 X 5000 hI h (lv_sub hl [1, 2, 0] rfl)
    · have h := g_t _ c h
      refine lv_iconst (v := 0) hx hb dX4_isLike_25 (by decide) ?_
      have h := Option.some.inj h
      subst h
      exact g_zret X hI (Or.inl rfl) dX4_isLike_26
