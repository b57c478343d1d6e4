abbrev rm_X2_init : Room := { frames := 1, cells := 0, slots := 0, locals := 40 }
def f_X2_init (G : gG) (th : Nat) : Option gG :=
  gb (g_sI G th 1 0 0) fun G1 =>
  gb (g_sZ G1 th 1 1 0) fun G2 =>
  gb (g_sL G2 th 1 2 0) fun G3 =>
  gb (g_sI G3 th 1 3 0) fun G4 =>
  some G4
theorem gm_X2_init : g_M yX2_init cX2_init 1 none 0 := ⟨tw_1_30, tw_1_3, by decide +kernel, Or.inl (by decide +kernel)⟩
set_option maxHeartbeats 4000000 in
set_option maxRecDepth 100000 in
theorem c_X2_init {l : Launch} {E : gE} {G : gG} {n : Nat} {th : Nat} {Gr : gG} (h : f_X2_init G th = some Gr) : g_Met l yX2_init cX2_init 1 none rm_X2_init E G n [.ref th] none Gr n := by
  refine g_ofW gm_X2_init (Nat.le_of_ble_eq_true rfl) ?_
  intro p e s m below meth c ls X hl hI
  have hx := X.1
  have hb := X.2.1
  have X : g_X E G n p s m _ meth c cX2_init 1 RX2 "<init>" none := X
  have hl : lv_has ls 1 [(0, .ref th)] := hl
  unfold f_X2_init at h
  refine lv_aload_n hx hb dX2_init_0 rfl (lv_at hl 0 rfl) ?_
  refine g_obji X tw_1_31 tw_1_16 tw_1_17 hl.1 dX2_init_1 (by decide) (by decide) ?_
  refine lv_aload_n hx hb dX2_init_4 rfl (lv_at hl 0 rfl) ?_
  refine lv_iconst (v := 0) hx hb dX2_init_5 (by decide) ?_
  obtain ⟨G1, eG1, h⟩ := gb_s h
  refine g_put X hI (k := 0) (v := .int 0) (G' := G1) eG1 (C := RX2) (T := TX2) (N := 4) rfl gu_X2 tyX2 tyX2_ok nmX2 (by decide) tw_1_32 rfl rfl rfl dX2_init_6 (fun H locs hI => ?_)
  refine lv_aload_n hx hb dX2_init_9 rfl (lv_at hl 0 rfl) ?_
  refine lv_iconst (v := 0) hx hb dX2_init_10 (by decide) ?_
  obtain ⟨G2, eG2, h⟩ := gb_s h
  obtain ⟨cz, eG2⟩ := g_sZ_s eG2
  refine g_put X hI (k := 1) (v := .int 0) (G' := G2) eG2 (C := RX2) (T := TX2) (N := 4) rfl gu_X2 tyX2 tyX2_ok nmX2 (by decide) tw_1_34 rfl (g_nz cz) (g_fz cz) dX2_init_11 (fun H locs hI => ?_)
  refine lv_aload_n hx hb dX2_init_14 rfl (lv_at hl 0 rfl) ?_
  refine lv_lconst (v := 0) hx hb dX2_init_15 (by decide) ?_
  obtain ⟨G3, eG3, h⟩ := gb_s h
  refine g_put X hI (k := 2) (v := .long 0) (G' := G3) eG3 (C := RX2) (T := TX2) (N := 4) rfl gu_X2 tyX2 tyX2_ok nmX2 (by decide) tw_1_36 rfl rfl rfl dX2_init_16 (fun H locs hI => ?_)
  refine lv_aload_n hx hb dX2_init_19 rfl (lv_at hl 0 rfl) ?_
  refine lv_iconst (v := 0) hx hb dX2_init_20 (by decide) ?_
  obtain ⟨G4, eG4, h⟩ := gb_s h
  refine g_put X hI (k := 3) (v := .int 0) (G' := G4) eG4 (C := RX2) (T := TX2) (N := 4) rfl gu_X2 tyX2 tyX2_ok nmX2 (by decide) tw_1_37 rfl rfl rfl dX2_init_21 (fun H locs hI => ?_)
  have h := Option.some.inj h
  subst h
  exact g_vret X hI dX2_init_24
abbrev rm_X2_setKind : Room := { frames := 0, cells := 0, slots := 0, locals := 0 }
def f_X2_setKind (G : gG) (th : Nat) (a1 : Int32) (a2 : Int32) : Option gG :=
  gb (g_sI G th 1 0 a1) fun G1 =>
  gb (g_sZ G1 th 1 1 a2) fun G2 =>
  some G2
theorem gm_X2_setKind : g_M yX2_setKind cX2_setKind 3 none 2 := ⟨tw_2_57, tw_1_3, by decide +kernel, Or.inl (by decide +kernel)⟩
set_option maxHeartbeats 4000000 in
set_option maxRecDepth 100000 in
theorem c_X2_setKind {l : Launch} {E : gE} {G : gG} {n : Nat} {th : Nat} {a1 : Int32} {a2 : Int32} {Gr : gG} (h : f_X2_setKind G th a1 a2 = some Gr) : g_Met l yX2_setKind cX2_setKind 3 none rm_X2_setKind E G n [.ref th, .int a1, .int a2] none Gr n := by
  refine g_ofW gm_X2_setKind (Nat.le_of_ble_eq_true rfl) ?_
  intro p e s m below meth c ls X hl hI
  have hx := X.1
  have hb := X.2.1
  have X : g_X E G n p s m _ meth c cX2_setKind 3 RX2 "setKind" none := X
  have hl : lv_has ls 3 [(0, .ref th), (1, .int a1), (2, .int a2)] := hl
  unfold f_X2_setKind at h
  refine lv_aload_n hx hb dX2_setKind_0 rfl (lv_at hl 0 rfl) ?_
  refine lv_iload_n hx hb dX2_setKind_1 rfl (lv_at hl 1 rfl) ?_
  obtain ⟨G1, eG1, h⟩ := gb_s h
  refine g_put X hI (k := 0) (v := .int a1) (G' := G1) eG1 (C := RX2) (T := TX2) (N := 4) rfl gu_X2 tyX2 tyX2_ok nmX2 (by decide) tw_1_32 rfl rfl rfl dX2_setKind_2 (fun H locs hI => ?_)
  refine lv_aload_n hx hb dX2_setKind_5 rfl (lv_at hl 0 rfl) ?_
  refine lv_iload_n hx hb dX2_setKind_6 rfl (lv_at hl 2 rfl) ?_
  obtain ⟨G2, eG2, h⟩ := gb_s h
  obtain ⟨cz, eG2⟩ := g_sZ_s eG2
  refine g_put X hI (k := 1) (v := .int a2) (G' := G2) eG2 (C := RX2) (T := TX2) (N := 4) rfl gu_X2 tyX2 tyX2_ok nmX2 (by decide) tw_1_34 rfl (g_nz cz) (g_fz cz) dX2_setKind_7 (fun H locs hI => ?_)
  have h := Option.some.inj h
  subst h
  exact g_vret X hI dX2_setKind_10
abbrev rm_X2_setFinite : Room := { frames := 0, cells := 0, slots := 0, locals := 0 }
def f_X2_setFinite_68 (k25 : gG → Nat → Int32 → Option gG) (G : gG) (x0 : Nat) (x5 : Int32) : Option gG :=
  gl ((x5 / 2) : Int32) fun v1 =>
  k25 G x0 v1
set_option maxHeartbeats 4000000 in
set_option maxRecDepth 100000 in
theorem b_X2_setFinite_68 {p : Program} {l : Launch} {e : Env} {s : State} {m : MethodId} {args : Array Value} {below : List Frame} {meth : Method} {c : Code} {E : gE} {G0 : gG} {n0 : Nat} (X : g_X E G0 n0 p s m args meth c cX2_setFinite 6 RX2 "setFinite" none) {G : gG} {n : Nat} {Gr : gG} {k25 : gG → Nat → Int32 → Option gG} (hk25 : ∀ {G : gG} {H : Heap} {locs : List Loc} (_ : g_I E (g_A G0 n0) G n s.heap H locs) {x0 : Nat} {x5 : Int32}  (_ : k25 G x0 x5 = some Gr) {ls : Array Slot} (_ : lv_has ls 6 [(0, .ref x0), (5, .int x5)]), W p l e rm_X2_setFinite s m args below meth c H locs 0 0 (MQ below (g_Q E G0 n0 none Gr n) args s rm_X2_setFinite.cells rm_X2_setFinite.slots (g_A G0 n0)) (F0 m 25 ls [])) {H : Heap} {locs : List Loc} (hI : g_I E (g_A G0 n0) G n s.heap H locs) {x0 : Nat} {x5 : Int32} (h : f_X2_setFinite_68 k25 G x0 x5 = some Gr) {ls : Array Slot} (hl : lv_has ls 6 [(0, .ref x0), (5, .int x5)]) : W p l e rm_X2_setFinite s m args below meth c H locs 0 0 (MQ below (g_Q E G0 n0 none Gr n) args s rm_X2_setFinite.cells rm_X2_setFinite.slots (g_A G0 n0)) (F0 m 68 ls []) := by
  have hx := X.1
  have hb := X.2.1
  unfold f_X2_setFinite_68 at h
  refine lv_iload hx hb dX2_setFinite_68 (lv_at hl 1 rfl) ?_
  refine lv_iconst (v := 2) hx hb dX2_setFinite_70 (by decide) ?_
  refine lv_idiv hx hb dX2_setFinite_71 (by decide) ?_
  obtain ⟨v1, ev1, h⟩ := gl_s h
  refine g_topi ev1 ?_
  refine lv_istore (lv' := [(5, .int v1), (0, .ref x0)]) hx hb dX2_setFinite_72 hl (by decide) rfl (fun ls hl => ?_)
  refine lv_goto (tgt := 25) hx hb dX2_setFinite_74 (by decide) ?_
  exact hk25 hI h (lv_sub hl [1, 0] rfl)
def f_X2_setFinite_25 : Nat → gG → Nat → Int32 → Option gG
  | 0, _, _, _ => none
  | fu + 1, G, x0, x5 =>
    if x5 < 1 then
      some G
    else
    gb (g_fL G x0 1 2) fun v1 =>
    if (g_lushr v1 ((63 : Int32) - x5)) = 0 then
      gb (g_fL G x0 1 2) fun v2 =>
      gb (g_sL G x0 1 2 (g_lshl v2 x5)) fun G3 =>
      gb (g_fI G3 x0 1 3) fun v4 =>
      gb (g_sI G3 x0 1 3 (v4 - x5)) fun G5 =>
      f_X2_setFinite_68 (f_X2_setFinite_25 fu) G5 x0 x5
    else
    f_X2_setFinite_68 (f_X2_setFinite_25 fu) G x0 x5
set_option maxHeartbeats 4000000 in
set_option maxRecDepth 100000 in
theorem b_X2_setFinite_25 {p : Program} {l : Launch} {e : Env} {s : State} {m : MethodId} {args : Array Value} {below : List Frame} {meth : Method} {c : Code} {E : gE} {G0 : gG} {n0 : Nat} (X : g_X E G0 n0 p s m args meth c cX2_setFinite 6 RX2 "setFinite" none) {n : Nat} {Gr : gG} (fu : Nat) : ∀ {G : gG} {H : Heap} {locs : List Loc} (_ : g_I E (g_A G0 n0) G n s.heap H locs) {x0 : Nat} {x5 : Int32} (_ : f_X2_setFinite_25 fu G x0 x5 = some Gr) {ls : Array Slot} (_ : lv_has ls 6 [(0, .ref x0), (5, .int x5)]), W p l e rm_X2_setFinite s m args below meth c H locs 0 0 (MQ below (g_Q E G0 n0 none Gr n) args s rm_X2_setFinite.cells rm_X2_setFinite.slots (g_A G0 n0)) (F0 m 25 ls []) := by
  have hx := X.1
  have hb := X.2.1
  induction fu with
  | zero =>
    intro G H locs hI x0 x5 h ls hl
    rw [f_X2_setFinite_25] at h
    cases h
  | succ fu ih =>
    intro G H locs hI x0 x5 h ls hl
    rw [f_X2_setFinite_25] at h
    refine lv_iload hx hb dX2_setFinite_25 (lv_at hl 1 rfl) ?_
    refine lv_iconst (v := 1) hx hb dX2_setFinite_27 (by decide) ?_
    refine lv_icmp_lt (tgt := 77) hx hb dX2_setFinite_28 (by decide) (fun c => ?_) (fun c => ?_)
    · have h := g_t _ c h
      have h := Option.some.inj h
      subst h
      exact g_vret X hI dX2_setFinite_77
    · have h := g_f _ c h
      refine lv_aload_n hx hb dX2_setFinite_31 rfl (lv_at hl 0 rfl) ?_
      obtain ⟨v1, ev1, h⟩ := gb_s h
      refine g_get X hI (g_fL_s ev1) (C := RX2) (T := TX2) (N := 4) rfl gu_X2 (by decide) tw_1_36 dX2_setFinite_32 ?_
      refine lv_bipush (v := 63) hx hb dX2_setFinite_35 (by decide) ?_
      refine lv_iload hx hb dX2_setFinite_37 (lv_at hl 1 rfl) ?_
      refine lv_isub (x := 63) (y := x5) hx hb dX2_setFinite_39 ?_
      refine lv_lushr (v := (g_lushr v1 ((63 : Int32) - x5))) hx hb dX2_setFinite_40 rfl ?_
      refine lv_lconst (v := 0) hx hb dX2_setFinite_41 (by decide) ?_
      refine W.lcmp hx hb dX2_setFinite_42 ?_
      refine lv_if_ne (tgt := 68) hx hb dX2_setFinite_43 (by decide) (fun c => ?_) (fun c => ?_)
      · have h := g_f _ ((not_congr (lg_cmp_eq _ _)).mp c) h
        exact b_X2_setFinite_68 X ih hI h (lv_sub hl [0, 1] rfl)
      · have h := g_t _ ((lg_cmp_eq _ _).mp c) h
        refine lv_aload_n hx hb dX2_setFinite_46 rfl (lv_at hl 0 rfl) ?_
        refine lv_dup hx hb dX2_setFinite_47 rfl ?_
        obtain ⟨v2, ev2, h⟩ := gb_s h
        refine g_get X hI (g_fL_s ev2) (C := RX2) (T := TX2) (N := 4) rfl gu_X2 (by decide) tw_1_36 dX2_setFinite_48 ?_
        refine lv_iload hx hb dX2_setFinite_51 (lv_at hl 1 rfl) ?_
        refine lv_lshl (v := (g_lshl v2 x5)) hx hb dX2_setFinite_53 rfl ?_
        obtain ⟨G3, eG3, h⟩ := gb_s h
        refine g_put X hI (k := 2) (v := .long (g_lshl v2 x5)) (G' := G3) eG3 (C := RX2) (T := TX2) (N := 4) rfl gu_X2 tyX2 tyX2_ok nmX2 (by decide) tw_1_36 rfl rfl rfl dX2_setFinite_54 (fun H locs hI => ?_)
        refine lv_aload_n hx hb dX2_setFinite_57 rfl (lv_at hl 0 rfl) ?_
        refine lv_dup hx hb dX2_setFinite_58 rfl ?_
        obtain ⟨v4, ev4, h⟩ := gb_s h
        refine g_get X hI (g_fI_s ev4) (C := RX2) (T := TX2) (N := 4) rfl gu_X2 (by decide) tw_1_37 dX2_setFinite_59 ?_
        refine lv_iload hx hb dX2_setFinite_62 (lv_at hl 1 rfl) ?_
        refine lv_isub (x := v4) (y := x5) hx hb dX2_setFinite_64 ?_
        obtain ⟨G5, eG5, h⟩ := gb_s h
        refine g_put X hI (k := 3) (v := .int (v4 - x5)) (G' := G5) eG5 (C := RX2) (T := TX2) (N := 4) rfl gu_X2 tyX2 tyX2_ok nmX2 (by decide) tw_1_37 rfl rfl rfl dX2_setFinite_65 (fun H locs hI => ?_)
        exact b_X2_setFinite_68 X ih hI h (lv_sub hl [0, 1] rfl)
def f_X2_setFinite (G : gG) (th : Nat) (a1 : Int32) (a2 : Int64) (a4 : Int32) : Option gG :=
  gb (g_sI G th 1 0 1) fun G1 =>
  gb (g_sZ G1 th 1 1 a1) fun G2 =>
  gb (g_sL G2 th 1 2 a2) fun G3 =>
  gb (g_sI G3 th 1 3 a4) fun G4 =>
  f_X2_setFinite_25 5000 G4 th 32
theorem gm_X2_setFinite : g_M yX2_setFinite cX2_setFinite 6 none 3 := ⟨tw_2_61, tw_1_3, by decide +kernel, Or.inl (by decide +kernel)⟩
set_option maxHeartbeats 4000000 in
set_option maxRecDepth 100000 in
theorem c_X2_setFinite {l : Launch} {E : gE} {G : gG} {n : Nat} {th : Nat} {a1 : Int32} {a2 : Int64} {a4 : Int32} {Gr : gG} (h : f_X2_setFinite G th a1 a2 a4 = some Gr) : g_Met l yX2_setFinite cX2_setFinite 6 none rm_X2_setFinite E G n [.ref th, .int a1, .long a2, .int a4] none Gr n := by
  refine g_ofW gm_X2_setFinite (Nat.le_of_ble_eq_true rfl) ?_
  intro p e s m below meth c ls X hl hI
  have hx := X.1
  have hb := X.2.1
  have X : g_X E G n p s m _ meth c cX2_setFinite 6 RX2 "setFinite" none := X
  have hl : lv_has ls 6 [(0, .ref th), (1, .int a1), (2, .long a2), (4, .int a4)] := hl
  unfold f_X2_setFinite at h
  refine lv_aload_n hx hb dX2_setFinite_0 rfl (lv_at hl 0 rfl) ?_
  refine lv_iconst (v := 1) hx hb dX2_setFinite_1 (by decide) ?_
  obtain ⟨G1, eG1, h⟩ := gb_s h
  refine g_put X hI (k := 0) (v := .int 1) (G' := G1) eG1 (C := RX2) (T := TX2) (N := 4) rfl gu_X2 tyX2 tyX2_ok nmX2 (by decide) tw_1_32 rfl rfl rfl dX2_setFinite_2 (fun H locs hI => ?_)
  refine lv_aload_n hx hb dX2_setFinite_5 rfl (lv_at hl 0 rfl) ?_
  refine lv_iload_n hx hb dX2_setFinite_6 rfl (lv_at hl 1 rfl) ?_
  obtain ⟨G2, eG2, h⟩ := gb_s h
  obtain ⟨cz, eG2⟩ := g_sZ_s eG2
  refine g_put X hI (k := 1) (v := .int a1) (G' := G2) eG2 (C := RX2) (T := TX2) (N := 4) rfl gu_X2 tyX2 tyX2_ok nmX2 (by decide) tw_1_34 rfl (g_nz cz) (g_fz cz) dX2_setFinite_7 (fun H locs hI => ?_)
  refine lv_aload_n hx hb dX2_setFinite_10 rfl (lv_at hl 0 rfl) ?_
  refine lv_lload_n hx hb dX2_setFinite_11 rfl (lv_at hl 2 rfl) ?_
  obtain ⟨G3, eG3, h⟩ := gb_s h
  refine g_put X hI (k := 2) (v := .long a2) (G' := G3) eG3 (C := RX2) (T := TX2) (N := 4) rfl gu_X2 tyX2 tyX2_ok nmX2 (by decide) tw_1_36 rfl rfl rfl dX2_setFinite_12 (fun H locs hI => ?_)
  refine lv_aload_n hx hb dX2_setFinite_15 rfl (lv_at hl 0 rfl) ?_
  refine lv_iload hx hb dX2_setFinite_16 (lv_at hl 3 rfl) ?_
  obtain ⟨G4, eG4, h⟩ := gb_s h
  refine g_put X hI (k := 3) (v := .int a4) (G' := G4) eG4 (C := RX2) (T := TX2) (N := 4) rfl gu_X2 tyX2 tyX2_ok nmX2 (by decide) tw_1_37 rfl rfl rfl dX2_setFinite_18 (fun H locs hI => ?_)
  refine lv_bipush (v := 32) hx hb dX2_setFinite_21 (by decide) ?_
  refine lv_istore (lv' := [(5, .int 32), (0, .ref th), (1, .int a1), (2, .long a2), (4, .int a4)]) hx hb dX2_setFinite_23 hl (by decide) rfl (fun ls hl => ?_)
  exact b_X2_setFinite_25 X 5000 hI h (lv_sub hl [1, 0] rfl)
abbrev rm_X2_setValue : Room := { frames := 1, cells := 0, slots := 0, locals := 25 }
def f_X2_setValue_189 (G : gG) (s0 : Int32) (s1 : Int32) (s2 : Nat) : Option gG :=
  gck (g_isO G s2 1) <|
  gb (f_X2_setKind G s2 s1 s0) fun G1 =>
  some G1
set_option maxHeartbeats 4000000 in
set_option maxRecDepth 100000 in
theorem b_X2_setValue_189 {p : Program} {l : Launch} {e : Env} {s : State} {m : MethodId} {args : Array Value} {below : List Frame} {meth : Method} {c : Code} {E : gE} {G0 : gG} {n0 : Nat} (X : g_X E G0 n0 p s m args meth c cX2_setValue 11 RX2 "setValue" none) {G : gG} {n : Nat} {Gr : gG} {H : Heap} {locs : List Loc} (hI : g_I E (g_A G0 n0) G n s.heap H locs) {s0 : Int32} {s1 : Int32} {s2 : Nat} (h : f_X2_setValue_189 G s0 s1 s2 = some Gr) {ls : Array Slot} (hl : lv_has ls 11 []) : W p l e rm_X2_setValue s m args below meth c H locs 0 0 (MQ below (g_Q E G0 n0 none Gr n) args s rm_X2_setValue.cells rm_X2_setValue.slots (g_A G0 n0)) (F0 m 189 ls [.int s0, .int s1, .ref s2]) := by
  have hx := X.1
  have hb := X.2.1
  unfold f_X2_setValue_189 at h
  obtain ⟨cO, h⟩ := gck_s h
  obtain ⟨G1, eG1, h⟩ := gb_s h
  refine g_callV X hI (q := (RX2, TX2, 4)) (b := s2) (av := [.int s1, .int s0]) cO rfl (c_X2_setKind eG1) gm_X2_setKind tw_2_54 tw_2_56 tw_p_8 ⟨by decide, by decide⟩ hl.1 (rest := []) rfl (Nat.le_of_ble_eq_true rfl) dX2_setValue_189 ⟨by decide, by decide⟩ (st1 := []) rfl (cells' := 0) (slots' := 0) rfl rfl (fun H locs hI => ?_)
  have h := Option.some.inj h
  subst h
  exact g_vret X hI dX2_setValue_192
def f_X2_setValue_166 (G : gG) (x8 : Int64) (x10 : Int32) (s0 : Int32) (s1 : Nat) : Option gG :=
  gck (g_isO G s1 1) <|
  gb (f_X2_setFinite G s1 s0 x8 x10) fun G1 =>
  some G1
set_option maxHeartbeats 4000000 in
set_option maxRecDepth 100000 in
theorem b_X2_setValue_166 {p : Program} {l : Launch} {e : Env} {s : State} {m : MethodId} {args : Array Value} {below : List Frame} {meth : Method} {c : Code} {E : gE} {G0 : gG} {n0 : Nat} (X : g_X E G0 n0 p s m args meth c cX2_setValue 11 RX2 "setValue" none) {G : gG} {n : Nat} {Gr : gG} {H : Heap} {locs : List Loc} (hI : g_I E (g_A G0 n0) G n s.heap H locs) {x8 : Int64} {x10 : Int32} {s0 : Int32} {s1 : Nat} (h : f_X2_setValue_166 G x8 x10 s0 s1 = some Gr) {ls : Array Slot} (hl : lv_has ls 11 [(8, .long x8), (10, .int x10)]) : W p l e rm_X2_setValue s m args below meth c H locs 0 0 (MQ below (g_Q E G0 n0 none Gr n) args s rm_X2_setValue.cells rm_X2_setValue.slots (g_A G0 n0)) (F0 m 166 ls [.int s0, .ref s1]) := by
  have hx := X.1
  have hb := X.2.1
  unfold f_X2_setValue_166 at h
  refine lv_lload hx hb dX2_setValue_166 (lv_at hl 0 rfl) ?_
  refine lv_iload hx hb dX2_setValue_168 (lv_at hl 1 rfl) ?_
  obtain ⟨cO, h⟩ := gck_s h
  obtain ⟨G1, eG1, h⟩ := gb_s h
  refine g_callV X hI (q := (RX2, TX2, 4)) (b := s1) (av := [.int s0, .long x8, .int x10]) cO rfl (c_X2_setFinite eG1) gm_X2_setFinite tw_2_58 tw_2_60 tw_p_9 ⟨by decide, by decide⟩ hl.1 (rest := []) rfl (Nat.le_of_ble_eq_true rfl) dX2_setValue_170 ⟨by decide, by decide⟩ (st1 := []) rfl (cells' := 0) (slots' := 0) rfl rfl (fun H locs hI => ?_)
  refine lv_goto (tgt := 192) hx hb dX2_setValue_173 (by decide) ?_
  have h := Option.some.inj h
  subst h
  exact g_vret X hI dX2_setValue_192
def f_X2_setValue_127 (G : gG) (x5 : Int32) (x7 : Int32) (x8 : Int64) (x10 : Int32) (s0 : Int32) (s1 : Nat) : Option gG :=
  gck (g_isO G s1 1) <|
  gb (f_X2_setFinite G s1 s0 (x8 ||| (g_lshl 1 x5)) ((x10 + x7) - 1)) fun G1 =>
  some G1
set_option maxHeartbeats 4000000 in
set_option maxRecDepth 100000 in
theorem b_X2_setValue_127 {p : Program} {l : Launch} {e : Env} {s : State} {m : MethodId} {args : Array Value} {below : List Frame} {meth : Method} {c : Code} {E : gE} {G0 : gG} {n0 : Nat} (X : g_X E G0 n0 p s m args meth c cX2_setValue 11 RX2 "setValue" none) {G : gG} {n : Nat} {Gr : gG} {H : Heap} {locs : List Loc} (hI : g_I E (g_A G0 n0) G n s.heap H locs) {x5 : Int32} {x7 : Int32} {x8 : Int64} {x10 : Int32} {s0 : Int32} {s1 : Nat} (h : f_X2_setValue_127 G x5 x7 x8 x10 s0 s1 = some Gr) {ls : Array Slot} (hl : lv_has ls 11 [(5, .int x5), (7, .int x7), (8, .long x8), (10, .int x10)]) : W p l e rm_X2_setValue s m args below meth c H locs 0 0 (MQ below (g_Q E G0 n0 none Gr n) args s rm_X2_setValue.cells rm_X2_setValue.slots (g_A G0 n0)) (F0 m 127 ls [.int s0, .ref s1]) := by
  have hx := X.1
  have hb := X.2.1
  unfold f_X2_setValue_127 at h
  refine lv_lload hx hb dX2_setValue_127 (lv_at hl 2 rfl) ?_
  refine lv_lconst (v := 1) hx hb dX2_setValue_129 (by decide) ?_
  refine lv_iload hx hb dX2_setValue_130 (lv_at hl 0 rfl) ?_
  refine lv_lshl (v := (g_lshl 1 x5)) hx hb dX2_setValue_132 rfl ?_
  refine lv_lor (x := x8) (y := (g_lshl 1 x5)) hx hb dX2_setValue_133 ?_
  refine lv_iload hx hb dX2_setValue_134 (lv_at hl 3 rfl) ?_
  refine lv_iload hx hb dX2_setValue_136 (lv_at hl 1 rfl) ?_
  refine lv_iadd (x := x10) (y := x7) hx hb dX2_setValue_138 ?_
  refine lv_iconst (v := 1) hx hb dX2_setValue_139 (by decide) ?_
  refine lv_isub (x := (x10 + x7)) (y := 1) hx hb dX2_setValue_140 ?_
  obtain ⟨cO, h⟩ := gck_s h
  obtain ⟨G1, eG1, h⟩ := gb_s h
  refine g_callV X hI (q := (RX2, TX2, 4)) (b := s1) (av := [.int s0, .long (x8 ||| (g_lshl 1 x5)), .int ((x10 + x7) - 1)]) cO rfl (c_X2_setFinite eG1) gm_X2_setFinite tw_2_58 tw_2_60 tw_p_9 ⟨by decide, by decide⟩ hl.1 (rest := []) rfl (Nat.le_of_ble_eq_true rfl) dX2_setValue_141 ⟨by decide, by decide⟩ (st1 := []) rfl (cells' := 0) (slots' := 0) rfl rfl (fun H locs hI => ?_)
  refine lv_goto (tgt := 192) hx hb dX2_setValue_144 (by decide) ?_
  have h := Option.some.inj h
  subst h
  exact g_vret X hI dX2_setValue_192
def f_X2_setValue_104 (G : gG) (s0 : Int32) (s1 : Int32) (s2 : Nat) : Option gG :=
  gck (g_isO G s2 1) <|
  gb (f_X2_setKind G s2 s1 s0) fun G1 =>
  some G1
set_option maxHeartbeats 4000000 in
set_option maxRecDepth 100000 in
theorem b_X2_setValue_104 {p : Program} {l : Launch} {e : Env} {s : State} {m : MethodId} {args : Array Value} {below : List Frame} {meth : Method} {c : Code} {E : gE} {G0 : gG} {n0 : Nat} (X : g_X E G0 n0 p s m args meth c cX2_setValue 11 RX2 "setValue" none) {G : gG} {n : Nat} {Gr : gG} {H : Heap} {locs : List Loc} (hI : g_I E (g_A G0 n0) G n s.heap H locs) {s0 : Int32} {s1 : Int32} {s2 : Nat} (h : f_X2_setValue_104 G s0 s1 s2 = some Gr) {ls : Array Slot} (hl : lv_has ls 11 []) : W p l e rm_X2_setValue s m args below meth c H locs 0 0 (MQ below (g_Q E G0 n0 none Gr n) args s rm_X2_setValue.cells rm_X2_setValue.slots (g_A G0 n0)) (F0 m 104 ls [.int s0, .int s1, .ref s2]) := by
  have hx := X.1
  have hb := X.2.1
  unfold f_X2_setValue_104 at h
  obtain ⟨cO, h⟩ := gck_s h
  obtain ⟨G1, eG1, h⟩ := gb_s h
  refine g_callV X hI (q := (RX2, TX2, 4)) (b := s2) (av := [.int s1, .int s0]) cO rfl (c_X2_setKind eG1) gm_X2_setKind tw_2_54 tw_2_56 tw_p_8 ⟨by decide, by decide⟩ hl.1 (rest := []) rfl (Nat.le_of_ble_eq_true rfl) dX2_setValue_104 ⟨by decide, by decide⟩ (st1 := []) rfl (cells' := 0) (slots' := 0) rfl rfl (fun H locs hI => ?_)
  refine lv_goto (tgt := 192) hx hb dX2_setValue_107 (by decide) ?_
  have h := Option.some.inj h
  subst h
  exact g_vret X hI dX2_setValue_192
def f_X2_setValue_93 (G : gG) (x1 : Int64) (s0 : Int32) (s1 : Nat) : Option gG :=
  if (0 : Int64) ≤ x1 then
    f_X2_setValue_104 G 0 s0 s1
  else
  f_X2_setValue_104 G 1 s0 s1
set_option maxHeartbeats 4000000 in
set_option maxRecDepth 100000 in
theorem b_X2_setValue_93 {p : Program} {l : Launch} {e : Env} {s : State} {m : MethodId} {args : Array Value} {below : List Frame} {meth : Method} {c : Code} {E : gE} {G0 : gG} {n0 : Nat} (X : g_X E G0 n0 p s m args meth c cX2_setValue 11 RX2 "setValue" none) {G : gG} {n : Nat} {Gr : gG} {H : Heap} {locs : List Loc} (hI : g_I E (g_A G0 n0) G n s.heap H locs) {x1 : Int64} {s0 : Int32} {s1 : Nat} (h : f_X2_setValue_93 G x1 s0 s1 = some Gr) {ls : Array Slot} (hl : lv_has ls 11 [(1, .long x1)]) : W p l e rm_X2_setValue s m args below meth c H locs 0 0 (MQ below (g_Q E G0 n0 none Gr n) args s rm_X2_setValue.cells rm_X2_setValue.slots (g_A G0 n0)) (F0 m 93 ls [.int s0, .ref s1]) := by
  have hx := X.1
  have hb := X.2.1
  unfold f_X2_setValue_93 at h
  refine lv_lload_n hx hb dX2_setValue_93 rfl (lv_at hl 0 rfl) ?_
  refine lv_lconst (v := 0) hx hb dX2_setValue_94 (by decide) ?_
  refine W.lcmp hx hb dX2_setValue_95 ?_
  refine lv_if_ge (tgt := 103) hx hb dX2_setValue_96 (by decide) (fun c => ?_) (fun c => ?_)
  · have h := g_t _ ((lg_cmp_ge _ _).mp c) h
    refine lv_iconst (v := 0) hx hb dX2_setValue_103 (by decide) ?_
    exact b_X2_setValue_104 X hI h (lv_sub hl [] rfl)
  · have h := g_f _ (fun q => c ((lg_cmp_ge _ _).mpr q)) h
    refine lv_iconst (v := 1) hx hb dX2_setValue_99 (by decide) ?_
    refine lv_goto (tgt := 104) hx hb dX2_setValue_100 (by decide) ?_
    exact b_X2_setValue_104 X hI h (lv_sub hl [] rfl)
def f_X2_setValue_40 (G : gG) (x0 : Nat) (x1 : Int64) (x5 : Int32) (s0 : Int32) : Option gG :=
  gl (((Int64.toInt32 (g_lushr x1 x5)) &&& s0) : Int32) fun v1 =>
  gl ((x1 &&& ((g_lshl 1 x5) - 1)) : Int64) fun v2 =>
  gl ((((1 : Int32) - (s0 / 2)) - x5) : Int32) fun v3 =>
  if v1 = s0 then
    if v2 = 0 then
      f_X2_setValue_93 G x1 2 x0
    else
    f_X2_setValue_93 G x1 3 x0
  else
  if v1 = 0 then
    if v2 = 0 then
      if (0 : Int64) ≤ x1 then
        f_X2_setValue_189 G 0 0 x0
      else
      f_X2_setValue_189 G 1 0 x0
    else
    if (0 : Int64) ≤ x1 then
      f_X2_setValue_166 G v2 v3 0 x0
    else
    f_X2_setValue_166 G v2 v3 1 x0
  else
  if (0 : Int64) ≤ x1 then
    f_X2_setValue_127 G x5 v1 v2 v3 0 x0
  else
  f_X2_setValue_127 G x5 v1 v2 v3 1 x0
set_option maxHeartbeats 4000000 in
set_option maxRecDepth 100000 in
theorem b_X2_setValue_40 {p : Program} {l : Launch} {e : Env} {s : State} {m : MethodId} {args : Array Value} {below : List Frame} {meth : Method} {c : Code} {E : gE} {G0 : gG} {n0 : Nat} (X : g_X E G0 n0 p s m args meth c cX2_setValue 11 RX2 "setValue" none) {G : gG} {n : Nat} {Gr : gG} {H : Heap} {locs : List Loc} (hI : g_I E (g_A G0 n0) G n s.heap H locs) {x0 : Nat} {x1 : Int64} {x5 : Int32} {s0 : Int32} (h : f_X2_setValue_40 G x0 x1 x5 s0 = some Gr) {ls : Array Slot} (hl : lv_has ls 11 [(0, .ref x0), (1, .long x1), (5, .int x5)]) : W p l e rm_X2_setValue s m args below meth c H locs 0 0 (MQ below (g_Q E G0 n0 none Gr n) args s rm_X2_setValue.cells rm_X2_setValue.slots (g_A G0 n0)) (F0 m 40 ls [.int s0]) := by
  have hx := X.1
  have hb := X.2.1
  unfold f_X2_setValue_40 at h
  refine lv_istore (lv' := [(6, .int s0), (0, .ref x0), (1, .long x1), (5, .int x5)]) hx hb dX2_setValue_40 hl (by decide) rfl (fun ls hl => ?_)
  refine lv_lload_n hx hb dX2_setValue_42 rfl (lv_at hl 2 rfl) ?_
  refine lv_iload hx hb dX2_setValue_43 (lv_at hl 3 rfl) ?_
  refine lv_lushr (v := (g_lushr x1 x5)) hx hb dX2_setValue_45 rfl ?_
  refine lv_l2i (v := (Int64.toInt32 (g_lushr x1 x5))) hx hb dX2_setValue_46 rfl ?_
  refine lv_iload hx hb dX2_setValue_47 (lv_at hl 0 rfl) ?_
  refine lv_iand (x := (Int64.toInt32 (g_lushr x1 x5))) (y := s0) hx hb dX2_setValue_49 ?_
  obtain ⟨v1, ev1, h⟩ := gl_s h
  refine g_topi ev1 ?_
  refine lv_istore (lv' := [(7, .int v1), (6, .int s0), (0, .ref x0), (1, .long x1), (5, .int x5)]) hx hb dX2_setValue_50 hl (by decide) rfl (fun ls hl => ?_)
  refine lv_lload_n hx hb dX2_setValue_52 rfl (lv_at hl 3 rfl) ?_
  refine lv_lconst (v := 1) hx hb dX2_setValue_53 (by decide) ?_
  refine lv_iload hx hb dX2_setValue_54 (lv_at hl 4 rfl) ?_
  refine lv_lshl (v := (g_lshl 1 x5)) hx hb dX2_setValue_56 rfl ?_
  refine lv_lconst (v := 1) hx hb dX2_setValue_57 (by decide) ?_
  refine lv_lsub (x := (g_lshl 1 x5)) (y := 1) hx hb dX2_setValue_58 ?_
  refine lv_land (x := x1) (y := ((g_lshl 1 x5) - 1)) hx hb dX2_setValue_59 ?_
  obtain ⟨v2, ev2, h⟩ := gl_s h
  refine g_topl ev2 ?_
  refine lv_lstore (lv' := [(8, .long v2), (7, .int v1), (6, .int s0), (0, .ref x0), (1, .long x1), (5, .int x5)]) hx hb dX2_setValue_60 hl (by decide) rfl (fun ls hl => ?_)
  refine lv_iconst (v := 1) hx hb dX2_setValue_62 (by decide) ?_
  refine lv_iload hx hb dX2_setValue_63 (lv_at hl 2 rfl) ?_
  refine lv_iconst (v := 2) hx hb dX2_setValue_65 (by decide) ?_
  refine lv_idiv hx hb dX2_setValue_66 (by decide) ?_
  refine lv_isub (x := 1) (y := (s0 / 2)) hx hb dX2_setValue_67 ?_
  refine lv_iload hx hb dX2_setValue_68 (lv_at hl 5 rfl) ?_
  refine lv_isub (x := ((1 : Int32) - (s0 / 2))) (y := x5) hx hb dX2_setValue_70 ?_
  obtain ⟨v3, ev3, h⟩ := gl_s h
  refine g_topi ev3 ?_
  refine lv_istore (lv' := [(10, .int v3), (8, .long v2), (7, .int v1), (6, .int s0), (0, .ref x0), (1, .long x1), (5, .int x5)]) hx hb dX2_setValue_71 hl (by decide) rfl (fun ls hl => ?_)
  refine lv_iload hx hb dX2_setValue_73 (lv_at hl 2 rfl) ?_
  refine lv_iload hx hb dX2_setValue_75 (lv_at hl 3 rfl) ?_
  refine lv_icmp_ne (tgt := 110) hx hb dX2_setValue_77 (by decide) (fun c => ?_) (fun c => ?_)
  · have h := g_f _ c h
    refine lv_iload hx hb dX2_setValue_110 (lv_at hl 2 rfl) ?_
    refine lv_if_eq (tgt := 147) hx hb dX2_setValue_112 (by decide) (fun c => ?_) (fun c => ?_)
    · have h := g_t _ c h
      refine lv_lload hx hb dX2_setValue_147 (lv_at hl 1 rfl) ?_
      refine lv_lconst (v := 0) hx hb dX2_setValue_149 (by decide) ?_
      refine W.lcmp hx hb dX2_setValue_150 ?_
      refine lv_if_eq (tgt := 176) hx hb dX2_setValue_151 (by decide) (fun c => ?_) (fun c => ?_)
      · have h := g_t _ ((lg_cmp_eq _ _).mp c) h
        refine lv_aload_n hx hb dX2_setValue_176 rfl (lv_at hl 4 rfl) ?_
        refine lv_iconst (v := 0) hx hb dX2_setValue_177 (by decide) ?_
        refine lv_lload_n hx hb dX2_setValue_178 rfl (lv_at hl 5 rfl) ?_
        refine lv_lconst (v := 0) hx hb dX2_setValue_179 (by decide) ?_
        refine W.lcmp hx hb dX2_setValue_180 ?_
        refine lv_if_ge (tgt := 188) hx hb dX2_setValue_181 (by decide) (fun c => ?_) (fun c => ?_)
        · have h := g_t _ ((lg_cmp_ge _ _).mp c) h
          refine lv_iconst (v := 0) hx hb dX2_setValue_188 (by decide) ?_
          exact b_X2_setValue_189 X hI h (lv_sub hl [] rfl)
        · have h := g_f _ (fun q => c ((lg_cmp_ge _ _).mpr q)) h
          refine lv_iconst (v := 1) hx hb dX2_setValue_184 (by decide) ?_
          refine lv_goto (tgt := 189) hx hb dX2_setValue_185 (by decide) ?_
          exact b_X2_setValue_189 X hI h (lv_sub hl [] rfl)
      · have h := g_f _ (fun q => c ((lg_cmp_eq _ _).mpr q)) h
        refine lv_aload_n hx hb dX2_setValue_154 rfl (lv_at hl 4 rfl) ?_
        refine lv_lload_n hx hb dX2_setValue_155 rfl (lv_at hl 5 rfl) ?_
        refine lv_lconst (v := 0) hx hb dX2_setValue_156 (by decide) ?_
        refine W.lcmp hx hb dX2_setValue_157 ?_
        refine lv_if_ge (tgt := 165) hx hb dX2_setValue_158 (by decide) (fun c => ?_) (fun c => ?_)
        · have h := g_t _ ((lg_cmp_ge _ _).mp c) h
          refine lv_iconst (v := 0) hx hb dX2_setValue_165 (by decide) ?_
          exact b_X2_setValue_166 X hI h (lv_sub hl [1, 0] rfl)
        · have h := g_f _ (fun q => c ((lg_cmp_ge _ _).mpr q)) h
          refine lv_iconst (v := 1) hx hb dX2_setValue_161 (by decide) ?_
          refine lv_goto (tgt := 166) hx hb dX2_setValue_162 (by decide) ?_
          exact b_X2_setValue_166 X hI h (lv_sub hl [1, 0] rfl)
    · have h := g_f _ c h
      refine lv_aload_n hx hb dX2_setValue_115 rfl (lv_at hl 4 rfl) ?_
      refine lv_lload_n hx hb dX2_setValue_116 rfl (lv_at hl 5 rfl) ?_
      refine lv_lconst (v := 0) hx hb dX2_setValue_117 (by decide) ?_
      refine W.lcmp hx hb dX2_setValue_118 ?_
      refine lv_if_ge (tgt := 126) hx hb dX2_setValue_119 (by decide) (fun c => ?_) (fun c => ?_)
      · have h := g_t _ ((lg_cmp_ge _ _).mp c) h
        refine lv_iconst (v := 0) hx hb dX2_setValue_126 (by decide) ?_
        exact b_X2_setValue_127 X hI h (lv_sub hl [6, 2, 1, 0] rfl)
      · have h := g_f _ (fun q => c ((lg_cmp_ge _ _).mpr q)) h
        refine lv_iconst (v := 1) hx hb dX2_setValue_122 (by decide) ?_
        refine lv_goto (tgt := 127) hx hb dX2_setValue_123 (by decide) ?_
        exact b_X2_setValue_127 X hI h (lv_sub hl [6, 2, 1, 0] rfl)
  · have h := g_t _ c h
    refine lv_aload_n hx hb dX2_setValue_80 rfl (lv_at hl 4 rfl) ?_
    refine lv_lload hx hb dX2_setValue_81 (lv_at hl 1 rfl) ?_
    refine lv_lconst (v := 0) hx hb dX2_setValue_83 (by decide) ?_
    refine W.lcmp hx hb dX2_setValue_84 ?_
    refine lv_if_ne (tgt := 92) hx hb dX2_setValue_85 (by decide) (fun c => ?_) (fun c => ?_)
    · have h := g_f _ ((not_congr (lg_cmp_eq _ _)).mp c) h
      refine lv_iconst (v := 3) hx hb dX2_setValue_92 (by decide) ?_
      exact b_X2_setValue_93 X hI h (lv_sub hl [5] rfl)
    · have h := g_t _ ((lg_cmp_eq _ _).mp c) h
      refine lv_iconst (v := 2) hx hb dX2_setValue_88 (by decide) ?_
      refine lv_goto (tgt := 93) hx hb dX2_setValue_89 (by decide) ?_
      exact b_X2_setValue_93 X hI h (lv_sub hl [5] rfl)
def f_X2_setValue_24 (G : gG) (x0 : Nat) (x1 : Int64) (x4 : Int32) (s0 : Int32) : Option gG :=
  if x4 = 0 then
    f_X2_setValue_40 G x0 x1 s0 2047
  else
  f_X2_setValue_40 G x0 x1 s0 255
set_option maxHeartbeats 4000000 in
set_option maxRecDepth 100000 in
theorem b_X2_setValue_24 {p : Program} {l : Launch} {e : Env} {s : State} {m : MethodId} {args : Array Value} {below : List Frame} {meth : Method} {c : Code} {E : gE} {G0 : gG} {n0 : Nat} (X : g_X E G0 n0 p s m args meth c cX2_setValue 11 RX2 "setValue" none) {G : gG} {n : Nat} {Gr : gG} {H : Heap} {locs : List Loc} (hI : g_I E (g_A G0 n0) G n s.heap H locs) {x0 : Nat} {x1 : Int64} {x4 : Int32} {s0 : Int32} (h : f_X2_setValue_24 G x0 x1 x4 s0 = some Gr) {ls : Array Slot} (hl : lv_has ls 11 [(0, .ref x0), (1, .long x1), (4, .int x4)]) : W p l e rm_X2_setValue s m args below meth c H locs 0 0 (MQ below (g_Q E G0 n0 none Gr n) args s rm_X2_setValue.cells rm_X2_setValue.slots (g_A G0 n0)) (F0 m 24 ls [.int s0]) := by
  have hx := X.1
  have hb := X.2.1
  unfold f_X2_setValue_24 at h
  refine lv_istore (lv' := [(5, .int s0), (0, .ref x0), (1, .long x1), (4, .int x4)]) hx hb dX2_setValue_24 hl (by decide) rfl (fun ls hl => ?_)
  refine lv_iload hx hb dX2_setValue_26 (lv_at hl 3 rfl) ?_
  refine lv_if_eq (tgt := 37) hx hb dX2_setValue_28 (by decide) (fun c => ?_) (fun c => ?_)
  · have h := g_t _ c h
    refine lv_sipush (v := 2047) hx hb dX2_setValue_37 (by decide) ?_
    exact b_X2_setValue_40 X hI h (lv_sub hl [1, 2, 0] rfl)
  · have h := g_f _ c h
    refine lv_sipush (v := 255) hx hb dX2_setValue_31 (by decide) ?_
    refine lv_goto (tgt := 40) hx hb dX2_setValue_34 (by decide) ?_
    exact b_X2_setValue_40 X hI h (lv_sub hl [1, 2, 0] rfl)
def f_X2_setValue_10 (G : gG) (x0 : Nat) (x1 : Int64) (s0 : Int32) : Option gG :=
  if s0 = 0 then
    f_X2_setValue_24 G x0 x1 s0 52
  else
  f_X2_setValue_24 G x0 x1 s0 23
set_option maxHeartbeats 4000000 in
set_option maxRecDepth 100000 in
theorem b_X2_setValue_10 {p : Program} {l : Launch} {e : Env} {s : State} {m : MethodId} {args : Array Value} {below : List Frame} {meth : Method} {c : Code} {E : gE} {G0 : gG} {n0 : Nat} (X : g_X E G0 n0 p s m args meth c cX2_setValue 11 RX2 "setValue" none) {G : gG} {n : Nat} {Gr : gG} {H : Heap} {locs : List Loc} (hI : g_I E (g_A G0 n0) G n s.heap H locs) {x0 : Nat} {x1 : Int64} {s0 : Int32} (h : f_X2_setValue_10 G x0 x1 s0 = some Gr) {ls : Array Slot} (hl : lv_has ls 11 [(0, .ref x0), (1, .long x1)]) : W p l e rm_X2_setValue s m args below meth c H locs 0 0 (MQ below (g_Q E G0 n0 none Gr n) args s rm_X2_setValue.cells rm_X2_setValue.slots (g_A G0 n0)) (F0 m 10 ls [.int s0]) := by
  have hx := X.1
  have hb := X.2.1
  unfold f_X2_setValue_10 at h
  refine lv_istore (lv' := [(4, .int s0), (0, .ref x0), (1, .long x1)]) hx hb dX2_setValue_10 hl (by decide) rfl (fun ls hl => ?_)
  refine lv_iload hx hb dX2_setValue_12 (lv_at hl 0 rfl) ?_
  refine lv_if_eq (tgt := 22) hx hb dX2_setValue_14 (by decide) (fun c => ?_) (fun c => ?_)
  · have h := g_t _ c h
    refine lv_bipush (v := 52) hx hb dX2_setValue_22 (by decide) ?_
    exact b_X2_setValue_24 X hI h (lv_sub hl [1, 2, 0] rfl)
  · have h := g_f _ c h
    refine lv_bipush (v := 23) hx hb dX2_setValue_17 (by decide) ?_
    refine lv_goto (tgt := 24) hx hb dX2_setValue_19 (by decide) ?_
    exact b_X2_setValue_24 X hI h (lv_sub hl [1, 2, 0] rfl)
def f_X2_setValue (G : gG) (th : Nat) (a1 : Int64) (a3 : Int32) : Option gG :=
  if a3 = 4 then
    f_X2_setValue_10 G th a1 1
  else
  f_X2_setValue_10 G th a1 0
theorem gm_X2_setValue : g_M yX2_setValue cX2_setValue 11 none 2 := ⟨tw_2_53, tw_1_3, by decide +kernel, Or.inl (by decide +kernel)⟩
set_option maxHeartbeats 4000000 in
set_option maxRecDepth 100000 in
theorem c_X2_setValue {l : Launch} {E : gE} {G : gG} {n : Nat} {th : Nat} {a1 : Int64} {a3 : Int32} {Gr : gG} (h : f_X2_setValue G th a1 a3 = some Gr) : g_Met l yX2_setValue cX2_setValue 11 none rm_X2_setValue E G n [.ref th, .long a1, .int a3] none Gr n := by
  refine g_ofW gm_X2_setValue (Nat.le_of_ble_eq_true rfl) ?_
  intro p e s m below meth c ls X hl hI
  have hx := X.1
  have hb := X.2.1
  have X : g_X E G n p s m _ meth c cX2_setValue 11 RX2 "setValue" none := X
  have hl : lv_has ls 11 [(0, .ref th), (1, .long a1), (3, .int a3)] := hl
  unfold f_X2_setValue at h
  refine lv_iload_n hx hb dX2_setValue_0 rfl (lv_at hl 2 rfl) ?_
  refine lv_iconst (v := 4) hx hb dX2_setValue_1 (by decide) ?_
  refine lv_icmp_ne (tgt := 9) hx hb dX2_setValue_2 (by decide) (fun c => ?_) (fun c => ?_)
  · have h := g_f _ c h
    refine lv_iconst (v := 0) hx hb dX2_setValue_9 (by decide) ?_
    exact b_X2_setValue_10 X hI h (lv_sub hl [0, 1] rfl)
  · have h := g_t _ c h
    refine lv_iconst (v := 1) hx hb dX2_setValue_5 (by decide) ?_
    refine lv_goto (tgt := 10) hx hb dX2_setValue_6 (by decide) ?_
    exact b_X2_setValue_10 X hI h (lv_sub hl [0, 1] rfl)
abbrev rm_X2_setWhole : Room := { frames := 1, cells := 0, slots := 0, locals := 25 }
def f_X2_setWhole_47 (G : gG) (x1 : Int64) (s0 : Int32) (s1 : Nat) : Option gG :=
  gck (g_isO G s1 1) <|
  gb (f_X2_setFinite G s1 s0 (f_J9_abs_067f4 x1) (0 : Int32)) fun G1 =>
  some G1
set_option maxHeartbeats 4000000 in
set_option maxRecDepth 100000 in
theorem b_X2_setWhole_47 {p : Program} {l : Launch} {e : Env} {s : State} {m : MethodId} {args : Array Value} {below : List Frame} {meth : Method} {c : Code} {E : gE} {G0 : gG} {n0 : Nat} (X : g_X E G0 n0 p s m args meth c cX2_setWhole 3 RX2 "setWhole" none) {G : gG} {n : Nat} {Gr : gG} {H : Heap} {locs : List Loc} (hI : g_I E (g_A G0 n0) G n s.heap H locs) {x1 : Int64} {s0 : Int32} {s1 : Nat} (h : f_X2_setWhole_47 G x1 s0 s1 = some Gr) {ls : Array Slot} (hl : lv_has ls 3 [(1, .long x1)]) : W p l e rm_X2_setWhole s m args below meth c H locs 0 0 (MQ below (g_Q E G0 n0 none Gr n) args s rm_X2_setWhole.cells rm_X2_setWhole.slots (g_A G0 n0)) (F0 m 47 ls [.int s0, .ref s1]) := by
  have hx := X.1
  have hb := X.2.1
  unfold f_X2_setWhole_47 at h
  refine lv_lload_n hx hb dX2_setWhole_47 rfl (lv_at hl 0 rfl) ?_
  refine g_callS X hI (av := [.long x1]) (c_J9_abs_067f4 x1) gm_J9_abs_067f4 tw_2_68 tw_2_69 ⟨by decide, by decide⟩ hl.1 (rest := [.int s0, .ref s1]) rfl (Nat.le_of_ble_eq_true rfl) dX2_setWhole_48 ⟨by decide, by decide⟩ (st1 := [.long (f_J9_abs_067f4 x1), .int s0, .ref s1]) rfl (cells' := 0) (slots' := 0) rfl rfl (fun H locs hI => ?_)
  refine lv_iconst (v := 0) hx hb dX2_setWhole_51 (by decide) ?_
  obtain ⟨cO, h⟩ := gck_s h
  obtain ⟨G1, eG1, h⟩ := gb_s h
  refine g_callV X hI (q := (RX2, TX2, 4)) (b := s1) (av := [.int s0, .long (f_J9_abs_067f4 x1), .int 0]) cO rfl (c_X2_setFinite eG1) gm_X2_setFinite tw_2_58 tw_2_60 tw_p_9 ⟨by decide, by decide⟩ hl.1 (rest := []) rfl (Nat.le_of_ble_eq_true rfl) dX2_setWhole_52 ⟨by decide, by decide⟩ (st1 := []) rfl (cells' := 0) (slots' := 0) rfl rfl (fun H locs hI => ?_)
  have h := Option.some.inj h
  subst h
  exact g_vret X hI dX2_setWhole_55
def f_X2_setWhole (G : gG) (th : Nat) (a1 : Int64) : Option gG :=
  if a1 = 0 then
    gck (g_isO G th 1) <|
    gb (f_X2_setKind G th (0 : Int32) (0 : Int32)) fun G2 =>
    some G2
  else
  if a1 = (-9223372036854775808) then
    gck (g_isO G th 1) <|
    gb (f_X2_setFinite G th (1 : Int32) (4611686018427387904 : Int64) (1 : Int32)) fun G1 =>
    some G1
  else
  if (0 : Int64) ≤ a1 then
    f_X2_setWhole_47 G a1 0 th
  else
  f_X2_setWhole_47 G a1 1 th
theorem gm_X2_setWhole : g_M yX2_setWhole cX2_setWhole 3 none 1 := ⟨tw_2_65, tw_1_3, by decide +kernel, Or.inl (by decide +kernel)⟩
set_option maxHeartbeats 4000000 in
set_option maxRecDepth 100000 in
theorem c_X2_setWhole {l : Launch} {E : gE} {G : gG} {n : Nat} {th : Nat} {a1 : Int64} {Gr : gG} (h : f_X2_setWhole G th a1 = some Gr) : g_Met l yX2_setWhole cX2_setWhole 3 none rm_X2_setWhole E G n [.ref th, .long a1] none Gr n := by
  refine g_ofW gm_X2_setWhole (Nat.le_of_ble_eq_true rfl) ?_
  intro p e s m below meth c ls X hl hI
  have hx := X.1
  have hb := X.2.1
  have X : g_X E G n p s m _ meth c cX2_setWhole 3 RX2 "setWhole" none := X
  have hl : lv_has ls 3 [(0, .ref th), (1, .long a1)] := hl
  unfold f_X2_setWhole at h
  refine lv_lload_n hx hb dX2_setWhole_0 rfl (lv_at hl 1 rfl) ?_
  refine lv_lconst (v := 0) hx hb dX2_setWhole_1 (by decide) ?_
  refine W.lcmp hx hb dX2_setWhole_2 ?_
  refine lv_if_ne (tgt := 15) hx hb dX2_setWhole_3 (by decide) (fun c => ?_) (fun c => ?_)
  · have h := g_f _ ((not_congr (lg_cmp_eq _ _)).mp c) h
    refine lv_lload_n hx hb dX2_setWhole_15 rfl (lv_at hl 1 rfl) ?_
    refine lv_ldc2 (v := (-9223372036854775808)) hx hb X.2.2.2.1 (X.2.2.2.2.1 _ tw_2_66) dX2_setWhole_16 ?_
    refine W.lcmp hx hb dX2_setWhole_19 ?_
    refine lv_if_ne (tgt := 35) hx hb dX2_setWhole_20 (by decide) (fun c => ?_) (fun c => ?_)
    · have h := g_f _ ((not_congr (lg_cmp_eq _ _)).mp c) h
      refine lv_aload_n hx hb dX2_setWhole_35 rfl (lv_at hl 0 rfl) ?_
      refine lv_lload_n hx hb dX2_setWhole_36 rfl (lv_at hl 1 rfl) ?_
      refine lv_lconst (v := 0) hx hb dX2_setWhole_37 (by decide) ?_
      refine W.lcmp hx hb dX2_setWhole_38 ?_
      refine lv_if_ge (tgt := 46) hx hb dX2_setWhole_39 (by decide) (fun c => ?_) (fun c => ?_)
      · have h := g_t _ ((lg_cmp_ge _ _).mp c) h
        refine lv_iconst (v := 0) hx hb dX2_setWhole_46 (by decide) ?_
        exact b_X2_setWhole_47 X hI h (lv_sub hl [1] rfl)
      · have h := g_f _ (fun q => c ((lg_cmp_ge _ _).mpr q)) h
        refine lv_iconst (v := 1) hx hb dX2_setWhole_42 (by decide) ?_
        refine lv_goto (tgt := 47) hx hb dX2_setWhole_43 (by decide) ?_
        exact b_X2_setWhole_47 X hI h (lv_sub hl [1] rfl)
    · have h := g_t _ ((lg_cmp_eq _ _).mp c) h
      refine lv_aload_n hx hb dX2_setWhole_23 rfl (lv_at hl 0 rfl) ?_
      refine lv_iconst (v := 1) hx hb dX2_setWhole_24 (by decide) ?_
      refine lv_ldc2 (v := 4611686018427387904) hx hb X.2.2.2.1 (X.2.2.2.2.1 _ tw_2_67) dX2_setWhole_25 ?_
      refine lv_iconst (v := 1) hx hb dX2_setWhole_28 (by decide) ?_
      obtain ⟨cO, h⟩ := gck_s h
      obtain ⟨G1, eG1, h⟩ := gb_s h
      refine g_callV X hI (q := (RX2, TX2, 4)) (b := th) (av := [.int 1, .long 4611686018427387904, .int 1]) cO rfl (c_X2_setFinite eG1) gm_X2_setFinite tw_2_58 tw_2_60 tw_p_9 ⟨by decide, by decide⟩ hl.1 (rest := []) rfl (Nat.le_of_ble_eq_true rfl) dX2_setWhole_29 ⟨by decide, by decide⟩ (st1 := []) rfl (cells' := 0) (slots' := 0) rfl rfl (fun H locs hI => ?_)
      refine lv_goto (tgt := 55) hx hb dX2_setWhole_32 (by decide) ?_
      have h := Option.some.inj h
      subst h
      exact g_vret X hI dX2_setWhole_55
  · have h := g_t _ ((lg_cmp_eq _ _).mp c) h
    refine lv_aload_n hx hb dX2_setWhole_6 rfl (lv_at hl 0 rfl) ?_
    refine lv_iconst (v := 0) hx hb dX2_setWhole_7 (by decide) ?_
    refine lv_iconst (v := 0) hx hb dX2_setWhole_8 (by decide) ?_
    obtain ⟨cO, h⟩ := gck_s h
    obtain ⟨G2, eG2, h⟩ := gb_s h
    refine g_callV X hI (q := (RX2, TX2, 4)) (b := th) (av := [.int 0, .int 0]) cO rfl (c_X2_setKind eG2) gm_X2_setKind tw_2_54 tw_2_56 tw_p_8 ⟨by decide, by decide⟩ hl.1 (rest := []) rfl (Nat.le_of_ble_eq_true rfl) dX2_setWhole_9 ⟨by decide, by decide⟩ (st1 := []) rfl (cells' := 0) (slots' := 0) rfl rfl (fun H locs hI => ?_)
    refine lv_goto (tgt := 55) hx hb dX2_setWhole_12 (by decide) ?_
    have h := Option.some.inj h
    subst h
    exact g_vret X hI dX2_setWhole_55
abbrev rm_X2_shiftedToNearest : Room := { frames := 0, cells := 0, slots := 0, locals := 0 }
def f_X2_shiftedToNearest_66 (x3 : Int64) : Int64 :=
  (x3 + 1)
set_option maxHeartbeats 4000000 in
set_option maxRecDepth 100000 in
theorem b_X2_shiftedToNearest_66 {p : Program} {l : Launch} {e : Env} {s : State} {m : MethodId} {args : Array Value} {below : List Frame} {meth : Method} {c : Code} {E : gE} {G0 : gG} {n0 : Nat} (X : g_X E G0 n0 p s m args meth c cX2_shiftedToNearest 9 RX2 "shiftedToNearest" (some .long)) {G : gG} {n : Nat} {r : Int64} {H : Heap} {locs : List Loc} (hI : g_I E (g_A G0 n0) G n s.heap H locs) {x3 : Int64} (h : f_X2_shiftedToNearest_66 x3 = r) {ls : Array Slot} (hl : lv_has ls 9 [(3, .long x3)]) : W p l e rm_X2_shiftedToNearest s m args below meth c H locs 0 0 (MQ below (g_Q E G0 n0 (some (.long r)) G n) args s rm_X2_shiftedToNearest.cells rm_X2_shiftedToNearest.slots (g_A G0 n0)) (F0 m 66 ls []) := by
  have hx := X.1
  have hb := X.2.1
  unfold f_X2_shiftedToNearest_66 at h
  refine lv_lload_n hx hb dX2_shiftedToNearest_66 rfl (lv_at hl 0 rfl) ?_
  refine lv_lconst (v := 1) hx hb dX2_shiftedToNearest_67 (by decide) ?_
  refine lv_ladd (x := x3) (y := 1) hx hb dX2_shiftedToNearest_68 ?_
  refine lv_goto (tgt := 73) hx hb dX2_shiftedToNearest_69 (by decide) ?_
  subst h
  exact g_lret X hI dX2_shiftedToNearest_73
def f_X2_shiftedToNearest_11 (x0 : Int64) (x2 : Int32) : Int64 :=
  if (1 : Int32) ≤ x2 then
    0
  else
  x0
set_option maxHeartbeats 4000000 in
set_option maxRecDepth 100000 in
theorem b_X2_shiftedToNearest_11 {p : Program} {l : Launch} {e : Env} {s : State} {m : MethodId} {args : Array Value} {below : List Frame} {meth : Method} {c : Code} {E : gE} {G0 : gG} {n0 : Nat} (X : g_X E G0 n0 p s m args meth c cX2_shiftedToNearest 9 RX2 "shiftedToNearest" (some .long)) {G : gG} {n : Nat} {r : Int64} {H : Heap} {locs : List Loc} (hI : g_I E (g_A G0 n0) G n s.heap H locs) {x0 : Int64} {x2 : Int32} (h : f_X2_shiftedToNearest_11 x0 x2 = r) {ls : Array Slot} (hl : lv_has ls 9 [(0, .long x0), (2, .int x2)]) : W p l e rm_X2_shiftedToNearest s m args below meth c H locs 0 0 (MQ below (g_Q E G0 n0 (some (.long r)) G n) args s rm_X2_shiftedToNearest.cells rm_X2_shiftedToNearest.slots (g_A G0 n0)) (F0 m 11 ls []) := by
  have hx := X.1
  have hb := X.2.1
  unfold f_X2_shiftedToNearest_11 at h
  refine lv_iload_n hx hb dX2_shiftedToNearest_11 rfl (lv_at hl 1 rfl) ?_
  refine lv_iconst (v := 1) hx hb dX2_shiftedToNearest_12 (by decide) ?_
  refine lv_icmp_ge (tgt := 20) hx hb dX2_shiftedToNearest_13 (by decide) (fun c => ?_) (fun c => ?_)
  · have h := g_t _ c h
    refine lv_lconst (v := 0) hx hb dX2_shiftedToNearest_20 (by decide) ?_
    subst h
    exact g_lret X hI dX2_shiftedToNearest_21
  · have h := g_f _ c h
    refine lv_lload_n hx hb dX2_shiftedToNearest_16 rfl (lv_at hl 0 rfl) ?_
    refine lv_goto (tgt := 21) hx hb dX2_shiftedToNearest_17 (by decide) ?_
    subst h
    exact g_lret X hI dX2_shiftedToNearest_21
def f_X2_shiftedToNearest (a0 : Int64) (a2 : Int32) : Int64 :=
  if a2 < 1 then
    f_X2_shiftedToNearest_11 a0 a2
  else
  if a2 ≤ 63 then
    gl ((g_lushr a0 a2) : Int64) fun v1 =>
    gl ((a0 &&& ((g_lshl 1 a2) - 1)) : Int64) fun v2 =>
    gl ((g_lshl 1 (a2 - 1)) : Int64) fun v3 =>
    if v3 < v2 then
      f_X2_shiftedToNearest_66 v1
    else
    if v2 = v3 then
      if (v1 &&& 1) = 1 then
        f_X2_shiftedToNearest_66 v1
      else
      v1
    else
    v1
  else
  f_X2_shiftedToNearest_11 a0 a2
theorem gm_X2_shiftedToNearest : g_M yX2_shiftedToNearest cX2_shiftedToNearest 9 (some .long) 2 := ⟨tw_2_84, tw_1_3, by decide +kernel, Or.inl (by decide +kernel)⟩
set_option maxHeartbeats 4000000 in
set_option maxRecDepth 100000 in
theorem c_X2_shiftedToNearest {l : Launch} {E : gE} {G : gG} {n : Nat} (a0 : Int64) (a2 : Int32) : g_Met l yX2_shiftedToNearest cX2_shiftedToNearest 9 (some .long) rm_X2_shiftedToNearest E G n [.long a0, .int a2] (some (.long (f_X2_shiftedToNearest a0 a2))) G n := by
  generalize h : f_X2_shiftedToNearest a0 a2 = r
  refine g_ofW gm_X2_shiftedToNearest (Nat.le_of_ble_eq_true rfl) ?_
  intro p e s m below meth c ls X hl hI
  have hx := X.1
  have hb := X.2.1
  have X : g_X E G n p s m _ meth c cX2_shiftedToNearest 9 RX2 "shiftedToNearest" (some .long) := X
  have hl : lv_has ls 9 [(0, .long a0), (2, .int a2)] := hl
  unfold f_X2_shiftedToNearest at h
  refine lv_iload_n hx hb dX2_shiftedToNearest_0 rfl (lv_at hl 1 rfl) ?_
  refine lv_iconst (v := 1) hx hb dX2_shiftedToNearest_1 (by decide) ?_
  refine lv_icmp_lt (tgt := 11) hx hb dX2_shiftedToNearest_2 (by decide) (fun c => ?_) (fun c => ?_)
  · have h := g_t _ c h
    exact b_X2_shiftedToNearest_11 X hI h (lv_sub hl [0, 1] rfl)
  · have h := g_f _ c h
    refine lv_iload_n hx hb dX2_shiftedToNearest_5 rfl (lv_at hl 1 rfl) ?_
    refine lv_bipush (v := 63) hx hb dX2_shiftedToNearest_6 (by decide) ?_
    refine lv_icmp_le (tgt := 22) hx hb dX2_shiftedToNearest_8 (by decide) (fun c => ?_) (fun c => ?_)
    · have h := g_t _ c h
      refine lv_lload_n hx hb dX2_shiftedToNearest_22 rfl (lv_at hl 0 rfl) ?_
      refine lv_iload_n hx hb dX2_shiftedToNearest_23 rfl (lv_at hl 1 rfl) ?_
      refine lv_lushr (v := (g_lushr a0 a2)) hx hb dX2_shiftedToNearest_24 rfl ?_
      obtain ⟨v1, ev1, h⟩ := gl_s h
      refine g_topl ev1 ?_
      refine lv_lstore_n (lv' := [(3, .long v1), (0, .long a0), (2, .int a2)]) hx hb dX2_shiftedToNearest_25 rfl hl (by decide) rfl (fun ls hl => ?_)
      refine lv_lload_n hx hb dX2_shiftedToNearest_26 rfl (lv_at hl 1 rfl) ?_
      refine lv_lconst (v := 1) hx hb dX2_shiftedToNearest_27 (by decide) ?_
      refine lv_iload_n hx hb dX2_shiftedToNearest_28 rfl (lv_at hl 2 rfl) ?_
      refine lv_lshl (v := (g_lshl 1 a2)) hx hb dX2_shiftedToNearest_29 rfl ?_
      refine lv_lconst (v := 1) hx hb dX2_shiftedToNearest_30 (by decide) ?_
      refine lv_lsub (x := (g_lshl 1 a2)) (y := 1) hx hb dX2_shiftedToNearest_31 ?_
      refine lv_land (x := a0) (y := ((g_lshl 1 a2) - 1)) hx hb dX2_shiftedToNearest_32 ?_
      obtain ⟨v2, ev2, h⟩ := gl_s h
      refine g_topl ev2 ?_
      refine lv_lstore (lv' := [(5, .long v2), (3, .long v1), (0, .long a0), (2, .int a2)]) hx hb dX2_shiftedToNearest_33 hl (by decide) rfl (fun ls hl => ?_)
      refine lv_lconst (v := 1) hx hb dX2_shiftedToNearest_35 (by decide) ?_
      refine lv_iload_n hx hb dX2_shiftedToNearest_36 rfl (lv_at hl 3 rfl) ?_
      refine lv_iconst (v := 1) hx hb dX2_shiftedToNearest_37 (by decide) ?_
      refine lv_isub (x := a2) (y := 1) hx hb dX2_shiftedToNearest_38 ?_
      refine lv_lshl (v := (g_lshl 1 (a2 - 1))) hx hb dX2_shiftedToNearest_39 rfl ?_
      obtain ⟨v3, ev3, h⟩ := gl_s h
      refine g_topl ev3 ?_
      refine lv_lstore (lv' := [(7, .long v3), (5, .long v2), (3, .long v1), (0, .long a0), (2, .int a2)]) hx hb dX2_shiftedToNearest_40 hl (by decide) rfl (fun ls hl => ?_)
      refine lv_lload hx hb dX2_shiftedToNearest_42 (lv_at hl 1 rfl) ?_
      refine lv_lload hx hb dX2_shiftedToNearest_44 (lv_at hl 0 rfl) ?_
      refine W.lcmp hx hb dX2_shiftedToNearest_46 ?_
      refine lv_if_gt (tgt := 66) hx hb dX2_shiftedToNearest_47 (by decide) (fun c => ?_) (fun c => ?_)
      · have h := g_t _ ((lg_cmp_gt _ _).mp c) h
        exact b_X2_shiftedToNearest_66 X hI h (lv_sub hl [2] rfl)
      · have h := g_f _ (fun q => c ((lg_cmp_gt _ _).mpr q)) h
        refine lv_lload hx hb dX2_shiftedToNearest_50 (lv_at hl 1 rfl) ?_
        refine lv_lload hx hb dX2_shiftedToNearest_52 (lv_at hl 0 rfl) ?_
        refine W.lcmp hx hb dX2_shiftedToNearest_54 ?_
        refine lv_if_ne (tgt := 72) hx hb dX2_shiftedToNearest_55 (by decide) (fun c => ?_) (fun c => ?_)
        · have h := g_f _ ((not_congr (lg_cmp_eq _ _)).mp c) h
          refine lv_lload_n hx hb dX2_shiftedToNearest_72 rfl (lv_at hl 2 rfl) ?_
          subst h
          exact g_lret X hI dX2_shiftedToNearest_73
        · have h := g_t _ ((lg_cmp_eq _ _).mp c) h
          refine lv_lload_n hx hb dX2_shiftedToNearest_58 rfl (lv_at hl 2 rfl) ?_
          refine lv_lconst (v := 1) hx hb dX2_shiftedToNearest_59 (by decide) ?_
          refine lv_land (x := v1) (y := 1) hx hb dX2_shiftedToNearest_60 ?_
          refine lv_lconst (v := 1) hx hb dX2_shiftedToNearest_61 (by decide) ?_
          refine W.lcmp hx hb dX2_shiftedToNearest_62 ?_
          refine lv_if_ne (tgt := 72) hx hb dX2_shiftedToNearest_63 (by decide) (fun c => ?_) (fun c => ?_)
          · have h := g_f _ ((not_congr (lg_cmp_eq _ _)).mp c) h
            refine lv_lload_n hx hb dX2_shiftedToNearest_72 rfl (lv_at hl 2 rfl) ?_
            subst h
            exact g_lret X hI dX2_shiftedToNearest_73
          · have h := g_t _ ((lg_cmp_eq _ _).mp c) h
            exact b_X2_shiftedToNearest_66 X hI h (lv_sub hl [2] rfl)
    · have h := g_f _ c h
      exact b_X2_shiftedToNearest_11 X hI h (lv_sub hl [0, 1] rfl)
abbrev rm_X2_sizeInBits : Room := { frames := 1, cells := 0, slots := 0, locals := 28 }
def f_X2_sizeInBits (G : gG) (th : Nat) (a1 : Int32) (a2 : Int32) : Option Int64 :=
  gl ((g_lshl (Int32.toInt64 a2) a1) : Int64) fun v1 =>
  gb (g_fI G th 1 0) fun v2 =>
  if v2 = 1 then
    gb (g_fI G th 1 3) fun v3 =>
    gl (((v3 + 62) + (a2 / 2)) : Int32) fun v4 =>
    if v4 < a2 then
      gl (((62 : Int32) - a1) : Int32) fun v5 =>
      if (1 : Int32) ≤ v4 then
        gb (g_fL G th 1 2) fun v6 =>
        some ((g_lshl (Int32.toInt64 (v4 - 1)) a1) + (f_X2_shiftedToNearest v6 v5))
      else
      gb (g_fL G th 1 2) fun v7 =>
      some (f_X2_shiftedToNearest v7 ((v5 + 1) - v4))
    else
    some v1
  else
  gb (g_fI G th 1 0) fun v8 =>
  if v8 = 0 then
    some 0
  else
  some v1
theorem gm_X2_sizeInBits : g_M yX2_sizeInBits cX2_sizeInBits 7 (some .long) 2 := ⟨tw_2_81, tw_1_3, by decide +kernel, Or.inl (by decide +kernel)⟩
set_option maxHeartbeats 4000000 in
set_option maxRecDepth 100000 in
theorem c_X2_sizeInBits {l : Launch} {E : gE} {G : gG} {n : Nat} {th : Nat} {a1 : Int32} {a2 : Int32} {r : Int64} (h : f_X2_sizeInBits G th a1 a2 = some r) : g_Met l yX2_sizeInBits cX2_sizeInBits 7 (some .long) rm_X2_sizeInBits E G n [.ref th, .int a1, .int a2] (some (.long r)) G n := by
  refine g_ofW gm_X2_sizeInBits (Nat.le_of_ble_eq_true rfl) ?_
  intro p e s m below meth c ls X hl hI
  have hx := X.1
  have hb := X.2.1
  have X : g_X E G n p s m _ meth c cX2_sizeInBits 7 RX2 "sizeInBits" (some .long) := X
  have hl : lv_has ls 7 [(0, .ref th), (1, .int a1), (2, .int a2)] := hl
  unfold f_X2_sizeInBits at h
  refine lv_iload_n hx hb dX2_sizeInBits_0 rfl (lv_at hl 2 rfl) ?_
  refine lv_i2l (v := (Int32.toInt64 a2)) hx hb dX2_sizeInBits_1 rfl ?_
  refine lv_iload_n hx hb dX2_sizeInBits_2 rfl (lv_at hl 1 rfl) ?_
  refine lv_lshl (v := (g_lshl (Int32.toInt64 a2) a1)) hx hb dX2_sizeInBits_3 rfl ?_
  obtain ⟨v1, ev1, h⟩ := gl_s h
  refine g_topl ev1 ?_
  refine lv_lstore_n (lv' := [(3, .long v1), (0, .ref th), (1, .int a1), (2, .int a2)]) hx hb dX2_sizeInBits_4 rfl hl (by decide) rfl (fun ls hl => ?_)
  refine lv_aload_n hx hb dX2_sizeInBits_5 rfl (lv_at hl 1 rfl) ?_
  obtain ⟨v2, ev2, h⟩ := gb_s h
  refine g_get X hI (g_fI_s ev2) (C := RX2) (T := TX2) (N := 4) rfl gu_X2 (by decide) tw_1_32 dX2_sizeInBits_6 ?_
  refine lv_iconst (v := 1) hx hb dX2_sizeInBits_9 (by decide) ?_
  refine lv_icmp_eq (tgt := 26) hx hb dX2_sizeInBits_10 (by decide) (fun c => ?_) (fun c => ?_)
  · have h := g_t _ c h
    refine lv_aload_n hx hb dX2_sizeInBits_26 rfl (lv_at hl 1 rfl) ?_
    obtain ⟨v3, ev3, h⟩ := gb_s h
    refine g_get X hI (g_fI_s ev3) (C := RX2) (T := TX2) (N := 4) rfl gu_X2 (by decide) tw_1_37 dX2_sizeInBits_27 ?_
    refine lv_bipush (v := 62) hx hb dX2_sizeInBits_30 (by decide) ?_
    refine lv_iadd (x := v3) (y := 62) hx hb dX2_sizeInBits_32 ?_
    refine lv_iload_n hx hb dX2_sizeInBits_33 rfl (lv_at hl 3 rfl) ?_
    refine lv_iconst (v := 2) hx hb dX2_sizeInBits_34 (by decide) ?_
    refine lv_idiv hx hb dX2_sizeInBits_35 (by decide) ?_
    refine lv_iadd (x := (v3 + 62)) (y := (a2 / 2)) hx hb dX2_sizeInBits_36 ?_
    obtain ⟨v4, ev4, h⟩ := gl_s h
    refine g_topi ev4 ?_
    refine lv_istore (lv' := [(5, .int v4), (3, .long v1), (0, .ref th), (1, .int a1), (2, .int a2)]) hx hb dX2_sizeInBits_37 hl (by decide) rfl (fun ls hl => ?_)
    refine lv_iload hx hb dX2_sizeInBits_39 (lv_at hl 0 rfl) ?_
    refine lv_iload_n hx hb dX2_sizeInBits_41 rfl (lv_at hl 4 rfl) ?_
    refine lv_icmp_lt (tgt := 47) hx hb dX2_sizeInBits_42 (by decide) (fun c => ?_) (fun c => ?_)
    · have h := g_t _ c h
      refine lv_bipush (v := 62) hx hb dX2_sizeInBits_47 (by decide) ?_
      refine lv_iload_n hx hb dX2_sizeInBits_49 rfl (lv_at hl 3 rfl) ?_
      refine lv_isub (x := 62) (y := a1) hx hb dX2_sizeInBits_50 ?_
      obtain ⟨v5, ev5, h⟩ := gl_s h
      refine g_topi ev5 ?_
      refine lv_istore (lv' := [(6, .int v5), (5, .int v4), (3, .long v1), (0, .ref th), (1, .int a1), (2, .int a2)]) hx hb dX2_sizeInBits_51 hl (by decide) rfl (fun ls hl => ?_)
      refine lv_iload hx hb dX2_sizeInBits_53 (lv_at hl 1 rfl) ?_
      refine lv_iconst (v := 1) hx hb dX2_sizeInBits_55 (by decide) ?_
      refine lv_icmp_ge (tgt := 74) hx hb dX2_sizeInBits_56 (by decide) (fun c => ?_) (fun c => ?_)
      · have h := g_t _ c h
        refine lv_iload hx hb dX2_sizeInBits_74 (lv_at hl 1 rfl) ?_
        refine lv_iconst (v := 1) hx hb dX2_sizeInBits_76 (by decide) ?_
        refine lv_isub (x := v4) (y := 1) hx hb dX2_sizeInBits_77 ?_
        refine lv_i2l (v := (Int32.toInt64 (v4 - 1))) hx hb dX2_sizeInBits_78 rfl ?_
        refine lv_iload_n hx hb dX2_sizeInBits_79 rfl (lv_at hl 4 rfl) ?_
        refine lv_lshl (v := (g_lshl (Int32.toInt64 (v4 - 1)) a1)) hx hb dX2_sizeInBits_80 rfl ?_
        refine lv_aload_n hx hb dX2_sizeInBits_81 rfl (lv_at hl 3 rfl) ?_
        obtain ⟨v6, ev6, h⟩ := gb_s h
        refine g_get X hI (g_fL_s ev6) (C := RX2) (T := TX2) (N := 4) rfl gu_X2 (by decide) tw_1_36 dX2_sizeInBits_82 ?_
        refine lv_iload hx hb dX2_sizeInBits_85 (lv_at hl 0 rfl) ?_
        refine g_callS X hI (av := [.long v6, .int v5]) (c_X2_shiftedToNearest v6 v5) gm_X2_shiftedToNearest tw_2_82 tw_2_83 ⟨by decide, by decide⟩ hl.1 (rest := [.long (g_lshl (Int32.toInt64 (v4 - 1)) a1)]) rfl (Nat.le_of_ble_eq_true rfl) dX2_sizeInBits_87 ⟨by decide, by decide⟩ (st1 := [.long (f_X2_shiftedToNearest v6 v5), .long (g_lshl (Int32.toInt64 (v4 - 1)) a1)]) rfl (cells' := 0) (slots' := 0) rfl rfl (fun H locs hI => ?_)
        refine lv_ladd (x := (g_lshl (Int32.toInt64 (v4 - 1)) a1)) (y := (f_X2_shiftedToNearest v6 v5)) hx hb dX2_sizeInBits_90 ?_
        have h := Option.some.inj h
        subst h
        exact g_lret X hI dX2_sizeInBits_91
      · have h := g_f _ c h
        refine lv_aload_n hx hb dX2_sizeInBits_59 rfl (lv_at hl 3 rfl) ?_
        obtain ⟨v7, ev7, h⟩ := gb_s h
        refine g_get X hI (g_fL_s ev7) (C := RX2) (T := TX2) (N := 4) rfl gu_X2 (by decide) tw_1_36 dX2_sizeInBits_60 ?_
        refine lv_iload hx hb dX2_sizeInBits_63 (lv_at hl 0 rfl) ?_
        refine lv_iconst (v := 1) hx hb dX2_sizeInBits_65 (by decide) ?_
        refine lv_iadd (x := v5) (y := 1) hx hb dX2_sizeInBits_66 ?_
        refine lv_iload hx hb dX2_sizeInBits_67 (lv_at hl 1 rfl) ?_
        refine lv_isub (x := (v5 + 1)) (y := v4) hx hb dX2_sizeInBits_69 ?_
        refine g_callS X hI (av := [.long v7, .int ((v5 + 1) - v4)]) (c_X2_shiftedToNearest v7 ((v5 + 1) - v4)) gm_X2_shiftedToNearest tw_2_82 tw_2_83 ⟨by decide, by decide⟩ hl.1 (rest := []) rfl (Nat.le_of_ble_eq_true rfl) dX2_sizeInBits_70 ⟨by decide, by decide⟩ (st1 := [.long (f_X2_shiftedToNearest v7 ((v5 + 1) - v4))]) rfl (cells' := 0) (slots' := 0) rfl rfl (fun H locs hI => ?_)
        have h := Option.some.inj h
        subst h
        exact g_lret X hI dX2_sizeInBits_73
    · have h := g_f _ c h
      refine lv_lload_n hx hb dX2_sizeInBits_45 rfl (lv_at hl 1 rfl) ?_
      have h := Option.some.inj h
      subst h
      exact g_lret X hI dX2_sizeInBits_46
  · have h := g_f _ c h
    refine lv_aload_n hx hb dX2_sizeInBits_13 rfl (lv_at hl 1 rfl) ?_
    obtain ⟨v8, ev8, h⟩ := gb_s h
    refine g_get X hI (g_fI_s ev8) (C := RX2) (T := TX2) (N := 4) rfl gu_X2 (by decide) tw_1_32 dX2_sizeInBits_14 ?_
    refine lv_if_ne (tgt := 24) hx hb dX2_sizeInBits_17 (by decide) (fun c => ?_) (fun c => ?_)
    · have h := g_f _ c h
      refine lv_lload_n hx hb dX2_sizeInBits_24 rfl (lv_at hl 0 rfl) ?_
      have h := Option.some.inj h
      subst h
      exact g_lret X hI dX2_sizeInBits_25
    · have h := g_t _ c h
      refine lv_lconst (v := 0) hx hb dX2_sizeInBits_20 (by decide) ?_
      refine lv_goto (tgt := 25) hx hb dX2_sizeInBits_21 (by decide) ?_
      have h := Option.some.inj h
      subst h
      exact g_lret X hI dX2_sizeInBits_25
abbrev rm_X2_toValue : Room := { frames := 2, cells := 0, slots := 0, locals := 54 }
def f_X2_toValue_49 (G : gG) (x0 : Nat) (x2 : Int32) (s0 : Int64) : Option Int64 :=
  gb (g_fI G x0 1 1) fun v1 =>
  if v1 = 0 then
    some s0
  else
  if x2 = 0 then
    some (s0 ||| (-9223372036854775808))
  else
  some (s0 ||| (-2147483648))
set_option maxHeartbeats 4000000 in
set_option maxRecDepth 100000 in
theorem b_X2_toValue_49 {p : Program} {l : Launch} {e : Env} {s : State} {m : MethodId} {args : Array Value} {below : List Frame} {meth : Method} {c : Code} {E : gE} {G0 : gG} {n0 : Nat} (X : g_X E G0 n0 p s m args meth c cX2_toValue 5 RX2 "toValue" (some .long)) {G : gG} {n : Nat} {r : Int64} {H : Heap} {locs : List Loc} (hI : g_I E (g_A G0 n0) G n s.heap H locs) {x0 : Nat} {x2 : Int32} {s0 : Int64} (h : f_X2_toValue_49 G x0 x2 s0 = some r) {ls : Array Slot} (hl : lv_has ls 5 [(0, .ref x0), (2, .int x2)]) : W p l e rm_X2_toValue s m args below meth c H locs 0 0 (MQ below (g_Q E G0 n0 (some (.long r)) G n) args s rm_X2_toValue.cells rm_X2_toValue.slots (g_A G0 n0)) (F0 m 49 ls [.long s0]) := by
  have hx := X.1
  have hb := X.2.1
  unfold f_X2_toValue_49 at h
  refine lv_lstore_n (lv' := [(3, .long s0), (0, .ref x0), (2, .int x2)]) hx hb dX2_toValue_49 rfl hl (by decide) rfl (fun ls hl => ?_)
  refine lv_aload_n hx hb dX2_toValue_50 rfl (lv_at hl 1 rfl) ?_
  obtain ⟨v1, ev1, h⟩ := gb_s h
  refine g_get X hI (g_fI_s ev1) (C := RX2) (T := TX2) (N := 4) rfl gu_X2 (by decide) tw_1_34 dX2_toValue_51 ?_
  refine lv_if_ne (tgt := 59) hx hb dX2_toValue_54 (by decide) (fun c => ?_) (fun c => ?_)
  · have h := g_f _ c h
    refine lv_lload_n hx hb dX2_toValue_59 rfl (lv_at hl 0 rfl) ?_
    refine lv_iload_n hx hb dX2_toValue_60 rfl (lv_at hl 2 rfl) ?_
    refine lv_if_eq (tgt := 70) hx hb dX2_toValue_61 (by decide) (fun c => ?_) (fun c => ?_)
    · have h := g_t _ c h
      refine lv_ldc2 (v := (-9223372036854775808)) hx hb X.2.2.2.1 (X.2.2.2.2.1 _ tw_2_66) dX2_toValue_70 ?_
      refine lv_lor (x := s0) (y := (-9223372036854775808)) hx hb dX2_toValue_73 ?_
      have h := Option.some.inj h
      subst h
      exact g_lret X hI dX2_toValue_74
    · have h := g_f _ c h
      refine lv_ldc2 (v := (-2147483648)) hx hb X.2.2.2.1 (X.2.2.2.2.1 _ tw_2_85) dX2_toValue_64 ?_
      refine lv_goto (tgt := 73) hx hb dX2_toValue_67 (by decide) ?_
      refine lv_lor (x := s0) (y := (-2147483648)) hx hb dX2_toValue_73 ?_
      have h := Option.some.inj h
      subst h
      exact g_lret X hI dX2_toValue_74
  · have h := g_t _ c h
    refine lv_lload_n hx hb dX2_toValue_57 rfl (lv_at hl 0 rfl) ?_
    have h := Option.some.inj h
    subst h
    exact g_lret X hI dX2_toValue_58
def f_X2_toValue_23 (G : gG) (x0 : Nat) (s0 : Int32) : Option Int64 :=
  if s0 = 0 then
    gck (g_isO G x0 1) <|
    gb (f_X2_sizeInBits G x0 (52 : Int32) (2047 : Int32)) fun r1 =>
    f_X2_toValue_49 G x0 s0 r1
  else
  gck (g_isO G x0 1) <|
  gb (f_X2_sizeInBits G x0 (23 : Int32) (255 : Int32)) fun r2 =>
  f_X2_toValue_49 G x0 s0 r2
set_option maxHeartbeats 4000000 in
set_option maxRecDepth 100000 in
theorem b_X2_toValue_23 {p : Program} {l : Launch} {e : Env} {s : State} {m : MethodId} {args : Array Value} {below : List Frame} {meth : Method} {c : Code} {E : gE} {G0 : gG} {n0 : Nat} (X : g_X E G0 n0 p s m args meth c cX2_toValue 5 RX2 "toValue" (some .long)) {G : gG} {n : Nat} {r : Int64} {H : Heap} {locs : List Loc} (hI : g_I E (g_A G0 n0) G n s.heap H locs) {x0 : Nat} {s0 : Int32} (h : f_X2_toValue_23 G x0 s0 = some r) {ls : Array Slot} (hl : lv_has ls 5 [(0, .ref x0)]) : W p l e rm_X2_toValue s m args below meth c H locs 0 0 (MQ below (g_Q E G0 n0 (some (.long r)) G n) args s rm_X2_toValue.cells rm_X2_toValue.slots (g_A G0 n0)) (F0 m 23 ls [.int s0]) := by
  have hx := X.1
  have hb := X.2.1
  unfold f_X2_toValue_23 at h
  refine lv_istore_n (lv' := [(2, .int s0), (0, .ref x0)]) hx hb dX2_toValue_23 rfl hl (by decide) rfl (fun ls hl => ?_)
  refine lv_iload_n hx hb dX2_toValue_24 rfl (lv_at hl 0 rfl) ?_
  refine lv_if_eq (tgt := 40) hx hb dX2_toValue_25 (by decide) (fun c => ?_) (fun c => ?_)
  · have h := g_t _ c h
    refine lv_aload_n hx hb dX2_toValue_40 rfl (lv_at hl 1 rfl) ?_
    refine lv_bipush (v := 52) hx hb dX2_toValue_41 (by decide) ?_
    refine lv_sipush (v := 2047) hx hb dX2_toValue_43 (by decide) ?_
    obtain ⟨cO, h⟩ := gck_s h
    obtain ⟨r1, er1, h⟩ := gb_s h
    refine g_callV X hI (q := (RX2, TX2, 4)) (b := x0) (av := [.int 52, .int 2047]) cO rfl (c_X2_sizeInBits er1) gm_X2_sizeInBits tw_2_78 tw_2_80 tw_p_10 ⟨by decide, by decide⟩ hl.1 (rest := []) rfl (Nat.le_of_ble_eq_true rfl) dX2_toValue_46 ⟨by decide, by decide⟩ (st1 := [.long r1]) rfl (cells' := 0) (slots' := 0) rfl rfl (fun H locs hI => ?_)
    exact b_X2_toValue_49 X hI h (lv_sub hl [1, 0] rfl)
  · have h := g_f _ c h
    refine lv_aload_n hx hb dX2_toValue_28 rfl (lv_at hl 1 rfl) ?_
    refine lv_bipush (v := 23) hx hb dX2_toValue_29 (by decide) ?_
    refine lv_sipush (v := 255) hx hb dX2_toValue_31 (by decide) ?_
    obtain ⟨cO, h⟩ := gck_s h
    obtain ⟨r2, er2, h⟩ := gb_s h
    refine g_callV X hI (q := (RX2, TX2, 4)) (b := x0) (av := [.int 23, .int 255]) cO rfl (c_X2_sizeInBits er2) gm_X2_sizeInBits tw_2_78 tw_2_80 tw_p_10 ⟨by decide, by decide⟩ hl.1 (rest := []) rfl (Nat.le_of_ble_eq_true rfl) dX2_toValue_34 ⟨by decide, by decide⟩ (st1 := [.long r2]) rfl (cells' := 0) (slots' := 0) rfl rfl (fun H locs hI => ?_)
    refine lv_goto (tgt := 49) hx hb dX2_toValue_37 (by decide) ?_
    exact b_X2_toValue_49 X hI h (lv_sub hl [1, 0] rfl)
def f_X2_toValue (G : gG) (th : Nat) (a1 : Int32) : Option Int64 :=
  gb (g_fI G th 1 0) fun v1 =>
  if v1 = 3 then
    some (f_X1_noNumber a1)
  else
  if a1 = 4 then
    f_X2_toValue_23 G th 1
  else
  f_X2_toValue_23 G th 0
theorem gm_X2_toValue : g_M yX2_toValue cX2_toValue 5 (some .long) 1 := ⟨tw_2_74, tw_1_3, by decide +kernel, Or.inl (by decide +kernel)⟩
set_option maxHeartbeats 4000000 in
set_option maxRecDepth 100000 in
theorem c_X2_toValue {l : Launch} {E : gE} {G : gG} {n : Nat} {th : Nat} {a1 : Int32} {r : Int64} (h : f_X2_toValue G th a1 = some r) : g_Met l yX2_toValue cX2_toValue 5 (some .long) rm_X2_toValue E G n [.ref th, .int a1] (some (.long r)) G n := by
  refine g_ofW gm_X2_toValue (Nat.le_of_ble_eq_true rfl) ?_
  intro p e s m below meth c ls X hl hI
  have hx := X.1
  have hb := X.2.1
  have X : g_X E G n p s m _ meth c cX2_toValue 5 RX2 "toValue" (some .long) := X
  have hl : lv_has ls 5 [(0, .ref th), (1, .int a1)] := hl
  unfold f_X2_toValue at h
  refine lv_aload_n hx hb dX2_toValue_0 rfl (lv_at hl 0 rfl) ?_
  obtain ⟨v1, ev1, h⟩ := gb_s h
  refine g_get X hI (g_fI_s ev1) (C := RX2) (T := TX2) (N := 4) rfl gu_X2 (by decide) tw_1_32 dX2_toValue_1 ?_
  refine lv_iconst (v := 3) hx hb dX2_toValue_4 (by decide) ?_
  refine lv_icmp_ne (tgt := 13) hx hb dX2_toValue_5 (by decide) (fun c => ?_) (fun c => ?_)
  · have h := g_f _ c h
    refine lv_iload_n hx hb dX2_toValue_13 rfl (lv_at hl 1 rfl) ?_
    refine lv_iconst (v := 4) hx hb dX2_toValue_14 (by decide) ?_
    refine lv_icmp_ne (tgt := 22) hx hb dX2_toValue_15 (by decide) (fun c => ?_) (fun c => ?_)
    · have h := g_f _ c h
      refine lv_iconst (v := 0) hx hb dX2_toValue_22 (by decide) ?_
      exact b_X2_toValue_23 X hI h (lv_sub hl [0] rfl)
    · have h := g_t _ c h
      refine lv_iconst (v := 1) hx hb dX2_toValue_18 (by decide) ?_
      refine lv_goto (tgt := 23) hx hb dX2_toValue_19 (by decide) ?_
      exact b_X2_toValue_23 X hI h (lv_sub hl [0] rfl)
  · have h := g_t _ c h
    refine lv_iload_n hx hb dX2_toValue_8 rfl (lv_at hl 1 rfl) ?_
    refine g_callS X hI (av := [.int a1]) (c_X1_noNumber a1) gm_X1_noNumber tw_2_75 tw_2_76 ⟨by decide, by decide⟩ hl.1 (rest := []) rfl (Nat.le_of_ble_eq_true rfl) dX2_toValue_9 ⟨by decide, by decide⟩ (st1 := [.long (f_X1_noNumber a1)]) rfl (cells' := 0) (slots' := 0) rfl rfl (fun H locs hI => ?_)
    have h := Option.some.inj h
    subst h
    exact g_lret X hI dX2_toValue_12
abbrev rm_X2_toLong : Room := { frames := 0, cells := 0, slots := 0, locals := 0 }
def f_X2_toLong_72 (G : gG) (x0 : Nat) (s0 : Int64) : Option Int64 :=
  gb (g_fI G x0 1 1) fun v1 =>
  if v1 = 0 then
    some s0
  else
  some (-s0)
set_option maxHeartbeats 4000000 in
set_option maxRecDepth 100000 in
theorem b_X2_toLong_72 {p : Program} {l : Launch} {e : Env} {s : State} {m : MethodId} {args : Array Value} {below : List Frame} {meth : Method} {c : Code} {E : gE} {G0 : gG} {n0 : Nat} (X : g_X E G0 n0 p s m args meth c cX2_toLong 3 RX2 "toLong" (some .long)) {G : gG} {n : Nat} {r : Int64} {H : Heap} {locs : List Loc} (hI : g_I E (g_A G0 n0) G n s.heap H locs) {x0 : Nat} {s0 : Int64} (h : f_X2_toLong_72 G x0 s0 = some r) {ls : Array Slot} (hl : lv_has ls 3 [(0, .ref x0)]) : W p l e rm_X2_toLong s m args below meth c H locs 0 0 (MQ below (g_Q E G0 n0 (some (.long r)) G n) args s rm_X2_toLong.cells rm_X2_toLong.slots (g_A G0 n0)) (F0 m 72 ls [.long s0]) := by
  have hx := X.1
  have hb := X.2.1
  unfold f_X2_toLong_72 at h
  refine lv_lstore_n (lv' := [(1, .long s0), (0, .ref x0)]) hx hb dX2_toLong_72 rfl hl (by decide) rfl (fun ls hl => ?_)
  refine lv_aload_n hx hb dX2_toLong_73 rfl (lv_at hl 1 rfl) ?_
  obtain ⟨v1, ev1, h⟩ := gb_s h
  refine g_get X hI (g_fI_s ev1) (C := RX2) (T := TX2) (N := 4) rfl gu_X2 (by decide) tw_1_34 dX2_toLong_74 ?_
  refine lv_if_eq (tgt := 85) hx hb dX2_toLong_77 (by decide) (fun c => ?_) (fun c => ?_)
  · have h := g_t _ c h
    refine lv_lload_n hx hb dX2_toLong_85 rfl (lv_at hl 0 rfl) ?_
    have h := Option.some.inj h
    subst h
    exact g_lret X hI dX2_toLong_86
  · have h := g_f _ c h
    refine lv_lload_n hx hb dX2_toLong_80 rfl (lv_at hl 0 rfl) ?_
    refine lv_lneg hx hb dX2_toLong_81 ?_
    refine lv_goto (tgt := 86) hx hb dX2_toLong_82 (by decide) ?_
    have h := Option.some.inj h
    subst h
    exact g_lret X hI dX2_toLong_86
def f_X2_toLong_32 (G : gG) (x0 : Nat) : Option Int64 :=
  gb (g_fI G x0 1 1) fun v1 =>
  if v1 = 0 then
    some 9223372036854775807
  else
  some (-9223372036854775808)
set_option maxHeartbeats 4000000 in
set_option maxRecDepth 100000 in
theorem b_X2_toLong_32 {p : Program} {l : Launch} {e : Env} {s : State} {m : MethodId} {args : Array Value} {below : List Frame} {meth : Method} {c : Code} {E : gE} {G0 : gG} {n0 : Nat} (X : g_X E G0 n0 p s m args meth c cX2_toLong 3 RX2 "toLong" (some .long)) {G : gG} {n : Nat} {r : Int64} {H : Heap} {locs : List Loc} (hI : g_I E (g_A G0 n0) G n s.heap H locs) {x0 : Nat} (h : f_X2_toLong_32 G x0 = some r) {ls : Array Slot} (hl : lv_has ls 3 [(0, .ref x0)]) : W p l e rm_X2_toLong s m args below meth c H locs 0 0 (MQ below (g_Q E G0 n0 (some (.long r)) G n) args s rm_X2_toLong.cells rm_X2_toLong.slots (g_A G0 n0)) (F0 m 32 ls []) := by
  have hx := X.1
  have hb := X.2.1
  unfold f_X2_toLong_32 at h
  refine lv_aload_n hx hb dX2_toLong_32 rfl (lv_at hl 0 rfl) ?_
  obtain ⟨v1, ev1, h⟩ := gb_s h
  refine g_get X hI (g_fI_s ev1) (C := RX2) (T := TX2) (N := 4) rfl gu_X2 (by decide) tw_1_34 dX2_toLong_33 ?_
  refine lv_if_eq (tgt := 45) hx hb dX2_toLong_36 (by decide) (fun c => ?_) (fun c => ?_)
  · have h := g_t _ c h
    refine lv_ldc2 (v := 9223372036854775807) hx hb X.2.2.2.1 (X.2.2.2.2.1 _ tw_2_93) dX2_toLong_45 ?_
    have h := Option.some.inj h
    subst h
    exact g_lret X hI dX2_toLong_48
  · have h := g_f _ c h
    refine lv_ldc2 (v := (-9223372036854775808)) hx hb X.2.2.2.1 (X.2.2.2.2.1 _ tw_2_66) dX2_toLong_39 ?_
    refine lv_goto (tgt := 48) hx hb dX2_toLong_42 (by decide) ?_
    have h := Option.some.inj h
    subst h
    exact g_lret X hI dX2_toLong_48
def f_X2_toLong (G : gG) (th : Nat) : Option Int64 :=
  gb (g_fI G th 1 0) fun v1 =>
  if v1 = 0 then
    some 0
  else
  gb (g_fI G th 1 0) fun v2 =>
  if v2 = 3 then
    some 0
  else
  gb (g_fI G th 1 0) fun v3 =>
  if v3 = 2 then
    f_X2_toLong_32 G th
  else
  gb (g_fI G th 1 3) fun v4 =>
  if v4 ≤ 0 then
    gb (g_fI G th 1 3) fun v5 =>
    if (-62 : Int32) ≤ v5 then
      gb (g_fL G th 1 2) fun v6 =>
      gb (g_fI G th 1 3) fun v7 =>
      f_X2_toLong_72 G th (g_lushr v6 (-v7))
    else
    f_X2_toLong_72 G th 0
  else
  f_X2_toLong_32 G th
theorem gm_X2_toLong : g_M yX2_toLong cX2_toLong 3 (some .long) 0 := ⟨tw_2_92, tw_1_3, by decide +kernel, Or.inl (by decide +kernel)⟩
set_option maxHeartbeats 4000000 in
set_option maxRecDepth 100000 in
theorem c_X2_toLong {l : Launch} {E : gE} {G : gG} {n : Nat} {th : Nat} {r : Int64} (h : f_X2_toLong G th = some r) : g_Met l yX2_toLong cX2_toLong 3 (some .long) rm_X2_toLong E G n [.ref th] (some (.long r)) G n := by
  refine g_ofW gm_X2_toLong (Nat.le_of_ble_eq_true rfl) ?_
  intro p e s m below meth c ls X hl hI
  have hx := X.1
  have hb := X.2.1
  have X : g_X E G n p s m _ meth c cX2_toLong 3 RX2 "toLong" (some .long) := X
  have hl : lv_has ls 3 [(0, .ref th)] := hl
  unfold f_X2_toLong at h
  refine lv_aload_n hx hb dX2_toLong_0 rfl (lv_at hl 0 rfl) ?_
  obtain ⟨v1, ev1, h⟩ := gb_s h
  refine g_get X hI (g_fI_s ev1) (C := RX2) (T := TX2) (N := 4) rfl gu_X2 (by decide) tw_1_32 dX2_toLong_1 ?_
  refine lv_if_eq (tgt := 15) hx hb dX2_toLong_4 (by decide) (fun c => ?_) (fun c => ?_)
  · have h := g_t _ c h
    refine lv_lconst (v := 0) hx hb dX2_toLong_15 (by decide) ?_
    have h := Option.some.inj h
    subst h
    exact g_lret X hI dX2_toLong_16
  · have h := g_f _ c h
    refine lv_aload_n hx hb dX2_toLong_7 rfl (lv_at hl 0 rfl) ?_
    obtain ⟨v2, ev2, h⟩ := gb_s h
    refine g_get X hI (g_fI_s ev2) (C := RX2) (T := TX2) (N := 4) rfl gu_X2 (by decide) tw_1_32 dX2_toLong_8 ?_
    refine lv_iconst (v := 3) hx hb dX2_toLong_11 (by decide) ?_
    refine lv_icmp_ne (tgt := 17) hx hb dX2_toLong_12 (by decide) (fun c => ?_) (fun c => ?_)
    · have h := g_f _ c h
      refine lv_aload_n hx hb dX2_toLong_17 rfl (lv_at hl 0 rfl) ?_
      obtain ⟨v3, ev3, h⟩ := gb_s h
      refine g_get X hI (g_fI_s ev3) (C := RX2) (T := TX2) (N := 4) rfl gu_X2 (by decide) tw_1_32 dX2_toLong_18 ?_
      refine lv_iconst (v := 2) hx hb dX2_toLong_21 (by decide) ?_
      refine lv_icmp_eq (tgt := 32) hx hb dX2_toLong_22 (by decide) (fun c => ?_) (fun c => ?_)
      · have h := g_t _ c h
        exact b_X2_toLong_32 X hI h (lv_sub hl [0] rfl)
      · have h := g_f _ c h
        refine lv_aload_n hx hb dX2_toLong_25 rfl (lv_at hl 0 rfl) ?_
        obtain ⟨v4, ev4, h⟩ := gb_s h
        refine g_get X hI (g_fI_s ev4) (C := RX2) (T := TX2) (N := 4) rfl gu_X2 (by decide) tw_1_37 dX2_toLong_26 ?_
        refine lv_if_le (tgt := 49) hx hb dX2_toLong_29 (by decide) (fun c => ?_) (fun c => ?_)
        · have h := g_t _ c h
          refine lv_aload_n hx hb dX2_toLong_49 rfl (lv_at hl 0 rfl) ?_
          obtain ⟨v5, ev5, h⟩ := gb_s h
          refine g_get X hI (g_fI_s ev5) (C := RX2) (T := TX2) (N := 4) rfl gu_X2 (by decide) tw_1_37 dX2_toLong_50 ?_
          refine lv_bipush (v := (-62)) hx hb dX2_toLong_53 (by decide) ?_
          refine lv_icmp_ge (tgt := 62) hx hb dX2_toLong_55 (by decide) (fun c => ?_) (fun c => ?_)
          · have h := g_t _ c h
            refine lv_aload_n hx hb dX2_toLong_62 rfl (lv_at hl 0 rfl) ?_
            obtain ⟨v6, ev6, h⟩ := gb_s h
            refine g_get X hI (g_fL_s ev6) (C := RX2) (T := TX2) (N := 4) rfl gu_X2 (by decide) tw_1_36 dX2_toLong_63 ?_
            refine lv_aload_n hx hb dX2_toLong_66 rfl (lv_at hl 0 rfl) ?_
            obtain ⟨v7, ev7, h⟩ := gb_s h
            refine g_get X hI (g_fI_s ev7) (C := RX2) (T := TX2) (N := 4) rfl gu_X2 (by decide) tw_1_37 dX2_toLong_67 ?_
            refine lv_ineg hx hb dX2_toLong_70 ?_
            refine lv_lushr (v := (g_lushr v6 (-v7))) hx hb dX2_toLong_71 rfl ?_
            exact b_X2_toLong_72 X hI h (lv_sub hl [0] rfl)
          · have h := g_f _ c h
            refine lv_lconst (v := 0) hx hb dX2_toLong_58 (by decide) ?_
            refine lv_goto (tgt := 72) hx hb dX2_toLong_59 (by decide) ?_
            exact b_X2_toLong_72 X hI h (lv_sub hl [0] rfl)
        · have h := g_f _ c h
          exact b_X2_toLong_32 X hI h (lv_sub hl [0] rfl)
    · have h := g_t _ c h
      refine lv_lconst (v := 0) hx hb dX2_toLong_15 (by decide) ?_
      have h := Option.some.inj h
      subst h
      exact g_lret X hI dX2_toLong_16
abbrev rm_X2_setAs : Room := { frames := 0, cells := 0, slots := 0, locals := 0 }
def f_X2_setAs (G : gG) (th : Nat) (a1 : Nat) : Option gG :=
  gb (g_fI G a1 1 0) fun v1 =>
  gb (g_sI G th 1 0 v1) fun G2 =>
  gb (g_fI G2 a1 1 1) fun v3 =>
  gb (g_sZ G2 th 1 1 v3) fun G4 =>
  gb (g_fL G4 a1 1 2) fun v5 =>
  gb (g_sL G4 th 1 2 v5) fun G6 =>
  gb (g_fI G6 a1 1 3) fun v7 =>
  gb (g_sI G6 th 1 3 v7) fun G8 =>
  some G8
theorem gm_X2_setAs : g_M yX2_setAs cX2_setAs 2 none 1 := ⟨tw_2_144, tw_1_3, by decide +kernel, Or.inl (by decide +kernel)⟩
set_option maxHeartbeats 4000000 in
set_option maxRecDepth 100000 in
theorem c_X2_setAs {l : Launch} {E : gE} {G : gG} {n : Nat} {th : Nat} {a1 : Nat} {Gr : gG} (h : f_X2_setAs G th a1 = some Gr) : g_Met l yX2_setAs cX2_setAs 2 none rm_X2_setAs E G n [.ref th, .ref a1] none Gr n := by
  refine g_ofW gm_X2_setAs (Nat.le_of_ble_eq_true rfl) ?_
  intro p e s m below meth c ls X hl hI
  have hx := X.1
  have hb := X.2.1
  have X : g_X E G n p s m _ meth c cX2_setAs 2 RX2 "setAs" none := X
  have hl : lv_has ls 2 [(0, .ref th), (1, .ref a1)] := hl
  unfold f_X2_setAs at h
  refine lv_aload_n hx hb dX2_setAs_0 rfl (lv_at hl 0 rfl) ?_
  refine lv_aload_n hx hb dX2_setAs_1 rfl (lv_at hl 1 rfl) ?_
  obtain ⟨v1, ev1, h⟩ := gb_s h
  refine g_get X hI (g_fI_s ev1) (C := RX2) (T := TX2) (N := 4) rfl gu_X2 (by decide) tw_1_32 dX2_setAs_2 ?_
  obtain ⟨G2, eG2, h⟩ := gb_s h
  refine g_put X hI (k := 0) (v := .int v1) (G' := G2) eG2 (C := RX2) (T := TX2) (N := 4) rfl gu_X2 tyX2 tyX2_ok nmX2 (by decide) tw_1_32 rfl rfl rfl dX2_setAs_5 (fun H locs hI => ?_)
  refine lv_aload_n hx hb dX2_setAs_8 rfl (lv_at hl 0 rfl) ?_
  refine lv_aload_n hx hb dX2_setAs_9 rfl (lv_at hl 1 rfl) ?_
  obtain ⟨v3, ev3, h⟩ := gb_s h
  refine g_get X hI (g_fI_s ev3) (C := RX2) (T := TX2) (N := 4) rfl gu_X2 (by decide) tw_1_34 dX2_setAs_10 ?_
  obtain ⟨G4, eG4, h⟩ := gb_s h
  obtain ⟨cz, eG4⟩ := g_sZ_s eG4
  refine g_put X hI (k := 1) (v := .int v3) (G' := G4) eG4 (C := RX2) (T := TX2) (N := 4) rfl gu_X2 tyX2 tyX2_ok nmX2 (by decide) tw_1_34 rfl (g_nz cz) (g_fz cz) dX2_setAs_13 (fun H locs hI => ?_)
  refine lv_aload_n hx hb dX2_setAs_16 rfl (lv_at hl 0 rfl) ?_
  refine lv_aload_n hx hb dX2_setAs_17 rfl (lv_at hl 1 rfl) ?_
  obtain ⟨v5, ev5, h⟩ := gb_s h
  refine g_get X hI (g_fL_s ev5) (C := RX2) (T := TX2) (N := 4) rfl gu_X2 (by decide) tw_1_36 dX2_setAs_18 ?_
  obtain ⟨G6, eG6, h⟩ := gb_s h
  refine g_put X hI (k := 2) (v := .long v5) (G' := G6) eG6 (C := RX2) (T := TX2) (N := 4) rfl gu_X2 tyX2 tyX2_ok nmX2 (by decide) tw_1_36 rfl rfl rfl dX2_setAs_21 (fun H locs hI => ?_)
  refine lv_aload_n hx hb dX2_setAs_24 rfl (lv_at hl 0 rfl) ?_
  refine lv_aload_n hx hb dX2_setAs_25 rfl (lv_at hl 1 rfl) ?_
  obtain ⟨v7, ev7, h⟩ := gb_s h
  refine g_get X hI (g_fI_s ev7) (C := RX2) (T := TX2) (N := 4) rfl gu_X2 (by decide) tw_1_37 dX2_setAs_26 ?_
  obtain ⟨G8, eG8, h⟩ := gb_s h
  refine g_put X hI (k := 3) (v := .int v7) (G' := G8) eG8 (C := RX2) (T := TX2) (N := 4) rfl gu_X2 tyX2 tyX2_ok nmX2 (by decide) tw_1_37 rfl rfl rfl dX2_setAs_29 (fun H locs hI => ?_)
  have h := Option.some.inj h
  subst h
  exact g_vret X hI dX2_setAs_32
abbrev rm_X2_shiftedWithTrace : Room := { frames := 0, cells := 0, slots := 0, locals := 0 }
def f_X2_shiftedWithTrace_11 (x0 : Int64) (x2 : Int32) : Int64 :=
  if (1 : Int32) ≤ x2 then
    1
  else
  x0
set_option maxHeartbeats 4000000 in
set_option maxRecDepth 100000 in
theorem b_X2_shiftedWithTrace_11 {p : Program} {l : Launch} {e : Env} {s : State} {m : MethodId} {args : Array Value} {below : List Frame} {meth : Method} {c : Code} {E : gE} {G0 : gG} {n0 : Nat} (X : g_X E G0 n0 p s m args meth c cX2_shiftedWithTrace 5 RX2 "shiftedWithTrace" (some .long)) {G : gG} {n : Nat} {r : Int64} {H : Heap} {locs : List Loc} (hI : g_I E (g_A G0 n0) G n s.heap H locs) {x0 : Int64} {x2 : Int32} (h : f_X2_shiftedWithTrace_11 x0 x2 = r) {ls : Array Slot} (hl : lv_has ls 5 [(0, .long x0), (2, .int x2)]) : W p l e rm_X2_shiftedWithTrace s m args below meth c H locs 0 0 (MQ below (g_Q E G0 n0 (some (.long r)) G n) args s rm_X2_shiftedWithTrace.cells rm_X2_shiftedWithTrace.slots (g_A G0 n0)) (F0 m 11 ls []) := by
  have hx := X.1
  have hb := X.2.1
  unfold f_X2_shiftedWithTrace_11 at h
  refine lv_iload_n hx hb dX2_shiftedWithTrace_11 rfl (lv_at hl 1 rfl) ?_
  refine lv_iconst (v := 1) hx hb dX2_shiftedWithTrace_12 (by decide) ?_
  refine lv_icmp_ge (tgt := 20) hx hb dX2_shiftedWithTrace_13 (by decide) (fun c => ?_) (fun c => ?_)
  · have h := g_t _ c h
    refine lv_lconst (v := 1) hx hb dX2_shiftedWithTrace_20 (by decide) ?_
    subst h
    exact g_lret X hI dX2_shiftedWithTrace_21
  · have h := g_f _ c h
    refine lv_lload_n hx hb dX2_shiftedWithTrace_16 rfl (lv_at hl 0 rfl) ?_
    refine lv_goto (tgt := 21) hx hb dX2_shiftedWithTrace_17 (by decide) ?_
    subst h
    exact g_lret X hI dX2_shiftedWithTrace_21
def f_X2_shiftedWithTrace (a0 : Int64) (a2 : Int32) : Int64 :=
  if a2 < 1 then
    f_X2_shiftedWithTrace_11 a0 a2
  else
  if a2 ≤ 62 then
    gl ((a0 &&& ((g_lshl 1 a2) - 1)) : Int64) fun v1 =>
    if v1 = 0 then
      ((g_lushr a0 a2) ||| (Int32.toInt64 0))
    else
    ((g_lushr a0 a2) ||| (Int32.toInt64 1))
  else
  f_X2_shiftedWithTrace_11 a0 a2
theorem gm_X2_shiftedWithTrace : g_M yX2_shiftedWithTrace cX2_shiftedWithTrace 5 (some .long) 2 := ⟨tw_2_151, tw_1_3, by decide +kernel, Or.inl (by decide +kernel)⟩
set_option maxHeartbeats 4000000 in
set_option maxRecDepth 100000 in
theorem c_X2_shiftedWithTrace {l : Launch} {E : gE} {G : gG} {n : Nat} (a0 : Int64) (a2 : Int32) : g_Met l yX2_shiftedWithTrace cX2_shiftedWithTrace 5 (some .long) rm_X2_shiftedWithTrace E G n [.long a0, .int a2] (some (.long (f_X2_shiftedWithTrace a0 a2))) G n := by
  generalize h : f_X2_shiftedWithTrace a0 a2 = r
  refine g_ofW gm_X2_shiftedWithTrace (Nat.le_of_ble_eq_true rfl) ?_
  intro p e s m below meth c ls X hl hI
  have hx := X.1
  have hb := X.2.1
  have X : g_X E G n p s m _ meth c cX2_shiftedWithTrace 5 RX2 "shiftedWithTrace" (some .long) := X
  have hl : lv_has ls 5 [(0, .long a0), (2, .int a2)] := hl
  unfold f_X2_shiftedWithTrace at h
  refine lv_iload_n hx hb dX2_shiftedWithTrace_0 rfl (lv_at hl 1 rfl) ?_
  refine lv_iconst (v := 1) hx hb dX2_shiftedWithTrace_1 (by decide) ?_
  refine lv_icmp_lt (tgt := 11) hx hb dX2_shiftedWithTrace_2 (by decide) (fun c => ?_) (fun c => ?_)
  · have h := g_t _ c h
    exact b_X2_shiftedWithTrace_11 X hI h (lv_sub hl [0, 1] rfl)
  · have h := g_f _ c h
    refine lv_iload_n hx hb dX2_shiftedWithTrace_5 rfl (lv_at hl 1 rfl) ?_
    refine lv_bipush (v := 62) hx hb dX2_shiftedWithTrace_6 (by decide) ?_
    refine lv_icmp_le (tgt := 22) hx hb dX2_shiftedWithTrace_8 (by decide) (fun c => ?_) (fun c => ?_)
    · have h := g_t _ c h
      refine lv_lload_n hx hb dX2_shiftedWithTrace_22 rfl (lv_at hl 0 rfl) ?_
      refine lv_lconst (v := 1) hx hb dX2_shiftedWithTrace_23 (by decide) ?_
      refine lv_iload_n hx hb dX2_shiftedWithTrace_24 rfl (lv_at hl 1 rfl) ?_
      refine lv_lshl (v := (g_lshl 1 a2)) hx hb dX2_shiftedWithTrace_25 rfl ?_
      refine lv_lconst (v := 1) hx hb dX2_shiftedWithTrace_26 (by decide) ?_
      refine lv_lsub (x := (g_lshl 1 a2)) (y := 1) hx hb dX2_shiftedWithTrace_27 ?_
      refine lv_land (x := a0) (y := ((g_lshl 1 a2) - 1)) hx hb dX2_shiftedWithTrace_28 ?_
      obtain ⟨v1, ev1, h⟩ := gl_s h
      refine g_topl ev1 ?_
      refine lv_lstore_n (lv' := [(3, .long v1), (0, .long a0), (2, .int a2)]) hx hb dX2_shiftedWithTrace_29 rfl hl (by decide) rfl (fun ls hl => ?_)
      refine lv_lload_n hx hb dX2_shiftedWithTrace_30 rfl (lv_at hl 1 rfl) ?_
      refine lv_iload_n hx hb dX2_shiftedWithTrace_31 rfl (lv_at hl 2 rfl) ?_
      refine lv_lushr (v := (g_lushr a0 a2)) hx hb dX2_shiftedWithTrace_32 rfl ?_
      refine lv_lload_n hx hb dX2_shiftedWithTrace_33 rfl (lv_at hl 0 rfl) ?_
      refine lv_lconst (v := 0) hx hb dX2_shiftedWithTrace_34 (by decide) ?_
      refine W.lcmp hx hb dX2_shiftedWithTrace_35 ?_
      refine lv_if_ne (tgt := 43) hx hb dX2_shiftedWithTrace_36 (by decide) (fun c => ?_) (fun c => ?_)
      · have h := g_f _ ((not_congr (lg_cmp_eq _ _)).mp c) h
        refine lv_iconst (v := 1) hx hb dX2_shiftedWithTrace_43 (by decide) ?_
        refine lv_i2l (v := (Int32.toInt64 1)) hx hb dX2_shiftedWithTrace_44 rfl ?_
        refine lv_lor (x := (g_lushr a0 a2)) (y := (Int32.toInt64 1)) hx hb dX2_shiftedWithTrace_45 ?_
        subst h
        exact g_lret X hI dX2_shiftedWithTrace_46
      · have h := g_t _ ((lg_cmp_eq _ _).mp c) h
        refine lv_iconst (v := 0) hx hb dX2_shiftedWithTrace_39 (by decide) ?_
        refine lv_goto (tgt := 44) hx hb dX2_shiftedWithTrace_40 (by decide) ?_
        refine lv_i2l (v := (Int32.toInt64 0)) hx hb dX2_shiftedWithTrace_44 rfl ?_
        refine lv_lor (x := (g_lushr a0 a2)) (y := (Int32.toInt64 0)) hx hb dX2_shiftedWithTrace_45 ?_
        subst h
        exact g_lret X hI dX2_shiftedWithTrace_46
    · have h := g_f _ c h
      exact b_X2_shiftedWithTrace_11 X hI h (lv_sub hl [0, 1] rfl)
abbrev rm_X2_setFiniteSum : Room := { frames := 1, cells := 0, slots := 0, locals := 25 }
def f_X2_setFiniteSum_92 (G : gG) (x1 : Nat) (x7 : Int64) (s0 : Int32) (s1 : Nat) : Option gG :=
  gb (g_fI G x1 1 3) fun v1 =>
  gck (g_isO G s1 1) <|
  gb (f_X2_setFinite G s1 s0 (f_J9_abs_067f4 x7) (v1 + 1)) fun G2 =>
  some G2
set_option maxHeartbeats 4000000 in
set_option maxRecDepth 100000 in
theorem b_X2_setFiniteSum_92 {p : Program} {l : Launch} {e : Env} {s : State} {m : MethodId} {args : Array Value} {below : List Frame} {meth : Method} {c : Code} {E : gE} {G0 : gG} {n0 : Nat} (X : g_X E G0 n0 p s m args meth c cX2_setFiniteSum 9 RX2 "setFiniteSum" none) {G : gG} {n : Nat} {Gr : gG} {H : Heap} {locs : List Loc} (hI : g_I E (g_A G0 n0) G n s.heap H locs) {x1 : Nat} {x7 : Int64} {s0 : Int32} {s1 : Nat} (h : f_X2_setFiniteSum_92 G x1 x7 s0 s1 = some Gr) {ls : Array Slot} (hl : lv_has ls 9 [(1, .ref x1), (7, .long x7)]) : W p l e rm_X2_setFiniteSum s m args below meth c H locs 0 0 (MQ below (g_Q E G0 n0 none Gr n) args s rm_X2_setFiniteSum.cells rm_X2_setFiniteSum.slots (g_A G0 n0)) (F0 m 92 ls [.int s0, .ref s1]) := by
  have hx := X.1
  have hb := X.2.1
  unfold f_X2_setFiniteSum_92 at h
  refine lv_lload hx hb dX2_setFiniteSum_92 (lv_at hl 1 rfl) ?_
  refine g_callS X hI (av := [.long x7]) (c_J9_abs_067f4 x7) gm_J9_abs_067f4 tw_2_68 tw_2_69 ⟨by decide, by decide⟩ hl.1 (rest := [.int s0, .ref s1]) rfl (Nat.le_of_ble_eq_true rfl) dX2_setFiniteSum_94 ⟨by decide, by decide⟩ (st1 := [.long (f_J9_abs_067f4 x7), .int s0, .ref s1]) rfl (cells' := 0) (slots' := 0) rfl rfl (fun H locs hI => ?_)
  refine lv_aload_n hx hb dX2_setFiniteSum_97 rfl (lv_at hl 0 rfl) ?_
  obtain ⟨v1, ev1, h⟩ := gb_s h
  refine g_get X hI (g_fI_s ev1) (C := RX2) (T := TX2) (N := 4) rfl gu_X2 (by decide) tw_1_37 dX2_setFiniteSum_98 ?_
  refine lv_iconst (v := 1) hx hb dX2_setFiniteSum_101 (by decide) ?_
  refine lv_iadd (x := v1) (y := 1) hx hb dX2_setFiniteSum_102 ?_
  obtain ⟨cO, h⟩ := gck_s h
  obtain ⟨G2, eG2, h⟩ := gb_s h
  refine g_callV X hI (q := (RX2, TX2, 4)) (b := s1) (av := [.int s0, .long (f_J9_abs_067f4 x7), .int (v1 + 1)]) cO rfl (c_X2_setFinite eG2) gm_X2_setFinite tw_2_58 tw_2_60 tw_p_9 ⟨by decide, by decide⟩ hl.1 (rest := []) rfl (Nat.le_of_ble_eq_true rfl) dX2_setFiniteSum_103 ⟨by decide, by decide⟩ (st1 := []) rfl (cells' := 0) (slots' := 0) rfl rfl (fun H locs hI => ?_)
  have h := Option.some.inj h
  subst h
  exact g_vret X hI dX2_setFiniteSum_106
def f_X2_setFiniteSum_84 (G : gG) (x1 : Nat) (x7 : Int64) (s0 : Int32) (s1 : Int32) (s2 : Nat) : Option gG :=
  if s1 = s0 then
    f_X2_setFiniteSum_92 G x1 x7 0 s2
  else
  f_X2_setFiniteSum_92 G x1 x7 1 s2
set_option maxHeartbeats 4000000 in
set_option maxRecDepth 100000 in
theorem b_X2_setFiniteSum_84 {p : Program} {l : Launch} {e : Env} {s : State} {m : MethodId} {args : Array Value} {below : List Frame} {meth : Method} {c : Code} {E : gE} {G0 : gG} {n0 : Nat} (X : g_X E G0 n0 p s m args meth c cX2_setFiniteSum 9 RX2 "setFiniteSum" none) {G : gG} {n : Nat} {Gr : gG} {H : Heap} {locs : List Loc} (hI : g_I E (g_A G0 n0) G n s.heap H locs) {x1 : Nat} {x7 : Int64} {s0 : Int32} {s1 : Int32} {s2 : Nat} (h : f_X2_setFiniteSum_84 G x1 x7 s0 s1 s2 = some Gr) {ls : Array Slot} (hl : lv_has ls 9 [(1, .ref x1), (7, .long x7)]) : W p l e rm_X2_setFiniteSum s m args below meth c H locs 0 0 (MQ below (g_Q E G0 n0 none Gr n) args s rm_X2_setFiniteSum.cells rm_X2_setFiniteSum.slots (g_A G0 n0)) (F0 m 84 ls [.int s0, .int s1, .ref s2]) := by
  have hx := X.1
  have hb := X.2.1
  unfold f_X2_setFiniteSum_84 at h
  refine lv_icmp_eq (tgt := 91) hx hb dX2_setFiniteSum_84 (by decide) (fun c => ?_) (fun c => ?_)
  · have h := g_t _ c h
    refine lv_iconst (v := 0) hx hb dX2_setFiniteSum_91 (by decide) ?_
    exact b_X2_setFiniteSum_92 X hI h (lv_sub hl [0, 1] rfl)
  · have h := g_f _ c h
    refine lv_iconst (v := 1) hx hb dX2_setFiniteSum_87 (by decide) ?_
    refine lv_goto (tgt := 92) hx hb dX2_setFiniteSum_88 (by decide) ?_
    exact b_X2_setFiniteSum_92 X hI h (lv_sub hl [0, 1] rfl)
def f_X2_setFiniteSum_49 (G : gG) (x0 : Nat) (x1 : Nat) (s0 : Int64) : Option gG :=
  if s0 = 0 then
    gck (g_isO G x0 1) <|
    gb (f_X2_setKind G x0 (0 : Int32) (0 : Int32)) fun G2 =>
    some G2
  else
  gb (g_fI G x1 1 1) fun v1 =>
  if (0 : Int64) ≤ s0 then
    f_X2_setFiniteSum_84 G x1 s0 0 v1 x0
  else
  f_X2_setFiniteSum_84 G x1 s0 1 v1 x0
set_option maxHeartbeats 4000000 in
set_option maxRecDepth 100000 in
theorem b_X2_setFiniteSum_49 {p : Program} {l : Launch} {e : Env} {s : State} {m : MethodId} {args : Array Value} {below : List Frame} {meth : Method} {c : Code} {E : gE} {G0 : gG} {n0 : Nat} (X : g_X E G0 n0 p s m args meth c cX2_setFiniteSum 9 RX2 "setFiniteSum" none) {G : gG} {n : Nat} {Gr : gG} {H : Heap} {locs : List Loc} (hI : g_I E (g_A G0 n0) G n s.heap H locs) {x0 : Nat} {x1 : Nat} {s0 : Int64} (h : f_X2_setFiniteSum_49 G x0 x1 s0 = some Gr) {ls : Array Slot} (hl : lv_has ls 9 [(0, .ref x0), (1, .ref x1)]) : W p l e rm_X2_setFiniteSum s m args below meth c H locs 0 0 (MQ below (g_Q E G0 n0 none Gr n) args s rm_X2_setFiniteSum.cells rm_X2_setFiniteSum.slots (g_A G0 n0)) (F0 m 49 ls [.long s0]) := by
  have hx := X.1
  have hb := X.2.1
  unfold f_X2_setFiniteSum_49 at h
  refine lv_lstore (lv' := [(7, .long s0), (0, .ref x0), (1, .ref x1)]) hx hb dX2_setFiniteSum_49 hl (by decide) rfl (fun ls hl => ?_)
  refine lv_lload hx hb dX2_setFiniteSum_51 (lv_at hl 0 rfl) ?_
  refine lv_lconst (v := 0) hx hb dX2_setFiniteSum_53 (by decide) ?_
  refine W.lcmp hx hb dX2_setFiniteSum_54 ?_
  refine lv_if_ne (tgt := 67) hx hb dX2_setFiniteSum_55 (by decide) (fun c => ?_) (fun c => ?_)
  · have h := g_f _ ((not_congr (lg_cmp_eq _ _)).mp c) h
    refine lv_aload_n hx hb dX2_setFiniteSum_67 rfl (lv_at hl 1 rfl) ?_
    refine lv_aload_n hx hb dX2_setFiniteSum_68 rfl (lv_at hl 2 rfl) ?_
    obtain ⟨v1, ev1, h⟩ := gb_s h
    refine g_get X hI (g_fI_s ev1) (C := RX2) (T := TX2) (N := 4) rfl gu_X2 (by decide) tw_1_34 dX2_setFiniteSum_69 ?_
    refine lv_lload hx hb dX2_setFiniteSum_72 (lv_at hl 0 rfl) ?_
    refine lv_lconst (v := 0) hx hb dX2_setFiniteSum_74 (by decide) ?_
    refine W.lcmp hx hb dX2_setFiniteSum_75 ?_
    refine lv_if_ge (tgt := 83) hx hb dX2_setFiniteSum_76 (by decide) (fun c => ?_) (fun c => ?_)
    · have h := g_t _ ((lg_cmp_ge _ _).mp c) h
      refine lv_iconst (v := 0) hx hb dX2_setFiniteSum_83 (by decide) ?_
      exact b_X2_setFiniteSum_84 X hI h (lv_sub hl [2, 0] rfl)
    · have h := g_f _ (fun q => c ((lg_cmp_ge _ _).mpr q)) h
      refine lv_iconst (v := 1) hx hb dX2_setFiniteSum_79 (by decide) ?_
      refine lv_goto (tgt := 84) hx hb dX2_setFiniteSum_80 (by decide) ?_
      exact b_X2_setFiniteSum_84 X hI h (lv_sub hl [2, 0] rfl)
  · have h := g_t _ ((lg_cmp_eq _ _).mp c) h
    refine lv_aload_n hx hb dX2_setFiniteSum_58 rfl (lv_at hl 1 rfl) ?_
    refine lv_iconst (v := 0) hx hb dX2_setFiniteSum_59 (by decide) ?_
    refine lv_iconst (v := 0) hx hb dX2_setFiniteSum_60 (by decide) ?_
    obtain ⟨cO, h⟩ := gck_s h
    obtain ⟨G2, eG2, h⟩ := gb_s h
    refine g_callV X hI (q := (RX2, TX2, 4)) (b := x0) (av := [.int 0, .int 0]) cO rfl (c_X2_setKind eG2) gm_X2_setKind tw_2_54 tw_2_56 tw_p_8 ⟨by decide, by decide⟩ hl.1 (rest := []) rfl (Nat.le_of_ble_eq_true rfl) dX2_setFiniteSum_61 ⟨by decide, by decide⟩ (st1 := []) rfl (cells' := 0) (slots' := 0) rfl rfl (fun H locs hI => ?_)
    refine lv_goto (tgt := 106) hx hb dX2_setFiniteSum_64 (by decide) ?_
    have h := Option.some.inj h
    subst h
    exact g_vret X hI dX2_setFiniteSum_106
def f_X2_setFiniteSum (G : gG) (th : Nat) (a1 : Nat) (a2 : Nat) : Option gG :=
  gb (g_fL G a1 1 2) fun v1 =>
  gl ((g_lushr v1 1) : Int64) fun v2 =>
  gb (g_fL G a2 1 2) fun v3 =>
  gb (g_fI G a1 1 3) fun v4 =>
  gb (g_fI G a2 1 3) fun v5 =>
  gl ((f_X2_shiftedWithTrace (g_lushr v3 1) (v4 - v5)) : Int64) fun v6 =>
  gb (g_fI G a1 1 1) fun v7 =>
  gb (g_fI G a2 1 1) fun v8 =>
  if v7 = v8 then
    f_X2_setFiniteSum_49 G th a1 (v2 + v6)
  else
  f_X2_setFiniteSum_49 G th a1 (v2 - v6)
theorem gm_X2_setFiniteSum : g_M yX2_setFiniteSum cX2_setFiniteSum 9 none 2 := ⟨tw_2_148, tw_1_3, by decide +kernel, Or.inl (by decide +kernel)⟩
set_option maxHeartbeats 4000000 in
set_option maxRecDepth 100000 in
theorem c_X2_setFiniteSum {l : Launch} {E : gE} {G : gG} {n : Nat} {th : Nat} {a1 : Nat} {a2 : Nat} {Gr : gG} (h : f_X2_setFiniteSum G th a1 a2 = some Gr) : g_Met l yX2_setFiniteSum cX2_setFiniteSum 9 none rm_X2_setFiniteSum E G n [.ref th, .ref a1, .ref a2] none Gr n := by
  refine g_ofW gm_X2_setFiniteSum (Nat.le_of_ble_eq_true rfl) ?_
  intro p e s m below meth c ls X hl hI
  have hx := X.1
  have hb := X.2.1
  have X : g_X E G n p s m _ meth c cX2_setFiniteSum 9 RX2 "setFiniteSum" none := X
  have hl : lv_has ls 9 [(0, .ref th), (1, .ref a1), (2, .ref a2)] := hl
  unfold f_X2_setFiniteSum at h
  refine lv_aload_n hx hb dX2_setFiniteSum_0 rfl (lv_at hl 1 rfl) ?_
  obtain ⟨v1, ev1, h⟩ := gb_s h
  refine g_get X hI (g_fL_s ev1) (C := RX2) (T := TX2) (N := 4) rfl gu_X2 (by decide) tw_1_36 dX2_setFiniteSum_1 ?_
  refine lv_iconst (v := 1) hx hb dX2_setFiniteSum_4 (by decide) ?_
  refine lv_lushr (v := (g_lushr v1 1)) hx hb dX2_setFiniteSum_5 rfl ?_
  obtain ⟨v2, ev2, h⟩ := gl_s h
  refine g_topl ev2 ?_
  refine lv_lstore_n (lv' := [(3, .long v2), (0, .ref th), (1, .ref a1), (2, .ref a2)]) hx hb dX2_setFiniteSum_6 rfl hl (by decide) rfl (fun ls hl => ?_)
  refine lv_aload_n hx hb dX2_setFiniteSum_7 rfl (lv_at hl 3 rfl) ?_
  obtain ⟨v3, ev3, h⟩ := gb_s h
  refine g_get X hI (g_fL_s ev3) (C := RX2) (T := TX2) (N := 4) rfl gu_X2 (by decide) tw_1_36 dX2_setFiniteSum_8 ?_
  refine lv_iconst (v := 1) hx hb dX2_setFiniteSum_11 (by decide) ?_
  refine lv_lushr (v := (g_lushr v3 1)) hx hb dX2_setFiniteSum_12 rfl ?_
  refine lv_aload_n hx hb dX2_setFiniteSum_13 rfl (lv_at hl 2 rfl) ?_
  obtain ⟨v4, ev4, h⟩ := gb_s h
  refine g_get X hI (g_fI_s ev4) (C := RX2) (T := TX2) (N := 4) rfl gu_X2 (by decide) tw_1_37 dX2_setFiniteSum_14 ?_
  refine lv_aload_n hx hb dX2_setFiniteSum_17 rfl (lv_at hl 3 rfl) ?_
  obtain ⟨v5, ev5, h⟩ := gb_s h
  refine g_get X hI (g_fI_s ev5) (C := RX2) (T := TX2) (N := 4) rfl gu_X2 (by decide) tw_1_37 dX2_setFiniteSum_18 ?_
  refine lv_isub (x := v4) (y := v5) hx hb dX2_setFiniteSum_21 ?_
  refine g_callS X hI (av := [.long (g_lushr v3 1), .int (v4 - v5)]) (c_X2_shiftedWithTrace (g_lushr v3 1) (v4 - v5)) gm_X2_shiftedWithTrace tw_2_149 tw_2_150 ⟨by decide, by decide⟩ hl.1 (rest := []) rfl (Nat.le_of_ble_eq_true rfl) dX2_setFiniteSum_22 ⟨by decide, by decide⟩ (st1 := [.long (f_X2_shiftedWithTrace (g_lushr v3 1) (v4 - v5))]) rfl (cells' := 0) (slots' := 0) rfl rfl (fun H locs hI => ?_)
  obtain ⟨v6, ev6, h⟩ := gl_s h
  refine g_topl ev6 ?_
  refine lv_lstore (lv' := [(5, .long v6), (3, .long v2), (0, .ref th), (1, .ref a1), (2, .ref a2)]) hx hb dX2_setFiniteSum_25 hl (by decide) rfl (fun ls hl => ?_)
  refine lv_aload_n hx hb dX2_setFiniteSum_27 rfl (lv_at hl 3 rfl) ?_
  obtain ⟨v7, ev7, h⟩ := gb_s h
  refine g_get X hI (g_fI_s ev7) (C := RX2) (T := TX2) (N := 4) rfl gu_X2 (by decide) tw_1_34 dX2_setFiniteSum_28 ?_
  refine lv_aload_n hx hb dX2_setFiniteSum_31 rfl (lv_at hl 4 rfl) ?_
  obtain ⟨v8, ev8, h⟩ := gb_s h
  refine g_get X hI (g_fI_s ev8) (C := RX2) (T := TX2) (N := 4) rfl gu_X2 (by decide) tw_1_34 dX2_setFiniteSum_32 ?_
  refine lv_icmp_ne (tgt := 45) hx hb dX2_setFiniteSum_35 (by decide) (fun c => ?_) (fun c => ?_)
  · have h := g_f _ c h
    refine lv_lload_n hx hb dX2_setFiniteSum_45 rfl (lv_at hl 1 rfl) ?_
    refine lv_lload hx hb dX2_setFiniteSum_46 (lv_at hl 0 rfl) ?_
    refine lv_lsub (x := v2) (y := v6) hx hb dX2_setFiniteSum_48 ?_
    exact b_X2_setFiniteSum_49 X hI h (lv_sub hl [2, 3] rfl)
  · have h := g_t _ c h
    refine lv_lload_n hx hb dX2_setFiniteSum_38 rfl (lv_at hl 1 rfl) ?_
    refine lv_lload hx hb dX2_setFiniteSum_39 (lv_at hl 0 rfl) ?_
    refine lv_ladd (x := v2) (y := v6) hx hb dX2_setFiniteSum_41 ?_
    refine lv_goto (tgt := 49) hx hb dX2_setFiniteSum_42 (by decide) ?_
    exact b_X2_setFiniteSum_49 X hI h (lv_sub hl [2, 3] rfl)
abbrev rm_X2_setSum : Room := { frames := 2, cells := 0, slots := 0, locals := 53 }
def f_X2_setSum_141 (G : gG) (x0 : Nat) (x2 : Nat) : Option gG :=
  gck (g_isO G x0 1) <|
  gb (f_X2_setAs G x0 x2) fun G1 =>
  some G1
set_option maxHeartbeats 4000000 in
set_option maxRecDepth 100000 in
theorem b_X2_setSum_141 {p : Program} {l : Launch} {e : Env} {s : State} {m : MethodId} {args : Array Value} {below : List Frame} {meth : Method} {c : Code} {E : gE} {G0 : gG} {n0 : Nat} (X : g_X E G0 n0 p s m args meth c cX2_setSum 4 RX2 "setSum" none) {G : gG} {n : Nat} {Gr : gG} {H : Heap} {locs : List Loc} (hI : g_I E (g_A G0 n0) G n s.heap H locs) {x0 : Nat} {x2 : Nat} (h : f_X2_setSum_141 G x0 x2 = some Gr) {ls : Array Slot} (hl : lv_has ls 4 [(0, .ref x0), (2, .ref x2)]) : W p l e rm_X2_setSum s m args below meth c H locs 0 0 (MQ below (g_Q E G0 n0 none Gr n) args s rm_X2_setSum.cells rm_X2_setSum.slots (g_A G0 n0)) (F0 m 141 ls []) := by
  have hx := X.1
  have hb := X.2.1
  unfold f_X2_setSum_141 at h
  refine lv_aload_n hx hb dX2_setSum_141 rfl (lv_at hl 0 rfl) ?_
  refine lv_aload_n hx hb dX2_setSum_142 rfl (lv_at hl 1 rfl) ?_
  obtain ⟨cO, h⟩ := gck_s h
  obtain ⟨G1, eG1, h⟩ := gb_s h
  refine g_callV X hI (q := (RX2, TX2, 4)) (b := x0) (av := [.ref x2]) cO rfl (c_X2_setAs eG1) gm_X2_setAs tw_2_141 tw_2_142 tw_2_143 ⟨by decide, by decide⟩ hl.1 (rest := []) rfl (Nat.le_of_ble_eq_true rfl) dX2_setSum_143 ⟨by decide, by decide⟩ (st1 := []) rfl (cells' := 0) (slots' := 0) rfl rfl (fun H locs hI => ?_)
  refine lv_goto (tgt := 175) hx hb dX2_setSum_146 (by decide) ?_
  have h := Option.some.inj h
  subst h
  exact g_vret X hI dX2_setSum_175
def f_X2_setSum_118 (G : gG) (x0 : Nat) (x1 : Nat) : Option gG :=
  gck (g_isO G x0 1) <|
  gb (f_X2_setAs G x0 x1) fun G1 =>
  some G1
set_option maxHeartbeats 4000000 in
set_option maxRecDepth 100000 in
theorem b_X2_setSum_118 {p : Program} {l : Launch} {e : Env} {s : State} {m : MethodId} {args : Array Value} {below : List Frame} {meth : Method} {c : Code} {E : gE} {G0 : gG} {n0 : Nat} (X : g_X E G0 n0 p s m args meth c cX2_setSum 4 RX2 "setSum" none) {G : gG} {n : Nat} {Gr : gG} {H : Heap} {locs : List Loc} (hI : g_I E (g_A G0 n0) G n s.heap H locs) {x0 : Nat} {x1 : Nat} (h : f_X2_setSum_118 G x0 x1 = some Gr) {ls : Array Slot} (hl : lv_has ls 4 [(0, .ref x0), (1, .ref x1)]) : W p l e rm_X2_setSum s m args below meth c H locs 0 0 (MQ below (g_Q E G0 n0 none Gr n) args s rm_X2_setSum.cells rm_X2_setSum.slots (g_A G0 n0)) (F0 m 118 ls []) := by
  have hx := X.1
  have hb := X.2.1
  unfold f_X2_setSum_118 at h
  refine lv_aload_n hx hb dX2_setSum_118 rfl (lv_at hl 0 rfl) ?_
  refine lv_aload_n hx hb dX2_setSum_119 rfl (lv_at hl 1 rfl) ?_
  obtain ⟨cO, h⟩ := gck_s h
  obtain ⟨G1, eG1, h⟩ := gb_s h
  refine g_callV X hI (q := (RX2, TX2, 4)) (b := x0) (av := [.ref x1]) cO rfl (c_X2_setAs eG1) gm_X2_setAs tw_2_141 tw_2_142 tw_2_143 ⟨by decide, by decide⟩ hl.1 (rest := []) rfl (Nat.le_of_ble_eq_true rfl) dX2_setSum_120 ⟨by decide, by decide⟩ (st1 := []) rfl (cells' := 0) (slots' := 0) rfl rfl (fun H locs hI => ?_)
  refine lv_goto (tgt := 175) hx hb dX2_setSum_123 (by decide) ?_
  have h := Option.some.inj h
  subst h
  exact g_vret X hI dX2_setSum_175
def f_X2_setSum_103 (G : gG) (x0 : Nat) (x1 : Nat) (x2 : Nat) : Option gG :=
  gb (g_fI G x1 1 0) fun v1 =>
  if v1 = 2 then
    f_X2_setSum_118 G x0 x1
  else
  gb (g_fI G x2 1 0) fun v2 =>
  if v2 = 0 then
    f_X2_setSum_118 G x0 x1
  else
  gb (g_fI G x2 1 0) fun v3 =>
  if v3 = 2 then
    f_X2_setSum_141 G x0 x2
  else
  gb (g_fI G x1 1 0) fun v4 =>
  if v4 = 0 then
    f_X2_setSum_141 G x0 x2
  else
  gb (g_fI G x1 1 3) fun v5 =>
  gb (g_fI G x2 1 3) fun v6 =>
  if v5 < v6 then
    gck (g_isO G x0 1) <|
    gb (f_X2_setFiniteSum G x0 x2 x1) fun G7 =>
    some G7
  else
  gck (g_isO G x0 1) <|
  gb (f_X2_setFiniteSum G x0 x1 x2) fun G8 =>
  some G8
set_option maxHeartbeats 4000000 in
set_option maxRecDepth 100000 in
theorem b_X2_setSum_103 {p : Program} {l : Launch} {e : Env} {s : State} {m : MethodId} {args : Array Value} {below : List Frame} {meth : Method} {c : Code} {E : gE} {G0 : gG} {n0 : Nat} (X : g_X E G0 n0 p s m args meth c cX2_setSum 4 RX2 "setSum" none) {G : gG} {n : Nat} {Gr : gG} {H : Heap} {locs : List Loc} (hI : g_I E (g_A G0 n0) G n s.heap H locs) {x0 : Nat} {x1 : Nat} {x2 : Nat} (h : f_X2_setSum_103 G x0 x1 x2 = some Gr) {ls : Array Slot} (hl : lv_has ls 4 [(0, .ref x0), (1, .ref x1), (2, .ref x2)]) : W p l e rm_X2_setSum s m args below meth c H locs 0 0 (MQ below (g_Q E G0 n0 none Gr n) args s rm_X2_setSum.cells rm_X2_setSum.slots (g_A G0 n0)) (F0 m 103 ls []) := by
  have hx := X.1
  have hb := X.2.1
  unfold f_X2_setSum_103 at h
  refine lv_aload_n hx hb dX2_setSum_103 rfl (lv_at hl 1 rfl) ?_
  obtain ⟨v1, ev1, h⟩ := gb_s h
  refine g_get X hI (g_fI_s ev1) (C := RX2) (T := TX2) (N := 4) rfl gu_X2 (by decide) tw_1_32 dX2_setSum_104 ?_
  refine lv_iconst (v := 2) hx hb dX2_setSum_107 (by decide) ?_
  refine lv_icmp_eq (tgt := 118) hx hb dX2_setSum_108 (by decide) (fun c => ?_) (fun c => ?_)
  · have h := g_t _ c h
    exact b_X2_setSum_118 X hI h (lv_sub hl [0, 1] rfl)
  · have h := g_f _ c h
    refine lv_aload_n hx hb dX2_setSum_111 rfl (lv_at hl 2 rfl) ?_
    obtain ⟨v2, ev2, h⟩ := gb_s h
    refine g_get X hI (g_fI_s ev2) (C := RX2) (T := TX2) (N := 4) rfl gu_X2 (by decide) tw_1_32 dX2_setSum_112 ?_
    refine lv_if_ne (tgt := 126) hx hb dX2_setSum_115 (by decide) (fun c => ?_) (fun c => ?_)
    · have h := g_f _ c h
      refine lv_aload_n hx hb dX2_setSum_126 rfl (lv_at hl 2 rfl) ?_
      obtain ⟨v3, ev3, h⟩ := gb_s h
      refine g_get X hI (g_fI_s ev3) (C := RX2) (T := TX2) (N := 4) rfl gu_X2 (by decide) tw_1_32 dX2_setSum_127 ?_
      refine lv_iconst (v := 2) hx hb dX2_setSum_130 (by decide) ?_
      refine lv_icmp_eq (tgt := 141) hx hb dX2_setSum_131 (by decide) (fun c => ?_) (fun c => ?_)
      · have h := g_t _ c h
        exact b_X2_setSum_141 X hI h (lv_sub hl [0, 2] rfl)
      · have h := g_f _ c h
        refine lv_aload_n hx hb dX2_setSum_134 rfl (lv_at hl 1 rfl) ?_
        obtain ⟨v4, ev4, h⟩ := gb_s h
        refine g_get X hI (g_fI_s ev4) (C := RX2) (T := TX2) (N := 4) rfl gu_X2 (by decide) tw_1_32 dX2_setSum_135 ?_
        refine lv_if_ne (tgt := 149) hx hb dX2_setSum_138 (by decide) (fun c => ?_) (fun c => ?_)
        · have h := g_f _ c h
          refine lv_aload_n hx hb dX2_setSum_149 rfl (lv_at hl 1 rfl) ?_
          obtain ⟨v5, ev5, h⟩ := gb_s h
          refine g_get X hI (g_fI_s ev5) (C := RX2) (T := TX2) (N := 4) rfl gu_X2 (by decide) tw_1_37 dX2_setSum_150 ?_
          refine lv_aload_n hx hb dX2_setSum_153 rfl (lv_at hl 2 rfl) ?_
          obtain ⟨v6, ev6, h⟩ := gb_s h
          refine g_get X hI (g_fI_s ev6) (C := RX2) (T := TX2) (N := 4) rfl gu_X2 (by decide) tw_1_37 dX2_setSum_154 ?_
          refine lv_icmp_lt (tgt := 169) hx hb dX2_setSum_157 (by decide) (fun c => ?_) (fun c => ?_)
          · have h := g_t _ c h
            refine lv_aload_n hx hb dX2_setSum_169 rfl (lv_at hl 0 rfl) ?_
            refine lv_aload_n hx hb dX2_setSum_170 rfl (lv_at hl 2 rfl) ?_
            refine lv_aload_n hx hb dX2_setSum_171 rfl (lv_at hl 1 rfl) ?_
            obtain ⟨cO, h⟩ := gck_s h
            obtain ⟨G7, eG7, h⟩ := gb_s h
            refine g_callV X hI (q := (RX2, TX2, 4)) (b := x0) (av := [.ref x2, .ref x1]) cO rfl (c_X2_setFiniteSum eG7) gm_X2_setFiniteSum tw_2_145 tw_2_147 tw_p_12 ⟨by decide, by decide⟩ hl.1 (rest := []) rfl (Nat.le_of_ble_eq_true rfl) dX2_setSum_172 ⟨by decide, by decide⟩ (st1 := []) rfl (cells' := 0) (slots' := 0) rfl rfl (fun H locs hI => ?_)
            have h := Option.some.inj h
            subst h
            exact g_vret X hI dX2_setSum_175
          · have h := g_f _ c h
            refine lv_aload_n hx hb dX2_setSum_160 rfl (lv_at hl 0 rfl) ?_
            refine lv_aload_n hx hb dX2_setSum_161 rfl (lv_at hl 1 rfl) ?_
            refine lv_aload_n hx hb dX2_setSum_162 rfl (lv_at hl 2 rfl) ?_
            obtain ⟨cO, h⟩ := gck_s h
            obtain ⟨G8, eG8, h⟩ := gb_s h
            refine g_callV X hI (q := (RX2, TX2, 4)) (b := x0) (av := [.ref x1, .ref x2]) cO rfl (c_X2_setFiniteSum eG8) gm_X2_setFiniteSum tw_2_145 tw_2_147 tw_p_12 ⟨by decide, by decide⟩ hl.1 (rest := []) rfl (Nat.le_of_ble_eq_true rfl) dX2_setSum_163 ⟨by decide, by decide⟩ (st1 := []) rfl (cells' := 0) (slots' := 0) rfl rfl (fun H locs hI => ?_)
            refine lv_goto (tgt := 175) hx hb dX2_setSum_166 (by decide) ?_
            have h := Option.some.inj h
            subst h
            exact g_vret X hI dX2_setSum_175
        · have h := g_t _ c h
          exact b_X2_setSum_141 X hI h (lv_sub hl [0, 2] rfl)
    · have h := g_t _ c h
      exact b_X2_setSum_118 X hI h (lv_sub hl [0, 1] rfl)
def f_X2_setSum_97 (G : gG) (s0 : Int32) (s1 : Int32) (s2 : Nat) : Option gG :=
  gck (g_isO G s2 1) <|
  gb (f_X2_setKind G s2 s1 s0) fun G1 =>
  some G1
set_option maxHeartbeats 4000000 in
set_option maxRecDepth 100000 in
theorem b_X2_setSum_97 {p : Program} {l : Launch} {e : Env} {s : State} {m : MethodId} {args : Array Value} {below : List Frame} {meth : Method} {c : Code} {E : gE} {G0 : gG} {n0 : Nat} (X : g_X E G0 n0 p s m args meth c cX2_setSum 4 RX2 "setSum" none) {G : gG} {n : Nat} {Gr : gG} {H : Heap} {locs : List Loc} (hI : g_I E (g_A G0 n0) G n s.heap H locs) {s0 : Int32} {s1 : Int32} {s2 : Nat} (h : f_X2_setSum_97 G s0 s1 s2 = some Gr) {ls : Array Slot} (hl : lv_has ls 4 []) : W p l e rm_X2_setSum s m args below meth c H locs 0 0 (MQ below (g_Q E G0 n0 none Gr n) args s rm_X2_setSum.cells rm_X2_setSum.slots (g_A G0 n0)) (F0 m 97 ls [.int s0, .int s1, .ref s2]) := by
  have hx := X.1
  have hb := X.2.1
  unfold f_X2_setSum_97 at h
  obtain ⟨cO, h⟩ := gck_s h
  obtain ⟨G1, eG1, h⟩ := gb_s h
  refine g_callV X hI (q := (RX2, TX2, 4)) (b := s2) (av := [.int s1, .int s0]) cO rfl (c_X2_setKind eG1) gm_X2_setKind tw_2_54 tw_2_56 tw_p_8 ⟨by decide, by decide⟩ hl.1 (rest := []) rfl (Nat.le_of_ble_eq_true rfl) dX2_setSum_97 ⟨by decide, by decide⟩ (st1 := []) rfl (cells' := 0) (slots' := 0) rfl rfl (fun H locs hI => ?_)
  refine lv_goto (tgt := 175) hx hb dX2_setSum_100 (by decide) ?_
  have h := Option.some.inj h
  subst h
  exact g_vret X hI dX2_setSum_175
def f_X2_setSum_96 (G : gG) (s0 : Int32) (s1 : Nat) : Option gG :=
  f_X2_setSum_97 G 0 s0 s1
set_option maxHeartbeats 4000000 in
set_option maxRecDepth 100000 in
theorem b_X2_setSum_96 {p : Program} {l : Launch} {e : Env} {s : State} {m : MethodId} {args : Array Value} {below : List Frame} {meth : Method} {c : Code} {E : gE} {G0 : gG} {n0 : Nat} (X : g_X E G0 n0 p s m args meth c cX2_setSum 4 RX2 "setSum" none) {G : gG} {n : Nat} {Gr : gG} {H : Heap} {locs : List Loc} (hI : g_I E (g_A G0 n0) G n s.heap H locs) {s0 : Int32} {s1 : Nat} (h : f_X2_setSum_96 G s0 s1 = some Gr) {ls : Array Slot} (hl : lv_has ls 4 []) : W p l e rm_X2_setSum s m args below meth c H locs 0 0 (MQ below (g_Q E G0 n0 none Gr n) args s rm_X2_setSum.cells rm_X2_setSum.slots (g_A G0 n0)) (F0 m 96 ls [.int s0, .ref s1]) := by
  have hx := X.1
  have hb := X.2.1
  unfold f_X2_setSum_96 at h
  refine lv_iconst (v := 0) hx hb dX2_setSum_96 (by decide) ?_
  exact b_X2_setSum_97 X hI h (lv_sub hl [] rfl)
def f_X2_setSum_62 (G : gG) (x0 : Nat) (x1 : Nat) (x2 : Nat) : Option gG :=
  gb (g_fI G x1 1 0) fun v1 =>
  if v1 = 0 then
    gb (g_fI G x2 1 0) fun v2 =>
    if v2 = 0 then
      gb (g_fI G x1 1 1) fun v3 =>
      if v3 = 0 then
        f_X2_setSum_96 G 0 x0
      else
      gb (g_fI G x2 1 1) fun v4 =>
      if v4 = 0 then
        f_X2_setSum_96 G 0 x0
      else
      f_X2_setSum_97 G 1 0 x0
    else
    f_X2_setSum_103 G x0 x1 x2
  else
  f_X2_setSum_103 G x0 x1 x2
set_option maxHeartbeats 4000000 in
set_option maxRecDepth 100000 in
theorem b_X2_setSum_62 {p : Program} {l : Launch} {e : Env} {s : State} {m : MethodId} {args : Array Value} {below : List Frame} {meth : Method} {c : Code} {E : gE} {G0 : gG} {n0 : Nat} (X : g_X E G0 n0 p s m args meth c cX2_setSum 4 RX2 "setSum" none) {G : gG} {n : Nat} {Gr : gG} {H : Heap} {locs : List Loc} (hI : g_I E (g_A G0 n0) G n s.heap H locs) {x0 : Nat} {x1 : Nat} {x2 : Nat} (h : f_X2_setSum_62 G x0 x1 x2 = some Gr) {ls : Array Slot} (hl : lv_has ls 4 [(0, .ref x0), (1, .ref x1), (2, .ref x2)]) : W p l e rm_X2_setSum s m args below meth c H locs 0 0 (MQ below (g_Q E G0 n0 none Gr n) args s rm_X2_setSum.cells rm_X2_setSum.slots (g_A G0 n0)) (F0 m 62 ls []) := by
  have hx := X.1
  have hb := X.2.1
  unfold f_X2_setSum_62 at h
  refine lv_aload_n hx hb dX2_setSum_62 rfl (lv_at hl 1 rfl) ?_
  obtain ⟨v1, ev1, h⟩ := gb_s h
  refine g_get X hI (g_fI_s ev1) (C := RX2) (T := TX2) (N := 4) rfl gu_X2 (by decide) tw_1_32 dX2_setSum_63 ?_
  refine lv_if_ne (tgt := 103) hx hb dX2_setSum_66 (by decide) (fun c => ?_) (fun c => ?_)
  · have h := g_f _ c h
    exact b_X2_setSum_103 X hI h (lv_sub hl [0, 1, 2] rfl)
  · have h := g_t _ c h
    refine lv_aload_n hx hb dX2_setSum_69 rfl (lv_at hl 2 rfl) ?_
    obtain ⟨v2, ev2, h⟩ := gb_s h
    refine g_get X hI (g_fI_s ev2) (C := RX2) (T := TX2) (N := 4) rfl gu_X2 (by decide) tw_1_32 dX2_setSum_70 ?_
    refine lv_if_ne (tgt := 103) hx hb dX2_setSum_73 (by decide) (fun c => ?_) (fun c => ?_)
    · have h := g_f _ c h
      exact b_X2_setSum_103 X hI h (lv_sub hl [0, 1, 2] rfl)
    · have h := g_t _ c h
      refine lv_aload_n hx hb dX2_setSum_76 rfl (lv_at hl 0 rfl) ?_
      refine lv_iconst (v := 0) hx hb dX2_setSum_77 (by decide) ?_
      refine lv_aload_n hx hb dX2_setSum_78 rfl (lv_at hl 1 rfl) ?_
      obtain ⟨v3, ev3, h⟩ := gb_s h
      refine g_get X hI (g_fI_s ev3) (C := RX2) (T := TX2) (N := 4) rfl gu_X2 (by decide) tw_1_34 dX2_setSum_79 ?_
      refine lv_if_eq (tgt := 96) hx hb dX2_setSum_82 (by decide) (fun c => ?_) (fun c => ?_)
      · have h := g_t _ c h
        exact b_X2_setSum_96 X hI h (lv_sub hl [] rfl)
      · have h := g_f _ c h
        refine lv_aload_n hx hb dX2_setSum_85 rfl (lv_at hl 2 rfl) ?_
        obtain ⟨v4, ev4, h⟩ := gb_s h
        refine g_get X hI (g_fI_s ev4) (C := RX2) (T := TX2) (N := 4) rfl gu_X2 (by decide) tw_1_34 dX2_setSum_86 ?_
        refine lv_if_eq (tgt := 96) hx hb dX2_setSum_89 (by decide) (fun c => ?_) (fun c => ?_)
        · have h := g_t _ c h
          exact b_X2_setSum_96 X hI h (lv_sub hl [] rfl)
        · have h := g_f _ c h
          refine lv_iconst (v := 1) hx hb dX2_setSum_92 (by decide) ?_
          refine lv_goto (tgt := 97) hx hb dX2_setSum_93 (by decide) ?_
          exact b_X2_setSum_97 X hI h (lv_sub hl [] rfl)
def f_X2_setSum_53 (G : gG) (x0 : Nat) : Option gG :=
  gck (g_isO G x0 1) <|
  gb (f_X2_setKind G x0 (3 : Int32) (0 : Int32)) fun G1 =>
  some G1
set_option maxHeartbeats 4000000 in
set_option maxRecDepth 100000 in
theorem b_X2_setSum_53 {p : Program} {l : Launch} {e : Env} {s : State} {m : MethodId} {args : Array Value} {below : List Frame} {meth : Method} {c : Code} {E : gE} {G0 : gG} {n0 : Nat} (X : g_X E G0 n0 p s m args meth c cX2_setSum 4 RX2 "setSum" none) {G : gG} {n : Nat} {Gr : gG} {H : Heap} {locs : List Loc} (hI : g_I E (g_A G0 n0) G n s.heap H locs) {x0 : Nat} (h : f_X2_setSum_53 G x0 = some Gr) {ls : Array Slot} (hl : lv_has ls 4 [(0, .ref x0)]) : W p l e rm_X2_setSum s m args below meth c H locs 0 0 (MQ below (g_Q E G0 n0 none Gr n) args s rm_X2_setSum.cells rm_X2_setSum.slots (g_A G0 n0)) (F0 m 53 ls []) := by
  have hx := X.1
  have hb := X.2.1
  unfold f_X2_setSum_53 at h
  refine lv_aload_n hx hb dX2_setSum_53 rfl (lv_at hl 0 rfl) ?_
  refine lv_iconst (v := 3) hx hb dX2_setSum_54 (by decide) ?_
  refine lv_iconst (v := 0) hx hb dX2_setSum_55 (by decide) ?_
  obtain ⟨cO, h⟩ := gck_s h
  obtain ⟨G1, eG1, h⟩ := gb_s h
  refine g_callV X hI (q := (RX2, TX2, 4)) (b := x0) (av := [.int 3, .int 0]) cO rfl (c_X2_setKind eG1) gm_X2_setKind tw_2_54 tw_2_56 tw_p_8 ⟨by decide, by decide⟩ hl.1 (rest := []) rfl (Nat.le_of_ble_eq_true rfl) dX2_setSum_56 ⟨by decide, by decide⟩ (st1 := []) rfl (cells' := 0) (slots' := 0) rfl rfl (fun H locs hI => ?_)
  refine lv_goto (tgt := 175) hx hb dX2_setSum_59 (by decide) ?_
  have h := Option.some.inj h
  subst h
  exact g_vret X hI dX2_setSum_175
def f_X2_setSum_16 (G : gG) (x0 : Nat) (x1 : Nat) (x2 : Nat) (s0 : Int32) : Option gG :=
  gb (g_fI G x1 1 0) fun v1 =>
  if v1 = 3 then
    f_X2_setSum_53 G x0
  else
  gb (g_fI G x2 1 0) fun v2 =>
  if v2 = 3 then
    f_X2_setSum_53 G x0
  else
  gb (g_fI G x1 1 0) fun v3 =>
  if v3 = 2 then
    gb (g_fI G x2 1 0) fun v4 =>
    if v4 = 2 then
      if s0 = 0 then
        f_X2_setSum_62 G x0 x1 x2
      else
      f_X2_setSum_53 G x0
    else
    f_X2_setSum_62 G x0 x1 x2
  else
  f_X2_setSum_62 G x0 x1 x2
set_option maxHeartbeats 4000000 in
set_option maxRecDepth 100000 in
theorem b_X2_setSum_16 {p : Program} {l : Launch} {e : Env} {s : State} {m : MethodId} {args : Array Value} {below : List Frame} {meth : Method} {c : Code} {E : gE} {G0 : gG} {n0 : Nat} (X : g_X E G0 n0 p s m args meth c cX2_setSum 4 RX2 "setSum" none) {G : gG} {n : Nat} {Gr : gG} {H : Heap} {locs : List Loc} (hI : g_I E (g_A G0 n0) G n s.heap H locs) {x0 : Nat} {x1 : Nat} {x2 : Nat} {s0 : Int32} (h : f_X2_setSum_16 G x0 x1 x2 s0 = some Gr) {ls : Array Slot} (hl : lv_has ls 4 [(0, .ref x0), (1, .ref x1), (2, .ref x2)]) : W p l e rm_X2_setSum s m args below meth c H locs 0 0 (MQ below (g_Q E G0 n0 none Gr n) args s rm_X2_setSum.cells rm_X2_setSum.slots (g_A G0 n0)) (F0 m 16 ls [.int s0]) := by
  have hx := X.1
  have hb := X.2.1
  unfold f_X2_setSum_16 at h
  refine lv_istore_n (lv' := [(3, .int s0), (0, .ref x0), (1, .ref x1), (2, .ref x2)]) hx hb dX2_setSum_16 rfl hl (by decide) rfl (fun ls hl => ?_)
  refine lv_aload_n hx hb dX2_setSum_17 rfl (lv_at hl 2 rfl) ?_
  obtain ⟨v1, ev1, h⟩ := gb_s h
  refine g_get X hI (g_fI_s ev1) (C := RX2) (T := TX2) (N := 4) rfl gu_X2 (by decide) tw_1_32 dX2_setSum_18 ?_
  refine lv_iconst (v := 3) hx hb dX2_setSum_21 (by decide) ?_
  refine lv_icmp_eq (tgt := 53) hx hb dX2_setSum_22 (by decide) (fun c => ?_) (fun c => ?_)
  · have h := g_t _ c h
    exact b_X2_setSum_53 X hI h (lv_sub hl [1] rfl)
  · have h := g_f _ c h
    refine lv_aload_n hx hb dX2_setSum_25 rfl (lv_at hl 3 rfl) ?_
    obtain ⟨v2, ev2, h⟩ := gb_s h
    refine g_get X hI (g_fI_s ev2) (C := RX2) (T := TX2) (N := 4) rfl gu_X2 (by decide) tw_1_32 dX2_setSum_26 ?_
    refine lv_iconst (v := 3) hx hb dX2_setSum_29 (by decide) ?_
    refine lv_icmp_eq (tgt := 53) hx hb dX2_setSum_30 (by decide) (fun c => ?_) (fun c => ?_)
    · have h := g_t _ c h
      exact b_X2_setSum_53 X hI h (lv_sub hl [1] rfl)
    · have h := g_f _ c h
      refine lv_aload_n hx hb dX2_setSum_33 rfl (lv_at hl 2 rfl) ?_
      obtain ⟨v3, ev3, h⟩ := gb_s h
      refine g_get X hI (g_fI_s ev3) (C := RX2) (T := TX2) (N := 4) rfl gu_X2 (by decide) tw_1_32 dX2_setSum_34 ?_
      refine lv_iconst (v := 2) hx hb dX2_setSum_37 (by decide) ?_
      refine lv_icmp_ne (tgt := 62) hx hb dX2_setSum_38 (by decide) (fun c => ?_) (fun c => ?_)
      · have h := g_f _ c h
        exact b_X2_setSum_62 X hI h (lv_sub hl [1, 2, 3] rfl)
      · have h := g_t _ c h
        refine lv_aload_n hx hb dX2_setSum_41 rfl (lv_at hl 3 rfl) ?_
        obtain ⟨v4, ev4, h⟩ := gb_s h
        refine g_get X hI (g_fI_s ev4) (C := RX2) (T := TX2) (N := 4) rfl gu_X2 (by decide) tw_1_32 dX2_setSum_42 ?_
        refine lv_iconst (v := 2) hx hb dX2_setSum_45 (by decide) ?_
        refine lv_icmp_ne (tgt := 62) hx hb dX2_setSum_46 (by decide) (fun c => ?_) (fun c => ?_)
        · have h := g_f _ c h
          exact b_X2_setSum_62 X hI h (lv_sub hl [1, 2, 3] rfl)
        · have h := g_t _ c h
          refine lv_iload_n hx hb dX2_setSum_49 rfl (lv_at hl 0 rfl) ?_
          refine lv_if_eq (tgt := 62) hx hb dX2_setSum_50 (by decide) (fun c => ?_) (fun c => ?_)
          · have h := g_t _ c h
            exact b_X2_setSum_62 X hI h (lv_sub hl [1, 2, 3] rfl)
          · have h := g_f _ c h
            exact b_X2_setSum_53 X hI h (lv_sub hl [1] rfl)
def f_X2_setSum (G : gG) (th : Nat) (a1 : Nat) (a2 : Nat) : Option gG :=
  gb (g_fI G a1 1 1) fun v1 =>
  gb (g_fI G a2 1 1) fun v2 =>
  if v1 = v2 then
    f_X2_setSum_16 G th a1 a2 0
  else
  f_X2_setSum_16 G th a1 a2 1
theorem gm_X2_setSum : g_M yX2_setSum cX2_setSum 4 none 2 := ⟨tw_2_140, tw_1_3, by decide +kernel, Or.inl (by decide +kernel)⟩
set_option maxHeartbeats 4000000 in
set_option maxRecDepth 100000 in
theorem c_X2_setSum {l : Launch} {E : gE} {G : gG} {n : Nat} {th : Nat} {a1 : Nat} {a2 : Nat} {Gr : gG} (h : f_X2_setSum G th a1 a2 = some Gr) : g_Met l yX2_setSum cX2_setSum 4 none rm_X2_setSum E G n [.ref th, .ref a1, .ref a2] none Gr n := by
  refine g_ofW gm_X2_setSum (Nat.le_of_ble_eq_true rfl) ?_
  intro p e s m below meth c ls X hl hI
  have hx := X.1
  have hb := X.2.1
  have X : g_X E G n p s m _ meth c cX2_setSum 4 RX2 "setSum" none := X
  have hl : lv_has ls 4 [(0, .ref th), (1, .ref a1), (2, .ref a2)] := hl
  unfold f_X2_setSum at h
  refine lv_aload_n hx hb dX2_setSum_0 rfl (lv_at hl 1 rfl) ?_
  obtain ⟨v1, ev1, h⟩ := gb_s h
  refine g_get X hI (g_fI_s ev1) (C := RX2) (T := TX2) (N := 4) rfl gu_X2 (by decide) tw_1_34 dX2_setSum_1 ?_
  refine lv_aload_n hx hb dX2_setSum_4 rfl (lv_at hl 2 rfl) ?_
  obtain ⟨v2, ev2, h⟩ := gb_s h
  refine g_get X hI (g_fI_s ev2) (C := RX2) (T := TX2) (N := 4) rfl gu_X2 (by decide) tw_1_34 dX2_setSum_5 ?_
  refine lv_icmp_eq (tgt := 15) hx hb dX2_setSum_8 (by decide) (fun c => ?_) (fun c => ?_)
  · have h := g_t _ c h
    refine lv_iconst (v := 0) hx hb dX2_setSum_15 (by decide) ?_
    exact b_X2_setSum_16 X hI h (lv_sub hl [0, 1, 2] rfl)
  · have h := g_f _ c h
    refine lv_iconst (v := 1) hx hb dX2_setSum_11 (by decide) ?_
    refine lv_goto (tgt := 16) hx hb dX2_setSum_12 (by decide) ?_
    exact b_X2_setSum_16 X hI h (lv_sub hl [0, 1, 2] rfl)
abbrev rm_X2_setFiniteProduct : Room := { frames := 1, cells := 0, slots := 0, locals := 25 }
def f_X2_setFiniteProduct (G : gG) (th : Nat) (a1 : Int32) (a2 : Nat) (a3 : Nat) : Option gG :=
  gl (((g_lshl 1 27) - 1) : Int64) fun v1 =>
  gb (g_fL G a2 1 2) fun v2 =>
  gl ((g_lushr v2 10) : Int64) fun v3 =>
  gb (g_fL G a3 1 2) fun v4 =>
  gl ((g_lushr v4 10) : Int64) fun v5 =>
  gl ((((g_lushr v3 27) * (v5 &&& v1)) + ((v3 &&& v1) * (g_lushr v5 27))) : Int64) fun v6 =>
  gl ((((v3 &&& v1) * (v5 &&& v1)) + (g_lshl (v6 &&& v1) 27)) : Int64) fun v7 =>
  gl (((((g_lushr v3 27) * (g_lushr v5 27)) + (g_lushr v6 27)) + (g_lushr v7 ((2 : Int32) * 27))) : Int64) fun v8 =>
  gl ((v7 &&& ((g_lshl 1 ((2 : Int32) * 27)) - 1)) : Int64) fun v9 =>
  gl ((((2 : Int32) * 27) - 10) : Int32) fun v10 =>
  gl (((g_lshl v8 10) ||| (f_X2_shiftedWithTrace v9 v10)) : Int64) fun v11 =>
  gb (g_fI G a2 1 3) fun v12 =>
  gb (g_fI G a3 1 3) fun v13 =>
  gck (g_isO G th 1) <|
  gb (f_X2_setFinite G th a1 v11 (((v12 + v13) + 20) + v10)) fun G14 =>
  some G14
theorem gm_X2_setFiniteProduct : g_M yX2_setFiniteProduct cX2_setFiniteProduct 22 none 3 := ⟨tw_2_159, tw_1_3, by decide +kernel, Or.inl (by decide +kernel)⟩
set_option maxHeartbeats 4000000 in
set_option maxRecDepth 100000 in
theorem c_X2_setFiniteProduct {l : Launch} {E : gE} {G : gG} {n : Nat} {th : Nat} {a1 : Int32} {a2 : Nat} {a3 : Nat} {Gr : gG} (h : f_X2_setFiniteProduct G th a1 a2 a3 = some Gr) : g_Met l yX2_setFiniteProduct cX2_setFiniteProduct 22 none rm_X2_setFiniteProduct E G n [.ref th, .int a1, .ref a2, .ref a3] none Gr n := by
  refine g_ofW gm_X2_setFiniteProduct (Nat.le_of_ble_eq_true rfl) ?_
  intro p e s m below meth c ls X hl hI
  have hx := X.1
  have hb := X.2.1
  have X : g_X E G n p s m _ meth c cX2_setFiniteProduct 22 RX2 "setFiniteProduct" none := X
  have hl : lv_has ls 22 [(0, .ref th), (1, .int a1), (2, .ref a2), (3, .ref a3)] := hl
  unfold f_X2_setFiniteProduct at h
  refine lv_bipush (v := 27) hx hb dX2_setFiniteProduct_0 (by decide) ?_
  refine lv_istore (lv' := [(4, .int 27), (0, .ref th), (1, .int a1), (2, .ref a2), (3, .ref a3)]) hx hb dX2_setFiniteProduct_2 hl (by decide) rfl (fun ls hl => ?_)
  refine lv_lconst (v := 1) hx hb dX2_setFiniteProduct_4 (by decide) ?_
  refine lv_iload hx hb dX2_setFiniteProduct_5 (lv_at hl 0 rfl) ?_
  refine lv_lshl (v := (g_lshl 1 27)) hx hb dX2_setFiniteProduct_7 rfl ?_
  refine lv_lconst (v := 1) hx hb dX2_setFiniteProduct_8 (by decide) ?_
  refine lv_lsub (x := (g_lshl 1 27)) (y := 1) hx hb dX2_setFiniteProduct_9 ?_
  obtain ⟨v1, ev1, h⟩ := gl_s h
  refine g_topl ev1 ?_
  refine lv_lstore (lv' := [(5, .long v1), (4, .int 27), (0, .ref th), (1, .int a1), (2, .ref a2), (3, .ref a3)]) hx hb dX2_setFiniteProduct_10 hl (by decide) rfl (fun ls hl => ?_)
  refine lv_aload_n hx hb dX2_setFiniteProduct_12 rfl (lv_at hl 4 rfl) ?_
  obtain ⟨v2, ev2, h⟩ := gb_s h
  refine g_get X hI (g_fL_s ev2) (C := RX2) (T := TX2) (N := 4) rfl gu_X2 (by decide) tw_1_36 dX2_setFiniteProduct_13 ?_
  refine lv_bipush (v := 10) hx hb dX2_setFiniteProduct_16 (by decide) ?_
  refine lv_lushr (v := (g_lushr v2 10)) hx hb dX2_setFiniteProduct_18 rfl ?_
  obtain ⟨v3, ev3, h⟩ := gl_s h
  refine g_topl ev3 ?_
  refine lv_lstore (lv' := [(7, .long v3), (5, .long v1), (4, .int 27), (0, .ref th), (1, .int a1), (2, .ref a2), (3, .ref a3)]) hx hb dX2_setFiniteProduct_19 hl (by decide) rfl (fun ls hl => ?_)
  refine lv_aload_n hx hb dX2_setFiniteProduct_21 rfl (lv_at hl 6 rfl) ?_
  obtain ⟨v4, ev4, h⟩ := gb_s h
  refine g_get X hI (g_fL_s ev4) (C := RX2) (T := TX2) (N := 4) rfl gu_X2 (by decide) tw_1_36 dX2_setFiniteProduct_22 ?_
  refine lv_bipush (v := 10) hx hb dX2_setFiniteProduct_25 (by decide) ?_
  refine lv_lushr (v := (g_lushr v4 10)) hx hb dX2_setFiniteProduct_27 rfl ?_
  obtain ⟨v5, ev5, h⟩ := gl_s h
  refine g_topl ev5 ?_
  refine lv_lstore (lv' := [(9, .long v5), (7, .long v3), (5, .long v1), (4, .int 27), (0, .ref th), (1, .int a1), (2, .ref a2), (3, .ref a3)]) hx hb dX2_setFiniteProduct_28 hl (by decide) rfl (fun ls hl => ?_)
  refine lv_lload hx hb dX2_setFiniteProduct_30 (lv_at hl 1 rfl) ?_
  refine lv_iload hx hb dX2_setFiniteProduct_32 (lv_at hl 3 rfl) ?_
  refine lv_lushr (v := (g_lushr v3 27)) hx hb dX2_setFiniteProduct_34 rfl ?_
  refine lv_lload hx hb dX2_setFiniteProduct_35 (lv_at hl 0 rfl) ?_
  refine lv_lload hx hb dX2_setFiniteProduct_37 (lv_at hl 2 rfl) ?_
  refine lv_land (x := v5) (y := v1) hx hb dX2_setFiniteProduct_39 ?_
  refine lv_lmul (x := (g_lushr v3 27)) (y := (v5 &&& v1)) hx hb dX2_setFiniteProduct_40 ?_
  refine lv_lload hx hb dX2_setFiniteProduct_41 (lv_at hl 1 rfl) ?_
  refine lv_lload hx hb dX2_setFiniteProduct_43 (lv_at hl 2 rfl) ?_
  refine lv_land (x := v3) (y := v1) hx hb dX2_setFiniteProduct_45 ?_
  refine lv_lload hx hb dX2_setFiniteProduct_46 (lv_at hl 0 rfl) ?_
  refine lv_iload hx hb dX2_setFiniteProduct_48 (lv_at hl 3 rfl) ?_
  refine lv_lushr (v := (g_lushr v5 27)) hx hb dX2_setFiniteProduct_50 rfl ?_
  refine lv_lmul (x := (v3 &&& v1)) (y := (g_lushr v5 27)) hx hb dX2_setFiniteProduct_51 ?_
  refine lv_ladd (x := ((g_lushr v3 27) * (v5 &&& v1))) (y := ((v3 &&& v1) * (g_lushr v5 27))) hx hb dX2_setFiniteProduct_52 ?_
  obtain ⟨v6, ev6, h⟩ := gl_s h
  refine g_topl ev6 ?_
  refine lv_lstore (lv' := [(11, .long v6), (9, .long v5), (7, .long v3), (5, .long v1), (4, .int 27), (0, .ref th), (1, .int a1), (2, .ref a2), (3, .ref a3)]) hx hb dX2_setFiniteProduct_53 hl (by decide) rfl (fun ls hl => ?_)
  refine lv_lload hx hb dX2_setFiniteProduct_55 (lv_at hl 2 rfl) ?_
  refine lv_lload hx hb dX2_setFiniteProduct_57 (lv_at hl 3 rfl) ?_
  refine lv_land (x := v3) (y := v1) hx hb dX2_setFiniteProduct_59 ?_
  refine lv_lload hx hb dX2_setFiniteProduct_60 (lv_at hl 1 rfl) ?_
  refine lv_lload hx hb dX2_setFiniteProduct_62 (lv_at hl 3 rfl) ?_
  refine lv_land (x := v5) (y := v1) hx hb dX2_setFiniteProduct_64 ?_
  refine lv_lmul (x := (v3 &&& v1)) (y := (v5 &&& v1)) hx hb dX2_setFiniteProduct_65 ?_
  refine lv_lload hx hb dX2_setFiniteProduct_66 (lv_at hl 0 rfl) ?_
  refine lv_lload hx hb dX2_setFiniteProduct_68 (lv_at hl 3 rfl) ?_
  refine lv_land (x := v6) (y := v1) hx hb dX2_setFiniteProduct_70 ?_
  refine lv_iload hx hb dX2_setFiniteProduct_71 (lv_at hl 4 rfl) ?_
  refine lv_lshl (v := (g_lshl (v6 &&& v1) 27)) hx hb dX2_setFiniteProduct_73 rfl ?_
  refine lv_ladd (x := ((v3 &&& v1) * (v5 &&& v1))) (y := (g_lshl (v6 &&& v1) 27)) hx hb dX2_setFiniteProduct_74 ?_
  obtain ⟨v7, ev7, h⟩ := gl_s h
  refine g_topl ev7 ?_
  refine lv_lstore (lv' := [(13, .long v7), (11, .long v6), (9, .long v5), (7, .long v3), (5, .long v1), (4, .int 27), (0, .ref th), (1, .int a1), (2, .ref a2), (3, .ref a3)]) hx hb dX2_setFiniteProduct_75 hl (by decide) rfl (fun ls hl => ?_)
  refine lv_lload hx hb dX2_setFiniteProduct_77 (lv_at hl 3 rfl) ?_
  refine lv_iload hx hb dX2_setFiniteProduct_79 (lv_at hl 5 rfl) ?_
  refine lv_lushr (v := (g_lushr v3 27)) hx hb dX2_setFiniteProduct_81 rfl ?_
  refine lv_lload hx hb dX2_setFiniteProduct_82 (lv_at hl 2 rfl) ?_
  refine lv_iload hx hb dX2_setFiniteProduct_84 (lv_at hl 5 rfl) ?_
  refine lv_lushr (v := (g_lushr v5 27)) hx hb dX2_setFiniteProduct_86 rfl ?_
  refine lv_lmul (x := (g_lushr v3 27)) (y := (g_lushr v5 27)) hx hb dX2_setFiniteProduct_87 ?_
  refine lv_lload hx hb dX2_setFiniteProduct_88 (lv_at hl 1 rfl) ?_
  refine lv_iload hx hb dX2_setFiniteProduct_90 (lv_at hl 5 rfl) ?_
  refine lv_lushr (v := (g_lushr v6 27)) hx hb dX2_setFiniteProduct_92 rfl ?_
  refine lv_ladd (x := ((g_lushr v3 27) * (g_lushr v5 27))) (y := (g_lushr v6 27)) hx hb dX2_setFiniteProduct_93 ?_
  refine lv_lload hx hb dX2_setFiniteProduct_94 (lv_at hl 0 rfl) ?_
  refine lv_iconst (v := 2) hx hb dX2_setFiniteProduct_96 (by decide) ?_
  refine lv_iload hx hb dX2_setFiniteProduct_97 (lv_at hl 5 rfl) ?_
  refine lv_imul (x := 2) (y := 27) hx hb dX2_setFiniteProduct_99 ?_
  refine lv_lushr (v := (g_lushr v7 ((2 : Int32) * 27))) hx hb dX2_setFiniteProduct_100 rfl ?_
  refine lv_ladd (x := (((g_lushr v3 27) * (g_lushr v5 27)) + (g_lushr v6 27))) (y := (g_lushr v7 ((2 : Int32) * 27))) hx hb dX2_setFiniteProduct_101 ?_
  obtain ⟨v8, ev8, h⟩ := gl_s h
  refine g_topl ev8 ?_
  refine lv_lstore (lv' := [(15, .long v8), (13, .long v7), (11, .long v6), (9, .long v5), (7, .long v3), (5, .long v1), (4, .int 27), (0, .ref th), (1, .int a1), (2, .ref a2), (3, .ref a3)]) hx hb dX2_setFiniteProduct_102 hl (by decide) rfl (fun ls hl => ?_)
  refine lv_lload hx hb dX2_setFiniteProduct_104 (lv_at hl 1 rfl) ?_
  refine lv_lconst (v := 1) hx hb dX2_setFiniteProduct_106 (by decide) ?_
  refine lv_iconst (v := 2) hx hb dX2_setFiniteProduct_107 (by decide) ?_
  refine lv_iload hx hb dX2_setFiniteProduct_108 (lv_at hl 6 rfl) ?_
  refine lv_imul (x := 2) (y := 27) hx hb dX2_setFiniteProduct_110 ?_
  refine lv_lshl (v := (g_lshl 1 ((2 : Int32) * 27))) hx hb dX2_setFiniteProduct_111 rfl ?_
  refine lv_lconst (v := 1) hx hb dX2_setFiniteProduct_112 (by decide) ?_
  refine lv_lsub (x := (g_lshl 1 ((2 : Int32) * 27))) (y := 1) hx hb dX2_setFiniteProduct_113 ?_
  refine lv_land (x := v7) (y := ((g_lshl 1 ((2 : Int32) * 27)) - 1)) hx hb dX2_setFiniteProduct_114 ?_
  obtain ⟨v9, ev9, h⟩ := gl_s h
  refine g_topl ev9 ?_
  refine lv_lstore (lv' := [(17, .long v9), (15, .long v8), (13, .long v7), (11, .long v6), (9, .long v5), (7, .long v3), (5, .long v1), (4, .int 27), (0, .ref th), (1, .int a1), (2, .ref a2), (3, .ref a3)]) hx hb dX2_setFiniteProduct_115 hl (by decide) rfl (fun ls hl => ?_)
  refine lv_iconst (v := 2) hx hb dX2_setFiniteProduct_117 (by decide) ?_
  refine lv_iload hx hb dX2_setFiniteProduct_118 (lv_at hl 7 rfl) ?_
  refine lv_imul (x := 2) (y := 27) hx hb dX2_setFiniteProduct_120 ?_
  refine lv_bipush (v := 10) hx hb dX2_setFiniteProduct_121 (by decide) ?_
  refine lv_isub (x := ((2 : Int32) * 27)) (y := 10) hx hb dX2_setFiniteProduct_123 ?_
  obtain ⟨v10, ev10, h⟩ := gl_s h
  refine g_topi ev10 ?_
  refine lv_istore (lv' := [(19, .int v10), (17, .long v9), (15, .long v8), (13, .long v7), (11, .long v6), (9, .long v5), (7, .long v3), (5, .long v1), (4, .int 27), (0, .ref th), (1, .int a1), (2, .ref a2), (3, .ref a3)]) hx hb dX2_setFiniteProduct_124 hl (by decide) rfl (fun ls hl => ?_)
  refine lv_lload hx hb dX2_setFiniteProduct_126 (lv_at hl 2 rfl) ?_
  refine lv_bipush (v := 10) hx hb dX2_setFiniteProduct_128 (by decide) ?_
  refine lv_lshl (v := (g_lshl v8 10)) hx hb dX2_setFiniteProduct_130 rfl ?_
  refine lv_lload hx hb dX2_setFiniteProduct_131 (lv_at hl 1 rfl) ?_
  refine lv_iload hx hb dX2_setFiniteProduct_133 (lv_at hl 0 rfl) ?_
  refine g_callS X hI (av := [.long v9, .int v10]) (c_X2_shiftedWithTrace v9 v10) gm_X2_shiftedWithTrace tw_2_149 tw_2_150 ⟨by decide, by decide⟩ hl.1 (rest := [.long (g_lshl v8 10)]) rfl (Nat.le_of_ble_eq_true rfl) dX2_setFiniteProduct_135 ⟨by decide, by decide⟩ (st1 := [.long (f_X2_shiftedWithTrace v9 v10), .long (g_lshl v8 10)]) rfl (cells' := 0) (slots' := 0) rfl rfl (fun H locs hI => ?_)
  refine lv_lor (x := (g_lshl v8 10)) (y := (f_X2_shiftedWithTrace v9 v10)) hx hb dX2_setFiniteProduct_138 ?_
  obtain ⟨v11, ev11, h⟩ := gl_s h
  refine g_topl ev11 ?_
  refine lv_lstore (lv' := [(20, .long v11), (19, .int v10), (17, .long v9), (15, .long v8), (13, .long v7), (11, .long v6), (9, .long v5), (7, .long v3), (5, .long v1), (4, .int 27), (0, .ref th), (1, .int a1), (2, .ref a2), (3, .ref a3)]) hx hb dX2_setFiniteProduct_139 hl (by decide) rfl (fun ls hl => ?_)
  refine lv_aload_n hx hb dX2_setFiniteProduct_141 rfl (lv_at hl 10 rfl) ?_
  refine lv_iload_n hx hb dX2_setFiniteProduct_142 rfl (lv_at hl 11 rfl) ?_
  refine lv_lload hx hb dX2_setFiniteProduct_143 (lv_at hl 0 rfl) ?_
  refine lv_aload_n hx hb dX2_setFiniteProduct_145 rfl (lv_at hl 12 rfl) ?_
  obtain ⟨v12, ev12, h⟩ := gb_s h
  refine g_get X hI (g_fI_s ev12) (C := RX2) (T := TX2) (N := 4) rfl gu_X2 (by decide) tw_1_37 dX2_setFiniteProduct_146 ?_
  refine lv_aload_n hx hb dX2_setFiniteProduct_149 rfl (lv_at hl 13 rfl) ?_
  obtain ⟨v13, ev13, h⟩ := gb_s h
  refine g_get X hI (g_fI_s ev13) (C := RX2) (T := TX2) (N := 4) rfl gu_X2 (by decide) tw_1_37 dX2_setFiniteProduct_150 ?_
  refine lv_iadd (x := v12) (y := v13) hx hb dX2_setFiniteProduct_153 ?_
  refine lv_bipush (v := 20) hx hb dX2_setFiniteProduct_154 (by decide) ?_
  refine lv_iadd (x := (v12 + v13)) (y := 20) hx hb dX2_setFiniteProduct_156 ?_
  refine lv_iload hx hb dX2_setFiniteProduct_157 (lv_at hl 1 rfl) ?_
  refine lv_iadd (x := ((v12 + v13) + 20)) (y := v10) hx hb dX2_setFiniteProduct_159 ?_
  obtain ⟨cO, h⟩ := gck_s h
  obtain ⟨G14, eG14, h⟩ := gb_s h
  refine g_callV X hI (q := (RX2, TX2, 4)) (b := th) (av := [.int a1, .long v11, .int (((v12 + v13) + 20) + v10)]) cO rfl (c_X2_setFinite eG14) gm_X2_setFinite tw_2_58 tw_2_60 tw_p_9 ⟨by decide, by decide⟩ hl.1 (rest := []) rfl (Nat.le_of_ble_eq_true rfl) dX2_setFiniteProduct_160 ⟨by decide, by decide⟩ (st1 := []) rfl (cells' := 0) (slots' := 0) rfl rfl (fun H locs hI => ?_)
  have h := Option.some.inj h
  subst h
  exact g_vret X hI dX2_setFiniteProduct_163
abbrev rm_X2_setProduct : Room := { frames := 2, cells := 0, slots := 0, locals := 66 }
def f_X2_setProduct_117 (G : gG) (x3 : Int32) (s0 : Int32) (s1 : Nat) : Option gG :=
  gck (g_isO G s1 1) <|
  gb (f_X2_setKind G s1 s0 x3) fun G1 =>
  some G1
set_option maxHeartbeats 4000000 in
set_option maxRecDepth 100000 in
theorem b_X2_setProduct_117 {p : Program} {l : Launch} {e : Env} {s : State} {m : MethodId} {args : Array Value} {below : List Frame} {meth : Method} {c : Code} {E : gE} {G0 : gG} {n0 : Nat} (X : g_X E G0 n0 p s m args meth c cX2_setProduct 6 RX2 "setProduct" none) {G : gG} {n : Nat} {Gr : gG} {H : Heap} {locs : List Loc} (hI : g_I E (g_A G0 n0) G n s.heap H locs) {x3 : Int32} {s0 : Int32} {s1 : Nat} (h : f_X2_setProduct_117 G x3 s0 s1 = some Gr) {ls : Array Slot} (hl : lv_has ls 6 [(3, .int x3)]) : W p l e rm_X2_setProduct s m args below meth c H locs 0 0 (MQ below (g_Q E G0 n0 none Gr n) args s rm_X2_setProduct.cells rm_X2_setProduct.slots (g_A G0 n0)) (F0 m 117 ls [.int s0, .ref s1]) := by
  have hx := X.1
  have hb := X.2.1
  unfold f_X2_setProduct_117 at h
  refine lv_iload_n hx hb dX2_setProduct_117 rfl (lv_at hl 0 rfl) ?_
  obtain ⟨cO, h⟩ := gck_s h
  obtain ⟨G1, eG1, h⟩ := gb_s h
  refine g_callV X hI (q := (RX2, TX2, 4)) (b := s1) (av := [.int s0, .int x3]) cO rfl (c_X2_setKind eG1) gm_X2_setKind tw_2_54 tw_2_56 tw_p_8 ⟨by decide, by decide⟩ hl.1 (rest := []) rfl (Nat.le_of_ble_eq_true rfl) dX2_setProduct_118 ⟨by decide, by decide⟩ (st1 := []) rfl (cells' := 0) (slots' := 0) rfl rfl (fun H locs hI => ?_)
  refine lv_goto (tgt := 131) hx hb dX2_setProduct_121 (by decide) ?_
  have h := Option.some.inj h
  subst h
  exact g_vret X hI dX2_setProduct_131
def f_X2_setProduct_106 (G : gG) (x0 : Nat) (x3 : Int32) (x4 : Int32) : Option gG :=
  if x4 = 0 then
    f_X2_setProduct_117 G x3 2 x0
  else
  f_X2_setProduct_117 G x3 0 x0
set_option maxHeartbeats 4000000 in
set_option maxRecDepth 100000 in
theorem b_X2_setProduct_106 {p : Program} {l : Launch} {e : Env} {s : State} {m : MethodId} {args : Array Value} {below : List Frame} {meth : Method} {c : Code} {E : gE} {G0 : gG} {n0 : Nat} (X : g_X E G0 n0 p s m args meth c cX2_setProduct 6 RX2 "setProduct" none) {G : gG} {n : Nat} {Gr : gG} {H : Heap} {locs : List Loc} (hI : g_I E (g_A G0 n0) G n s.heap H locs) {x0 : Nat} {x3 : Int32} {x4 : Int32} (h : f_X2_setProduct_106 G x0 x3 x4 = some Gr) {ls : Array Slot} (hl : lv_has ls 6 [(0, .ref x0), (3, .int x3), (4, .int x4)]) : W p l e rm_X2_setProduct s m args below meth c H locs 0 0 (MQ below (g_Q E G0 n0 none Gr n) args s rm_X2_setProduct.cells rm_X2_setProduct.slots (g_A G0 n0)) (F0 m 106 ls []) := by
  have hx := X.1
  have hb := X.2.1
  unfold f_X2_setProduct_106 at h
  refine lv_aload_n hx hb dX2_setProduct_106 rfl (lv_at hl 0 rfl) ?_
  refine lv_iload hx hb dX2_setProduct_107 (lv_at hl 2 rfl) ?_
  refine lv_if_eq (tgt := 116) hx hb dX2_setProduct_109 (by decide) (fun c => ?_) (fun c => ?_)
  · have h := g_t _ c h
    refine lv_iconst (v := 2) hx hb dX2_setProduct_116 (by decide) ?_
    exact b_X2_setProduct_117 X hI h (lv_sub hl [1] rfl)
  · have h := g_f _ c h
    refine lv_iconst (v := 0) hx hb dX2_setProduct_112 (by decide) ?_
    refine lv_goto (tgt := 117) hx hb dX2_setProduct_113 (by decide) ?_
    exact b_X2_setProduct_117 X hI h (lv_sub hl [1] rfl)
def f_X2_setProduct_96 (G : gG) (x0 : Nat) (x1 : Nat) (x2 : Nat) (x3 : Int32) (x4 : Int32) (x5 : Int32) : Option gG :=
  if x4 = 0 then
    if x5 = 0 then
      gck (g_isO G x0 1) <|
      gb (f_X2_setFiniteProduct G x0 x3 x1 x2) fun G1 =>
      some G1
    else
    f_X2_setProduct_106 G x0 x3 x4
  else
  f_X2_setProduct_106 G x0 x3 x4
set_option maxHeartbeats 4000000 in
set_option maxRecDepth 100000 in
theorem b_X2_setProduct_96 {p : Program} {l : Launch} {e : Env} {s : State} {m : MethodId} {args : Array Value} {below : List Frame} {meth : Method} {c : Code} {E : gE} {G0 : gG} {n0 : Nat} (X : g_X E G0 n0 p s m args meth c cX2_setProduct 6 RX2 "setProduct" none) {G : gG} {n : Nat} {Gr : gG} {H : Heap} {locs : List Loc} (hI : g_I E (g_A G0 n0) G n s.heap H locs) {x0 : Nat} {x1 : Nat} {x2 : Nat} {x3 : Int32} {x4 : Int32} {x5 : Int32} (h : f_X2_setProduct_96 G x0 x1 x2 x3 x4 x5 = some Gr) {ls : Array Slot} (hl : lv_has ls 6 [(0, .ref x0), (1, .ref x1), (2, .ref x2), (3, .int x3), (4, .int x4), (5, .int x5)]) : W p l e rm_X2_setProduct s m args below meth c H locs 0 0 (MQ below (g_Q E G0 n0 none Gr n) args s rm_X2_setProduct.cells rm_X2_setProduct.slots (g_A G0 n0)) (F0 m 96 ls []) := by
  have hx := X.1
  have hb := X.2.1
  unfold f_X2_setProduct_96 at h
  refine lv_iload hx hb dX2_setProduct_96 (lv_at hl 4 rfl) ?_
  refine lv_if_ne (tgt := 106) hx hb dX2_setProduct_98 (by decide) (fun c => ?_) (fun c => ?_)
  · have h := g_f _ c h
    exact b_X2_setProduct_106 X hI h (lv_sub hl [0, 3, 4] rfl)
  · have h := g_t _ c h
    refine lv_iload hx hb dX2_setProduct_101 (lv_at hl 5 rfl) ?_
    refine lv_if_eq (tgt := 124) hx hb dX2_setProduct_103 (by decide) (fun c => ?_) (fun c => ?_)
    · have h := g_t _ c h
      refine lv_aload_n hx hb dX2_setProduct_124 rfl (lv_at hl 0 rfl) ?_
      refine lv_iload_n hx hb dX2_setProduct_125 rfl (lv_at hl 3 rfl) ?_
      refine lv_aload_n hx hb dX2_setProduct_126 rfl (lv_at hl 1 rfl) ?_
      refine lv_aload_n hx hb dX2_setProduct_127 rfl (lv_at hl 2 rfl) ?_
      obtain ⟨cO, h⟩ := gck_s h
      obtain ⟨G1, eG1, h⟩ := gb_s h
      refine g_callV X hI (q := (RX2, TX2, 4)) (b := x0) (av := [.int x3, .ref x1, .ref x2]) cO rfl (c_X2_setFiniteProduct eG1) gm_X2_setFiniteProduct tw_2_156 tw_2_158 tw_p_13 ⟨by decide, by decide⟩ hl.1 (rest := []) rfl (Nat.le_of_ble_eq_true rfl) dX2_setProduct_128 ⟨by decide, by decide⟩ (st1 := []) rfl (cells' := 0) (slots' := 0) rfl rfl (fun H locs hI => ?_)
      have h := Option.some.inj h
      subst h
      exact g_vret X hI dX2_setProduct_131
    · have h := g_f _ c h
      exact b_X2_setProduct_106 X hI h (lv_sub hl [0, 3, 4] rfl)
def f_X2_setProduct_87 (G : gG) (x0 : Nat) : Option gG :=
  gck (g_isO G x0 1) <|
  gb (f_X2_setKind G x0 (3 : Int32) (0 : Int32)) fun G1 =>
  some G1
set_option maxHeartbeats 4000000 in
set_option maxRecDepth 100000 in
theorem b_X2_setProduct_87 {p : Program} {l : Launch} {e : Env} {s : State} {m : MethodId} {args : Array Value} {below : List Frame} {meth : Method} {c : Code} {E : gE} {G0 : gG} {n0 : Nat} (X : g_X E G0 n0 p s m args meth c cX2_setProduct 6 RX2 "setProduct" none) {G : gG} {n : Nat} {Gr : gG} {H : Heap} {locs : List Loc} (hI : g_I E (g_A G0 n0) G n s.heap H locs) {x0 : Nat} (h : f_X2_setProduct_87 G x0 = some Gr) {ls : Array Slot} (hl : lv_has ls 6 [(0, .ref x0)]) : W p l e rm_X2_setProduct s m args below meth c H locs 0 0 (MQ below (g_Q E G0 n0 none Gr n) args s rm_X2_setProduct.cells rm_X2_setProduct.slots (g_A G0 n0)) (F0 m 87 ls []) := by
  have hx := X.1
  have hb := X.2.1
  unfold f_X2_setProduct_87 at h
  refine lv_aload_n hx hb dX2_setProduct_87 rfl (lv_at hl 0 rfl) ?_
  refine lv_iconst (v := 3) hx hb dX2_setProduct_88 (by decide) ?_
  refine lv_iconst (v := 0) hx hb dX2_setProduct_89 (by decide) ?_
  obtain ⟨cO, h⟩ := gck_s h
  obtain ⟨G1, eG1, h⟩ := gb_s h
  refine g_callV X hI (q := (RX2, TX2, 4)) (b := x0) (av := [.int 3, .int 0]) cO rfl (c_X2_setKind eG1) gm_X2_setKind tw_2_54 tw_2_56 tw_p_8 ⟨by decide, by decide⟩ hl.1 (rest := []) rfl (Nat.le_of_ble_eq_true rfl) dX2_setProduct_90 ⟨by decide, by decide⟩ (st1 := []) rfl (cells' := 0) (slots' := 0) rfl rfl (fun H locs hI => ?_)
  refine lv_goto (tgt := 131) hx hb dX2_setProduct_93 (by decide) ?_
  have h := Option.some.inj h
  subst h
  exact g_vret X hI dX2_setProduct_131
def f_X2_setProduct_59 (G : gG) (x0 : Nat) (x1 : Nat) (x2 : Nat) (x3 : Int32) (x4 : Int32) (s0 : Int32) : Option gG :=
  gb (g_fI G x1 1 0) fun v1 =>
  if v1 = 3 then
    f_X2_setProduct_87 G x0
  else
  gb (g_fI G x2 1 0) fun v2 =>
  if v2 = 3 then
    f_X2_setProduct_87 G x0
  else
  if x4 = 0 then
    f_X2_setProduct_96 G x0 x1 x2 x3 x4 s0
  else
  if s0 = 0 then
    f_X2_setProduct_96 G x0 x1 x2 x3 x4 s0
  else
  f_X2_setProduct_87 G x0
set_option maxHeartbeats 4000000 in
set_option maxRecDepth 100000 in
theorem b_X2_setProduct_59 {p : Program} {l : Launch} {e : Env} {s : State} {m : MethodId} {args : Array Value} {below : List Frame} {meth : Method} {c : Code} {E : gE} {G0 : gG} {n0 : Nat} (X : g_X E G0 n0 p s m args meth c cX2_setProduct 6 RX2 "setProduct" none) {G : gG} {n : Nat} {Gr : gG} {H : Heap} {locs : List Loc} (hI : g_I E (g_A G0 n0) G n s.heap H locs) {x0 : Nat} {x1 : Nat} {x2 : Nat} {x3 : Int32} {x4 : Int32} {s0 : Int32} (h : f_X2_setProduct_59 G x0 x1 x2 x3 x4 s0 = some Gr) {ls : Array Slot} (hl : lv_has ls 6 [(0, .ref x0), (1, .ref x1), (2, .ref x2), (3, .int x3), (4, .int x4)]) : W p l e rm_X2_setProduct s m args below meth c H locs 0 0 (MQ below (g_Q E G0 n0 none Gr n) args s rm_X2_setProduct.cells rm_X2_setProduct.slots (g_A G0 n0)) (F0 m 59 ls [.int s0]) := by
  have hx := X.1
  have hb := X.2.1
  unfold f_X2_setProduct_59 at h
  refine lv_istore (lv' := [(5, .int s0), (0, .ref x0), (1, .ref x1), (2, .ref x2), (3, .int x3), (4, .int x4)]) hx hb dX2_setProduct_59 hl (by decide) rfl (fun ls hl => ?_)
  refine lv_aload_n hx hb dX2_setProduct_61 rfl (lv_at hl 2 rfl) ?_
  obtain ⟨v1, ev1, h⟩ := gb_s h
  refine g_get X hI (g_fI_s ev1) (C := RX2) (T := TX2) (N := 4) rfl gu_X2 (by decide) tw_1_32 dX2_setProduct_62 ?_
  refine lv_iconst (v := 3) hx hb dX2_setProduct_65 (by decide) ?_
  refine lv_icmp_eq (tgt := 87) hx hb dX2_setProduct_66 (by decide) (fun c => ?_) (fun c => ?_)
  · have h := g_t _ c h
    exact b_X2_setProduct_87 X hI h (lv_sub hl [1] rfl)
  · have h := g_f _ c h
    refine lv_aload_n hx hb dX2_setProduct_69 rfl (lv_at hl 3 rfl) ?_
    obtain ⟨v2, ev2, h⟩ := gb_s h
    refine g_get X hI (g_fI_s ev2) (C := RX2) (T := TX2) (N := 4) rfl gu_X2 (by decide) tw_1_32 dX2_setProduct_70 ?_
    refine lv_iconst (v := 3) hx hb dX2_setProduct_73 (by decide) ?_
    refine lv_icmp_eq (tgt := 87) hx hb dX2_setProduct_74 (by decide) (fun c => ?_) (fun c => ?_)
    · have h := g_t _ c h
      exact b_X2_setProduct_87 X hI h (lv_sub hl [1] rfl)
    · have h := g_f _ c h
      refine lv_iload hx hb dX2_setProduct_77 (lv_at hl 5 rfl) ?_
      refine lv_if_eq (tgt := 96) hx hb dX2_setProduct_79 (by decide) (fun c => ?_) (fun c => ?_)
      · have h := g_t _ c h
        exact b_X2_setProduct_96 X hI h (lv_sub hl [1, 2, 3, 4, 5, 0] rfl)
      · have h := g_f _ c h
        refine lv_iload hx hb dX2_setProduct_82 (lv_at hl 0 rfl) ?_
        refine lv_if_eq (tgt := 96) hx hb dX2_setProduct_84 (by decide) (fun c => ?_) (fun c => ?_)
        · have h := g_t _ c h
          exact b_X2_setProduct_96 X hI h (lv_sub hl [1, 2, 3, 4, 5, 0] rfl)
        · have h := g_f _ c h
          exact b_X2_setProduct_87 X hI h (lv_sub hl [1] rfl)
def f_X2_setProduct_54 (G : gG) (x0 : Nat) (x1 : Nat) (x2 : Nat) (x3 : Int32) (x4 : Int32) : Option gG :=
  f_X2_setProduct_59 G x0 x1 x2 x3 x4 1
set_option maxHeartbeats 4000000 in
set_option maxRecDepth 100000 in
theorem b_X2_setProduct_54 {p : Program} {l : Launch} {e : Env} {s : State} {m : MethodId} {args : Array Value} {below : List Frame} {meth : Method} {c : Code} {E : gE} {G0 : gG} {n0 : Nat} (X : g_X E G0 n0 p s m args meth c cX2_setProduct 6 RX2 "setProduct" none) {G : gG} {n : Nat} {Gr : gG} {H : Heap} {locs : List Loc} (hI : g_I E (g_A G0 n0) G n s.heap H locs) {x0 : Nat} {x1 : Nat} {x2 : Nat} {x3 : Int32} {x4 : Int32} (h : f_X2_setProduct_54 G x0 x1 x2 x3 x4 = some Gr) {ls : Array Slot} (hl : lv_has ls 6 [(0, .ref x0), (1, .ref x1), (2, .ref x2), (3, .int x3), (4, .int x4)]) : W p l e rm_X2_setProduct s m args below meth c H locs 0 0 (MQ below (g_Q E G0 n0 none Gr n) args s rm_X2_setProduct.cells rm_X2_setProduct.slots (g_A G0 n0)) (F0 m 54 ls []) := by
  have hx := X.1
  have hb := X.2.1
  unfold f_X2_setProduct_54 at h
  refine lv_iconst (v := 1) hx hb dX2_setProduct_54 (by decide) ?_
  refine lv_goto (tgt := 59) hx hb dX2_setProduct_55 (by decide) ?_
  exact b_X2_setProduct_59 X hI h (lv_sub hl [0, 1, 2, 3, 4] rfl)
def f_X2_setProduct_36 (G : gG) (x0 : Nat) (x1 : Nat) (x2 : Nat) (x3 : Int32) (s0 : Int32) : Option gG :=
  gb (g_fI G x1 1 0) fun v1 =>
  if v1 = 2 then
    f_X2_setProduct_54 G x0 x1 x2 x3 s0
  else
  gb (g_fI G x2 1 0) fun v2 =>
  if v2 = 2 then
    f_X2_setProduct_54 G x0 x1 x2 x3 s0
  else
  f_X2_setProduct_59 G x0 x1 x2 x3 s0 0
set_option maxHeartbeats 4000000 in
set_option maxRecDepth 100000 in
theorem b_X2_setProduct_36 {p : Program} {l : Launch} {e : Env} {s : State} {m : MethodId} {args : Array Value} {below : List Frame} {meth : Method} {c : Code} {E : gE} {G0 : gG} {n0 : Nat} (X : g_X E G0 n0 p s m args meth c cX2_setProduct 6 RX2 "setProduct" none) {G : gG} {n : Nat} {Gr : gG} {H : Heap} {locs : List Loc} (hI : g_I E (g_A G0 n0) G n s.heap H locs) {x0 : Nat} {x1 : Nat} {x2 : Nat} {x3 : Int32} {s0 : Int32} (h : f_X2_setProduct_36 G x0 x1 x2 x3 s0 = some Gr) {ls : Array Slot} (hl : lv_has ls 6 [(0, .ref x0), (1, .ref x1), (2, .ref x2), (3, .int x3)]) : W p l e rm_X2_setProduct s m args below meth c H locs 0 0 (MQ below (g_Q E G0 n0 none Gr n) args s rm_X2_setProduct.cells rm_X2_setProduct.slots (g_A G0 n0)) (F0 m 36 ls [.int s0]) := by
  have hx := X.1
  have hb := X.2.1
  unfold f_X2_setProduct_36 at h
  refine lv_istore (lv' := [(4, .int s0), (0, .ref x0), (1, .ref x1), (2, .ref x2), (3, .int x3)]) hx hb dX2_setProduct_36 hl (by decide) rfl (fun ls hl => ?_)
  refine lv_aload_n hx hb dX2_setProduct_38 rfl (lv_at hl 2 rfl) ?_
  obtain ⟨v1, ev1, h⟩ := gb_s h
  refine g_get X hI (g_fI_s ev1) (C := RX2) (T := TX2) (N := 4) rfl gu_X2 (by decide) tw_1_32 dX2_setProduct_39 ?_
  refine lv_iconst (v := 2) hx hb dX2_setProduct_42 (by decide) ?_
  refine lv_icmp_eq (tgt := 54) hx hb dX2_setProduct_43 (by decide) (fun c => ?_) (fun c => ?_)
  · have h := g_t _ c h
    exact b_X2_setProduct_54 X hI h (lv_sub hl [1, 2, 3, 4, 0] rfl)
  · have h := g_f _ c h
    refine lv_aload_n hx hb dX2_setProduct_46 rfl (lv_at hl 3 rfl) ?_
    obtain ⟨v2, ev2, h⟩ := gb_s h
    refine g_get X hI (g_fI_s ev2) (C := RX2) (T := TX2) (N := 4) rfl gu_X2 (by decide) tw_1_32 dX2_setProduct_47 ?_
    refine lv_iconst (v := 2) hx hb dX2_setProduct_50 (by decide) ?_
    refine lv_icmp_ne (tgt := 58) hx hb dX2_setProduct_51 (by decide) (fun c => ?_) (fun c => ?_)
    · have h := g_f _ c h
      refine lv_iconst (v := 0) hx hb dX2_setProduct_58 (by decide) ?_
      exact b_X2_setProduct_59 X hI h (lv_sub hl [1, 2, 3, 4, 0] rfl)
    · have h := g_t _ c h
      exact b_X2_setProduct_54 X hI h (lv_sub hl [1, 2, 3, 4, 0] rfl)
def f_X2_setProduct_31 (G : gG) (x0 : Nat) (x1 : Nat) (x2 : Nat) (x3 : Int32) : Option gG :=
  f_X2_setProduct_36 G x0 x1 x2 x3 1
set_option maxHeartbeats 4000000 in
set_option maxRecDepth 100000 in
theorem b_X2_setProduct_31 {p : Program} {l : Launch} {e : Env} {s : State} {m : MethodId} {args : Array Value} {below : List Frame} {meth : Method} {c : Code} {E : gE} {G0 : gG} {n0 : Nat} (X : g_X E G0 n0 p s m args meth c cX2_setProduct 6 RX2 "setProduct" none) {G : gG} {n : Nat} {Gr : gG} {H : Heap} {locs : List Loc} (hI : g_I E (g_A G0 n0) G n s.heap H locs) {x0 : Nat} {x1 : Nat} {x2 : Nat} {x3 : Int32} (h : f_X2_setProduct_31 G x0 x1 x2 x3 = some Gr) {ls : Array Slot} (hl : lv_has ls 6 [(0, .ref x0), (1, .ref x1), (2, .ref x2), (3, .int x3)]) : W p l e rm_X2_setProduct s m args below meth c H locs 0 0 (MQ below (g_Q E G0 n0 none Gr n) args s rm_X2_setProduct.cells rm_X2_setProduct.slots (g_A G0 n0)) (F0 m 31 ls []) := by
  have hx := X.1
  have hb := X.2.1
  unfold f_X2_setProduct_31 at h
  refine lv_iconst (v := 1) hx hb dX2_setProduct_31 (by decide) ?_
  refine lv_goto (tgt := 36) hx hb dX2_setProduct_32 (by decide) ?_
  exact b_X2_setProduct_36 X hI h (lv_sub hl [0, 1, 2, 3] rfl)
def f_X2_setProduct_16 (G : gG) (x0 : Nat) (x1 : Nat) (x2 : Nat) (s0 : Int32) : Option gG :=
  gb (g_fI G x1 1 0) fun v1 =>
  if v1 = 0 then
    f_X2_setProduct_31 G x0 x1 x2 s0
  else
  gb (g_fI G x2 1 0) fun v2 =>
  if v2 = 0 then
    f_X2_setProduct_31 G x0 x1 x2 s0
  else
  f_X2_setProduct_36 G x0 x1 x2 s0 0
set_option maxHeartbeats 4000000 in
set_option maxRecDepth 100000 in
theorem b_X2_setProduct_16 {p : Program} {l : Launch} {e : Env} {s : State} {m : MethodId} {args : Array Value} {below : List Frame} {meth : Method} {c : Code} {E : gE} {G0 : gG} {n0 : Nat} (X : g_X E G0 n0 p s m args meth c cX2_setProduct 6 RX2 "setProduct" none) {G : gG} {n : Nat} {Gr : gG} {H : Heap} {locs : List Loc} (hI : g_I E (g_A G0 n0) G n s.heap H locs) {x0 : Nat} {x1 : Nat} {x2 : Nat} {s0 : Int32} (h : f_X2_setProduct_16 G x0 x1 x2 s0 = some Gr) {ls : Array Slot} (hl : lv_has ls 6 [(0, .ref x0), (1, .ref x1), (2, .ref x2)]) : W p l e rm_X2_setProduct s m args below meth c H locs 0 0 (MQ below (g_Q E G0 n0 none Gr n) args s rm_X2_setProduct.cells rm_X2_setProduct.slots (g_A G0 n0)) (F0 m 16 ls [.int s0]) := by
  have hx := X.1
  have hb := X.2.1
  unfold f_X2_setProduct_16 at h
  refine lv_istore_n (lv' := [(3, .int s0), (0, .ref x0), (1, .ref x1), (2, .ref x2)]) hx hb dX2_setProduct_16 rfl hl (by decide) rfl (fun ls hl => ?_)
  refine lv_aload_n hx hb dX2_setProduct_17 rfl (lv_at hl 2 rfl) ?_
  obtain ⟨v1, ev1, h⟩ := gb_s h
  refine g_get X hI (g_fI_s ev1) (C := RX2) (T := TX2) (N := 4) rfl gu_X2 (by decide) tw_1_32 dX2_setProduct_18 ?_
  refine lv_if_eq (tgt := 31) hx hb dX2_setProduct_21 (by decide) (fun c => ?_) (fun c => ?_)
  · have h := g_t _ c h
    exact b_X2_setProduct_31 X hI h (lv_sub hl [1, 2, 3, 0] rfl)
  · have h := g_f _ c h
    refine lv_aload_n hx hb dX2_setProduct_24 rfl (lv_at hl 3 rfl) ?_
    obtain ⟨v2, ev2, h⟩ := gb_s h
    refine g_get X hI (g_fI_s ev2) (C := RX2) (T := TX2) (N := 4) rfl gu_X2 (by decide) tw_1_32 dX2_setProduct_25 ?_
    refine lv_if_ne (tgt := 35) hx hb dX2_setProduct_28 (by decide) (fun c => ?_) (fun c => ?_)
    · have h := g_f _ c h
      refine lv_iconst (v := 0) hx hb dX2_setProduct_35 (by decide) ?_
      exact b_X2_setProduct_36 X hI h (lv_sub hl [1, 2, 3, 0] rfl)
    · have h := g_t _ c h
      exact b_X2_setProduct_31 X hI h (lv_sub hl [1, 2, 3, 0] rfl)
def f_X2_setProduct (G : gG) (th : Nat) (a1 : Nat) (a2 : Nat) : Option gG :=
  gb (g_fI G a1 1 1) fun v1 =>
  gb (g_fI G a2 1 1) fun v2 =>
  if v1 = v2 then
    f_X2_setProduct_16 G th a1 a2 0
  else
  f_X2_setProduct_16 G th a1 a2 1
theorem gm_X2_setProduct : g_M yX2_setProduct cX2_setProduct 6 none 2 := ⟨tw_2_155, tw_1_3, by decide +kernel, Or.inl (by decide +kernel)⟩
set_option maxHeartbeats 4000000 in
set_option maxRecDepth 100000 in
theorem c_X2_setProduct {l : Launch} {E : gE} {G : gG} {n : Nat} {th : Nat} {a1 : Nat} {a2 : Nat} {Gr : gG} (h : f_X2_setProduct G th a1 a2 = some Gr) : g_Met l yX2_setProduct cX2_setProduct 6 none rm_X2_setProduct E G n [.ref th, .ref a1, .ref a2] none Gr n := by
  refine g_ofW gm_X2_setProduct (Nat.le_of_ble_eq_true rfl) ?_
  intro p e s m below meth c ls X hl hI
  have hx := X.1
  have hb := X.2.1
  have X : g_X E G n p s m _ meth c cX2_setProduct 6 RX2 "setProduct" none := X
  have hl : lv_has ls 6 [(0, .ref th), (1, .ref a1), (2, .ref a2)] := hl
  unfold f_X2_setProduct at h
  refine lv_aload_n hx hb dX2_setProduct_0 rfl (lv_at hl 1 rfl) ?_
  obtain ⟨v1, ev1, h⟩ := gb_s h
  refine g_get X hI (g_fI_s ev1) (C := RX2) (T := TX2) (N := 4) rfl gu_X2 (by decide) tw_1_34 dX2_setProduct_1 ?_
  refine lv_aload_n hx hb dX2_setProduct_4 rfl (lv_at hl 2 rfl) ?_
  obtain ⟨v2, ev2, h⟩ := gb_s h
  refine g_get X hI (g_fI_s ev2) (C := RX2) (T := TX2) (N := 4) rfl gu_X2 (by decide) tw_1_34 dX2_setProduct_5 ?_
  refine lv_icmp_eq (tgt := 15) hx hb dX2_setProduct_8 (by decide) (fun c => ?_) (fun c => ?_)
  · have h := g_t _ c h
    refine lv_iconst (v := 0) hx hb dX2_setProduct_15 (by decide) ?_
    exact b_X2_setProduct_16 X hI h (lv_sub hl [0, 1, 2] rfl)
  · have h := g_f _ c h
    refine lv_iconst (v := 1) hx hb dX2_setProduct_11 (by decide) ?_
    refine lv_goto (tgt := 16) hx hb dX2_setProduct_12 (by decide) ?_
    exact b_X2_setProduct_16 X hI h (lv_sub hl [0, 1, 2] rfl)
abbrev rm_X2_setFiniteQuotient : Room := { frames := 1, cells := 0, slots := 0, locals := 25 }
def f_X2_setFiniteQuotient_109 (G : gG) (x2 : Nat) (x3 : Nat) (x10 : Int32) (s0 : Int32) (s1 : Int64) (s2 : Int32) (s3 : Nat) : Option gG :=
  gb (g_fI G x2 1 3) fun v1 =>
  gb (g_fI G x3 1 3) fun v2 =>
  gck (g_isO G s3 1) <|
  gb (f_X2_setFinite G s3 s2 (s1 ||| (Int32.toInt64 s0)) ((v1 - v2) - (x10 * 10))) fun G3 =>
  some G3
set_option maxHeartbeats 4000000 in
set_option maxRecDepth 100000 in
theorem b_X2_setFiniteQuotient_109 {p : Program} {l : Launch} {e : Env} {s : State} {m : MethodId} {args : Array Value} {below : List Frame} {meth : Method} {c : Code} {E : gE} {G0 : gG} {n0 : Nat} (X : g_X E G0 n0 p s m args meth c cX2_setFiniteQuotient 12 RX2 "setFiniteQuotient" none) {G : gG} {n : Nat} {Gr : gG} {H : Heap} {locs : List Loc} (hI : g_I E (g_A G0 n0) G n s.heap H locs) {x2 : Nat} {x3 : Nat} {x10 : Int32} {s0 : Int32} {s1 : Int64} {s2 : Int32} {s3 : Nat} (h : f_X2_setFiniteQuotient_109 G x2 x3 x10 s0 s1 s2 s3 = some Gr) {ls : Array Slot} (hl : lv_has ls 12 [(2, .ref x2), (3, .ref x3), (10, .int x10)]) : W p l e rm_X2_setFiniteQuotient s m args below meth c H locs 0 0 (MQ below (g_Q E G0 n0 none Gr n) args s rm_X2_setFiniteQuotient.cells rm_X2_setFiniteQuotient.slots (g_A G0 n0)) (F0 m 109 ls [.int s0, .long s1, .int s2, .ref s3]) := by
  have hx := X.1
  have hb := X.2.1
  unfold f_X2_setFiniteQuotient_109 at h
  refine lv_i2l (v := (Int32.toInt64 s0)) hx hb dX2_setFiniteQuotient_109 rfl ?_
  refine lv_lor (x := s1) (y := (Int32.toInt64 s0)) hx hb dX2_setFiniteQuotient_110 ?_
  refine lv_aload_n hx hb dX2_setFiniteQuotient_111 rfl (lv_at hl 0 rfl) ?_
  obtain ⟨v1, ev1, h⟩ := gb_s h
  refine g_get X hI (g_fI_s ev1) (C := RX2) (T := TX2) (N := 4) rfl gu_X2 (by decide) tw_1_37 dX2_setFiniteQuotient_112 ?_
  refine lv_aload_n hx hb dX2_setFiniteQuotient_115 rfl (lv_at hl 1 rfl) ?_
  obtain ⟨v2, ev2, h⟩ := gb_s h
  refine g_get X hI (g_fI_s ev2) (C := RX2) (T := TX2) (N := 4) rfl gu_X2 (by decide) tw_1_37 dX2_setFiniteQuotient_116 ?_
  refine lv_isub (x := v1) (y := v2) hx hb dX2_setFiniteQuotient_119 ?_
  refine lv_iload hx hb dX2_setFiniteQuotient_120 (lv_at hl 2 rfl) ?_
  refine lv_bipush (v := 10) hx hb dX2_setFiniteQuotient_122 (by decide) ?_
  refine lv_imul (x := x10) (y := 10) hx hb dX2_setFiniteQuotient_124 ?_
  refine lv_isub (x := (v1 - v2)) (y := (x10 * 10)) hx hb dX2_setFiniteQuotient_125 ?_
  obtain ⟨cO, h⟩ := gck_s h
  obtain ⟨G3, eG3, h⟩ := gb_s h
  refine g_callV X hI (q := (RX2, TX2, 4)) (b := s3) (av := [.int s2, .long (s1 ||| (Int32.toInt64 s0)), .int ((v1 - v2) - (x10 * 10))]) cO rfl (c_X2_setFinite eG3) gm_X2_setFinite tw_2_58 tw_2_60 tw_p_9 ⟨by decide, by decide⟩ hl.1 (rest := []) rfl (Nat.le_of_ble_eq_true rfl) dX2_setFiniteQuotient_126 ⟨by decide, by decide⟩ (st1 := []) rfl (cells' := 0) (slots' := 0) rfl rfl (fun H locs hI => ?_)
  have h := Option.some.inj h
  subst h
  exact g_vret X hI dX2_setFiniteQuotient_129
def f_X2_setFiniteQuotient_53 : Nat → gG → Nat → Int32 → Nat → Nat → Int64 → Int64 → Int64 → Int32 → Int32 → Option gG
  | 0, _, _, _, _, _, _, _, _, _, _ => none
  | fu + 1, G, x0, x1, x2, x3, x4, x6, x8, x10, x11 =>
    if x10 ≤ x11 then
      if x6 = 0 then
        f_X2_setFiniteQuotient_109 G x2 x3 x10 0 x8 x1 x0
      else
      f_X2_setFiniteQuotient_109 G x2 x3 x10 1 x8 x1 x0
    else
    gl ((g_lshl x6 10) : Int64) fun v1 =>
    gneL x4 <|
    gl (((g_lshl x8 10) ||| (v1 / x4)) : Int64) fun v2 =>
    gneL x4 <|
    gl ((g_lrem v1 x4) : Int64) fun v3 =>
    gl (x11 + 1 : Int32) fun v4 =>
    f_X2_setFiniteQuotient_53 fu G x0 x1 x2 x3 x4 v3 v2 x10 v4
set_option maxHeartbeats 4000000 in
set_option maxRecDepth 100000 in
theorem b_X2_setFiniteQuotient_53 {p : Program} {l : Launch} {e : Env} {s : State} {m : MethodId} {args : Array Value} {below : List Frame} {meth : Method} {c : Code} {E : gE} {G0 : gG} {n0 : Nat} (X : g_X E G0 n0 p s m args meth c cX2_setFiniteQuotient 12 RX2 "setFiniteQuotient" none) {n : Nat} {Gr : gG} (fu : Nat) : ∀ {G : gG} {H : Heap} {locs : List Loc} (_ : g_I E (g_A G0 n0) G n s.heap H locs) {x0 : Nat} {x1 : Int32} {x2 : Nat} {x3 : Nat} {x4 : Int64} {x6 : Int64} {x8 : Int64} {x10 : Int32} {x11 : Int32} (_ : f_X2_setFiniteQuotient_53 fu G x0 x1 x2 x3 x4 x6 x8 x10 x11 = some Gr) {ls : Array Slot} (_ : lv_has ls 12 [(0, .ref x0), (1, .int x1), (2, .ref x2), (3, .ref x3), (4, .long x4), (6, .long x6), (8, .long x8), (10, .int x10), (11, .int x11)]), W p l e rm_X2_setFiniteQuotient s m args below meth c H locs 0 0 (MQ below (g_Q E G0 n0 none Gr n) args s rm_X2_setFiniteQuotient.cells rm_X2_setFiniteQuotient.slots (g_A G0 n0)) (F0 m 53 ls []) := by
  have hx := X.1
  have hb := X.2.1
  induction fu with
  | zero =>
    intro G H locs hI x0 x1 x2 x3 x4 x6 x8 x10 x11 h ls hl
    rw [f_X2_setFiniteQuotient_53] at h
    cases h
  | succ fu ih =>
    intro G H locs hI x0 x1 x2 x3 x4 x6 x8 x10 x11 h ls hl
    rw [f_X2_setFiniteQuotient_53] at h
    refine lv_iload hx hb dX2_setFiniteQuotient_53 (lv_at hl 8 rfl) ?_
    refine lv_iload hx hb dX2_setFiniteQuotient_55 (lv_at hl 7 rfl) ?_
    refine lv_icmp_ge (tgt := 93) hx hb dX2_setFiniteQuotient_57 (by decide) (fun c => ?_) (fun c => ?_)
    · have h := g_t _ c h
      refine lv_aload_n hx hb dX2_setFiniteQuotient_93 rfl (lv_at hl 0 rfl) ?_
      refine lv_iload_n hx hb dX2_setFiniteQuotient_94 rfl (lv_at hl 1 rfl) ?_
      refine lv_lload hx hb dX2_setFiniteQuotient_95 (lv_at hl 6 rfl) ?_
      refine lv_lload hx hb dX2_setFiniteQuotient_97 (lv_at hl 5 rfl) ?_
      refine lv_lconst (v := 0) hx hb dX2_setFiniteQuotient_99 (by decide) ?_
      refine W.lcmp hx hb dX2_setFiniteQuotient_100 ?_
      refine lv_if_ne (tgt := 108) hx hb dX2_setFiniteQuotient_101 (by decide) (fun c => ?_) (fun c => ?_)
      · have h := g_f _ ((not_congr (lg_cmp_eq _ _)).mp c) h
        refine lv_iconst (v := 1) hx hb dX2_setFiniteQuotient_108 (by decide) ?_
        exact b_X2_setFiniteQuotient_109 X hI h (lv_sub hl [2, 3, 7] rfl)
      · have h := g_t _ ((lg_cmp_eq _ _).mp c) h
        refine lv_iconst (v := 0) hx hb dX2_setFiniteQuotient_104 (by decide) ?_
        refine lv_goto (tgt := 109) hx hb dX2_setFiniteQuotient_105 (by decide) ?_
        exact b_X2_setFiniteQuotient_109 X hI h (lv_sub hl [2, 3, 7] rfl)
    · have h := g_f _ c h
      refine lv_lload hx hb dX2_setFiniteQuotient_60 (lv_at hl 5 rfl) ?_
      refine lv_bipush (v := 10) hx hb dX2_setFiniteQuotient_62 (by decide) ?_
      refine lv_lshl (v := (g_lshl x6 10)) hx hb dX2_setFiniteQuotient_64 rfl ?_
      obtain ⟨v1, ev1, h⟩ := gl_s h
      refine g_topl ev1 ?_
      refine lv_lstore (lv' := [(6, .long v1), (0, .ref x0), (1, .int x1), (2, .ref x2), (3, .ref x3), (4, .long x4), (8, .long x8), (10, .int x10), (11, .int x11)]) hx hb dX2_setFiniteQuotient_65 hl (by decide) rfl (fun ls hl => ?_)
      refine lv_lload hx hb dX2_setFiniteQuotient_67 (lv_at hl 6 rfl) ?_
      refine lv_bipush (v := 10) hx hb dX2_setFiniteQuotient_69 (by decide) ?_
      refine lv_lshl (v := (g_lshl x8 10)) hx hb dX2_setFiniteQuotient_71 rfl ?_
      refine lv_lload hx hb dX2_setFiniteQuotient_72 (lv_at hl 0 rfl) ?_
      refine lv_lload hx hb dX2_setFiniteQuotient_74 (lv_at hl 5 rfl) ?_
      obtain ⟨cz, h⟩ := gneL_s h
      refine lv_ldiv hx hb dX2_setFiniteQuotient_76 cz ?_
      refine lv_lor (x := (g_lshl x8 10)) (y := (v1 / x4)) hx hb dX2_setFiniteQuotient_77 ?_
      obtain ⟨v2, ev2, h⟩ := gl_s h
      refine g_topl ev2 ?_
      refine lv_lstore (lv' := [(8, .long v2), (6, .long v1), (0, .ref x0), (1, .int x1), (2, .ref x2), (3, .ref x3), (4, .long x4), (10, .int x10), (11, .int x11)]) hx hb dX2_setFiniteQuotient_78 hl (by decide) rfl (fun ls hl => ?_)
      refine lv_lload hx hb dX2_setFiniteQuotient_80 (lv_at hl 1 rfl) ?_
      refine lv_lload hx hb dX2_setFiniteQuotient_82 (lv_at hl 6 rfl) ?_
      obtain ⟨cz, h⟩ := gneL_s h
      refine lv_lrem hx hb dX2_setFiniteQuotient_84 cz ?_
      obtain ⟨v3, ev3, h⟩ := gl_s h
      refine g_topl ev3 ?_
      refine lv_lstore (lv' := [(6, .long v3), (8, .long v2), (0, .ref x0), (1, .int x1), (2, .ref x2), (3, .ref x3), (4, .long x4), (10, .int x10), (11, .int x11)]) hx hb dX2_setFiniteQuotient_85 hl (by decide) rfl (fun ls hl => ?_)
      obtain ⟨v4, ev4, h⟩ := gl_s h
      refine lv_iinc (v := v4) (lv' := [(11, .int v4), (6, .long v3), (8, .long v2), (0, .ref x0), (1, .int x1), (2, .ref x2), (3, .ref x3), (4, .long x4), (10, .int x10)]) hx hb dX2_setFiniteQuotient_87 hl (k := 8) rfl (by rw [← ev4]; rfl) (by decide) rfl (fun ls hl => ?_)
      refine lv_goto (tgt := 53) hx hb dX2_setFiniteQuotient_90 (by decide) ?_
      exact ih hI h (lv_sub hl [3, 4, 5, 6, 7, 1, 2, 8, 0] rfl)
def f_X2_setFiniteQuotient (G : gG) (th : Nat) (a1 : Int32) (a2 : Nat) (a3 : Nat) : Option gG :=
  gb (g_fL G a3 1 2) fun v1 =>
  gl ((g_lushr v1 10) : Int64) fun v2 =>
  if v2 = 0 then
    gck (g_isO G th 1) <|
    gb (f_X2_setKind G th (2 : Int32) a1) fun G7 =>
    some G7
  else
  gb (g_fL G a2 1 2) fun v3 =>
  gl ((g_lushr v3 10) : Int64) fun v4 =>
  gneL v2 <|
  gl ((v4 / v2) : Int64) fun v5 =>
  gneL v2 <|
  gl ((g_lrem v4 v2) : Int64) fun v6 =>
  f_X2_setFiniteQuotient_53 5000 G th a1 a2 a3 v2 v6 v5 6 0
theorem gm_X2_setFiniteQuotient : g_M yX2_setFiniteQuotient cX2_setFiniteQuotient 12 none 3 := ⟨tw_2_167, tw_1_3, by decide +kernel, Or.inl (by decide +kernel)⟩
set_option maxHeartbeats 4000000 in
set_option maxRecDepth 100000 in
theorem c_X2_setFiniteQuotient {l : Launch} {E : gE} {G : gG} {n : Nat} {th : Nat} {a1 : Int32} {a2 : Nat} {a3 : Nat} {Gr : gG} (h : f_X2_setFiniteQuotient G th a1 a2 a3 = some Gr) : g_Met l yX2_setFiniteQuotient cX2_setFiniteQuotient 12 none rm_X2_setFiniteQuotient E G n [.ref th, .int a1, .ref a2, .ref a3] none Gr n := by
  refine g_ofW gm_X2_setFiniteQuotient (Nat.le_of_ble_eq_true rfl) ?_
  intro p e s m below meth c ls X hl hI
  have hx := X.1
  have hb := X.2.1
  have X : g_X E G n p s m _ meth c cX2_setFiniteQuotient 12 RX2 "setFiniteQuotient" none := X
  have hl : lv_has ls 12 [(0, .ref th), (1, .int a1), (2, .ref a2), (3, .ref a3)] := hl
  unfold f_X2_setFiniteQuotient at h
  refine lv_aload_n hx hb dX2_setFiniteQuotient_0 rfl (lv_at hl 3 rfl) ?_
  obtain ⟨v1, ev1, h⟩ := gb_s h
  refine g_get X hI (g_fL_s ev1) (C := RX2) (T := TX2) (N := 4) rfl gu_X2 (by decide) tw_1_36 dX2_setFiniteQuotient_1 ?_
  refine lv_bipush (v := 10) hx hb dX2_setFiniteQuotient_4 (by decide) ?_
  refine lv_lushr (v := (g_lushr v1 10)) hx hb dX2_setFiniteQuotient_6 rfl ?_
  obtain ⟨v2, ev2, h⟩ := gl_s h
  refine g_topl ev2 ?_
  refine lv_lstore (lv' := [(4, .long v2), (0, .ref th), (1, .int a1), (2, .ref a2), (3, .ref a3)]) hx hb dX2_setFiniteQuotient_7 hl (by decide) rfl (fun ls hl => ?_)
  refine lv_lload hx hb dX2_setFiniteQuotient_9 (lv_at hl 0 rfl) ?_
  refine lv_lconst (v := 0) hx hb dX2_setFiniteQuotient_11 (by decide) ?_
  refine W.lcmp hx hb dX2_setFiniteQuotient_12 ?_
  refine lv_if_ne (tgt := 23) hx hb dX2_setFiniteQuotient_13 (by decide) (fun c => ?_) (fun c => ?_)
  · have h := g_f _ ((not_congr (lg_cmp_eq _ _)).mp c) h
    refine lv_aload_n hx hb dX2_setFiniteQuotient_23 rfl (lv_at hl 3 rfl) ?_
    obtain ⟨v3, ev3, h⟩ := gb_s h
    refine g_get X hI (g_fL_s ev3) (C := RX2) (T := TX2) (N := 4) rfl gu_X2 (by decide) tw_1_36 dX2_setFiniteQuotient_24 ?_
    refine lv_bipush (v := 10) hx hb dX2_setFiniteQuotient_27 (by decide) ?_
    refine lv_lushr (v := (g_lushr v3 10)) hx hb dX2_setFiniteQuotient_29 rfl ?_
    obtain ⟨v4, ev4, h⟩ := gl_s h
    refine g_topl ev4 ?_
    refine lv_lstore (lv' := [(6, .long v4), (4, .long v2), (0, .ref th), (1, .int a1), (2, .ref a2), (3, .ref a3)]) hx hb dX2_setFiniteQuotient_30 hl (by decide) rfl (fun ls hl => ?_)
    refine lv_lload hx hb dX2_setFiniteQuotient_32 (lv_at hl 0 rfl) ?_
    refine lv_lload hx hb dX2_setFiniteQuotient_34 (lv_at hl 1 rfl) ?_
    obtain ⟨cz, h⟩ := gneL_s h
    refine lv_ldiv hx hb dX2_setFiniteQuotient_36 cz ?_
    obtain ⟨v5, ev5, h⟩ := gl_s h
    refine g_topl ev5 ?_
    refine lv_lstore (lv' := [(8, .long v5), (6, .long v4), (4, .long v2), (0, .ref th), (1, .int a1), (2, .ref a2), (3, .ref a3)]) hx hb dX2_setFiniteQuotient_37 hl (by decide) rfl (fun ls hl => ?_)
    refine lv_lload hx hb dX2_setFiniteQuotient_39 (lv_at hl 1 rfl) ?_
    refine lv_lload hx hb dX2_setFiniteQuotient_41 (lv_at hl 2 rfl) ?_
    obtain ⟨cz, h⟩ := gneL_s h
    refine lv_lrem hx hb dX2_setFiniteQuotient_43 cz ?_
    obtain ⟨v6, ev6, h⟩ := gl_s h
    refine g_topl ev6 ?_
    refine lv_lstore (lv' := [(6, .long v6), (8, .long v5), (4, .long v2), (0, .ref th), (1, .int a1), (2, .ref a2), (3, .ref a3)]) hx hb dX2_setFiniteQuotient_44 hl (by decide) rfl (fun ls hl => ?_)
    refine lv_bipush (v := 6) hx hb dX2_setFiniteQuotient_46 (by decide) ?_
    refine lv_istore (lv' := [(10, .int 6), (6, .long v6), (8, .long v5), (4, .long v2), (0, .ref th), (1, .int a1), (2, .ref a2), (3, .ref a3)]) hx hb dX2_setFiniteQuotient_48 hl (by decide) rfl (fun ls hl => ?_)
    refine lv_iconst (v := 0) hx hb dX2_setFiniteQuotient_50 (by decide) ?_
    refine lv_istore (lv' := [(11, .int 0), (10, .int 6), (6, .long v6), (8, .long v5), (4, .long v2), (0, .ref th), (1, .int a1), (2, .ref a2), (3, .ref a3)]) hx hb dX2_setFiniteQuotient_51 hl (by decide) rfl (fun ls hl => ?_)
    exact b_X2_setFiniteQuotient_53 X 5000 hI h (lv_sub hl [5, 6, 7, 8, 4, 2, 3, 1, 0] rfl)
  · have h := g_t _ ((lg_cmp_eq _ _).mp c) h
    refine lv_aload_n hx hb dX2_setFiniteQuotient_16 rfl (lv_at hl 1 rfl) ?_
    refine lv_iconst (v := 2) hx hb dX2_setFiniteQuotient_17 (by decide) ?_
    refine lv_iload_n hx hb dX2_setFiniteQuotient_18 rfl (lv_at hl 2 rfl) ?_
    obtain ⟨cO, h⟩ := gck_s h
    obtain ⟨G7, eG7, h⟩ := gb_s h
    refine g_callV X hI (q := (RX2, TX2, 4)) (b := th) (av := [.int 2, .int a1]) cO rfl (c_X2_setKind eG7) gm_X2_setKind tw_2_54 tw_2_56 tw_p_8 ⟨by decide, by decide⟩ hl.1 (rest := []) rfl (Nat.le_of_ble_eq_true rfl) dX2_setFiniteQuotient_19 ⟨by decide, by decide⟩ (st1 := []) rfl (cells' := 0) (slots' := 0) rfl rfl (fun H locs hI => ?_)
    have h := Option.some.inj h
    subst h
    exact g_vret X hI dX2_setFiniteQuotient_22
abbrev rm_X2_setQuotient : Room := { frames := 2, cells := 0, slots := 0, locals := 56 }
def f_X2_setQuotient_112 (G : gG) (x0 : Nat) (x3 : Int32) : Option gG :=
  gck (g_isO G x0 1) <|
  gb (f_X2_setKind G x0 (2 : Int32) x3) fun G1 =>
  some G1
set_option maxHeartbeats 4000000 in
set_option maxRecDepth 100000 in
theorem b_X2_setQuotient_112 {p : Program} {l : Launch} {e : Env} {s : State} {m : MethodId} {args : Array Value} {below : List Frame} {meth : Method} {c : Code} {E : gE} {G0 : gG} {n0 : Nat} (X : g_X E G0 n0 p s m args meth c cX2_setQuotient 5 RX2 "setQuotient" none) {G : gG} {n : Nat} {Gr : gG} {H : Heap} {locs : List Loc} (hI : g_I E (g_A G0 n0) G n s.heap H locs) {x0 : Nat} {x3 : Int32} (h : f_X2_setQuotient_112 G x0 x3 = some Gr) {ls : Array Slot} (hl : lv_has ls 5 [(0, .ref x0), (3, .int x3)]) : W p l e rm_X2_setQuotient s m args below meth c H locs 0 0 (MQ below (g_Q E G0 n0 none Gr n) args s rm_X2_setQuotient.cells rm_X2_setQuotient.slots (g_A G0 n0)) (F0 m 112 ls []) := by
  have hx := X.1
  have hb := X.2.1
  unfold f_X2_setQuotient_112 at h
  refine lv_aload_n hx hb dX2_setQuotient_112 rfl (lv_at hl 0 rfl) ?_
  refine lv_iconst (v := 2) hx hb dX2_setQuotient_113 (by decide) ?_
  refine lv_iload_n hx hb dX2_setQuotient_114 rfl (lv_at hl 1 rfl) ?_
  obtain ⟨cO, h⟩ := gck_s h
  obtain ⟨G1, eG1, h⟩ := gb_s h
  refine g_callV X hI (q := (RX2, TX2, 4)) (b := x0) (av := [.int 2, .int x3]) cO rfl (c_X2_setKind eG1) gm_X2_setKind tw_2_54 tw_2_56 tw_p_8 ⟨by decide, by decide⟩ hl.1 (rest := []) rfl (Nat.le_of_ble_eq_true rfl) dX2_setQuotient_115 ⟨by decide, by decide⟩ (st1 := []) rfl (cells' := 0) (slots' := 0) rfl rfl (fun H locs hI => ?_)
  refine lv_goto (tgt := 128) hx hb dX2_setQuotient_118 (by decide) ?_
  have h := Option.some.inj h
  subst h
  exact g_vret X hI dX2_setQuotient_128
def f_X2_setQuotient_88 (G : gG) (x0 : Nat) (x3 : Int32) : Option gG :=
  gck (g_isO G x0 1) <|
  gb (f_X2_setKind G x0 (0 : Int32) x3) fun G1 =>
  some G1
set_option maxHeartbeats 4000000 in
set_option maxRecDepth 100000 in
theorem b_X2_setQuotient_88 {p : Program} {l : Launch} {e : Env} {s : State} {m : MethodId} {args : Array Value} {below : List Frame} {meth : Method} {c : Code} {E : gE} {G0 : gG} {n0 : Nat} (X : g_X E G0 n0 p s m args meth c cX2_setQuotient 5 RX2 "setQuotient" none) {G : gG} {n : Nat} {Gr : gG} {H : Heap} {locs : List Loc} (hI : g_I E (g_A G0 n0) G n s.heap H locs) {x0 : Nat} {x3 : Int32} (h : f_X2_setQuotient_88 G x0 x3 = some Gr) {ls : Array Slot} (hl : lv_has ls 5 [(0, .ref x0), (3, .int x3)]) : W p l e rm_X2_setQuotient s m args below meth c H locs 0 0 (MQ below (g_Q E G0 n0 none Gr n) args s rm_X2_setQuotient.cells rm_X2_setQuotient.slots (g_A G0 n0)) (F0 m 88 ls []) := by
  have hx := X.1
  have hb := X.2.1
  unfold f_X2_setQuotient_88 at h
  refine lv_aload_n hx hb dX2_setQuotient_88 rfl (lv_at hl 0 rfl) ?_
  refine lv_iconst (v := 0) hx hb dX2_setQuotient_89 (by decide) ?_
  refine lv_iload_n hx hb dX2_setQuotient_90 rfl (lv_at hl 1 rfl) ?_
  obtain ⟨cO, h⟩ := gck_s h
  obtain ⟨G1, eG1, h⟩ := gb_s h
  refine g_callV X hI (q := (RX2, TX2, 4)) (b := x0) (av := [.int 0, .int x3]) cO rfl (c_X2_setKind eG1) gm_X2_setKind tw_2_54 tw_2_56 tw_p_8 ⟨by decide, by decide⟩ hl.1 (rest := []) rfl (Nat.le_of_ble_eq_true rfl) dX2_setQuotient_91 ⟨by decide, by decide⟩ (st1 := []) rfl (cells' := 0) (slots' := 0) rfl rfl (fun H locs hI => ?_)
  refine lv_goto (tgt := 128) hx hb dX2_setQuotient_94 (by decide) ?_
  have h := Option.some.inj h
  subst h
  exact g_vret X hI dX2_setQuotient_128
def f_X2_setQuotient_73 (G : gG) (x0 : Nat) (x1 : Nat) (x2 : Nat) (x3 : Int32) : Option gG :=
  gb (g_fI G x1 1 0) fun v1 =>
  if v1 = 0 then
    f_X2_setQuotient_88 G x0 x3
  else
  gb (g_fI G x2 1 0) fun v2 =>
  if v2 = 2 then
    f_X2_setQuotient_88 G x0 x3
  else
  gb (g_fI G x1 1 0) fun v3 =>
  if v3 = 2 then
    f_X2_setQuotient_112 G x0 x3
  else
  gb (g_fI G x2 1 0) fun v4 =>
  if v4 = 0 then
    f_X2_setQuotient_112 G x0 x3
  else
  gck (g_isO G x0 1) <|
  gb (f_X2_setFiniteQuotient G x0 x3 x1 x2) fun G5 =>
  some G5
set_option maxHeartbeats 4000000 in
set_option maxRecDepth 100000 in
theorem b_X2_setQuotient_73 {p : Program} {l : Launch} {e : Env} {s : State} {m : MethodId} {args : Array Value} {below : List Frame} {meth : Method} {c : Code} {E : gE} {G0 : gG} {n0 : Nat} (X : g_X E G0 n0 p s m args meth c cX2_setQuotient 5 RX2 "setQuotient" none) {G : gG} {n : Nat} {Gr : gG} {H : Heap} {locs : List Loc} (hI : g_I E (g_A G0 n0) G n s.heap H locs) {x0 : Nat} {x1 : Nat} {x2 : Nat} {x3 : Int32} (h : f_X2_setQuotient_73 G x0 x1 x2 x3 = some Gr) {ls : Array Slot} (hl : lv_has ls 5 [(0, .ref x0), (1, .ref x1), (2, .ref x2), (3, .int x3)]) : W p l e rm_X2_setQuotient s m args below meth c H locs 0 0 (MQ below (g_Q E G0 n0 none Gr n) args s rm_X2_setQuotient.cells rm_X2_setQuotient.slots (g_A G0 n0)) (F0 m 73 ls []) := by
  have hx := X.1
  have hb := X.2.1
  unfold f_X2_setQuotient_73 at h
  refine lv_aload_n hx hb dX2_setQuotient_73 rfl (lv_at hl 1 rfl) ?_
  obtain ⟨v1, ev1, h⟩ := gb_s h
  refine g_get X hI (g_fI_s ev1) (C := RX2) (T := TX2) (N := 4) rfl gu_X2 (by decide) tw_1_32 dX2_setQuotient_74 ?_
  refine lv_if_eq (tgt := 88) hx hb dX2_setQuotient_77 (by decide) (fun c => ?_) (fun c => ?_)
  · have h := g_t _ c h
    exact b_X2_setQuotient_88 X hI h (lv_sub hl [0, 3] rfl)
  · have h := g_f _ c h
    refine lv_aload_n hx hb dX2_setQuotient_80 rfl (lv_at hl 2 rfl) ?_
    obtain ⟨v2, ev2, h⟩ := gb_s h
    refine g_get X hI (g_fI_s ev2) (C := RX2) (T := TX2) (N := 4) rfl gu_X2 (by decide) tw_1_32 dX2_setQuotient_81 ?_
    refine lv_iconst (v := 2) hx hb dX2_setQuotient_84 (by decide) ?_
    refine lv_icmp_ne (tgt := 97) hx hb dX2_setQuotient_85 (by decide) (fun c => ?_) (fun c => ?_)
    · have h := g_f _ c h
      refine lv_aload_n hx hb dX2_setQuotient_97 rfl (lv_at hl 1 rfl) ?_
      obtain ⟨v3, ev3, h⟩ := gb_s h
      refine g_get X hI (g_fI_s ev3) (C := RX2) (T := TX2) (N := 4) rfl gu_X2 (by decide) tw_1_32 dX2_setQuotient_98 ?_
      refine lv_iconst (v := 2) hx hb dX2_setQuotient_101 (by decide) ?_
      refine lv_icmp_eq (tgt := 112) hx hb dX2_setQuotient_102 (by decide) (fun c => ?_) (fun c => ?_)
      · have h := g_t _ c h
        exact b_X2_setQuotient_112 X hI h (lv_sub hl [0, 3] rfl)
      · have h := g_f _ c h
        refine lv_aload_n hx hb dX2_setQuotient_105 rfl (lv_at hl 2 rfl) ?_
        obtain ⟨v4, ev4, h⟩ := gb_s h
        refine g_get X hI (g_fI_s ev4) (C := RX2) (T := TX2) (N := 4) rfl gu_X2 (by decide) tw_1_32 dX2_setQuotient_106 ?_
        refine lv_if_ne (tgt := 121) hx hb dX2_setQuotient_109 (by decide) (fun c => ?_) (fun c => ?_)
        · have h := g_f _ c h
          refine lv_aload_n hx hb dX2_setQuotient_121 rfl (lv_at hl 0 rfl) ?_
          refine lv_iload_n hx hb dX2_setQuotient_122 rfl (lv_at hl 3 rfl) ?_
          refine lv_aload_n hx hb dX2_setQuotient_123 rfl (lv_at hl 1 rfl) ?_
          refine lv_aload_n hx hb dX2_setQuotient_124 rfl (lv_at hl 2 rfl) ?_
          obtain ⟨cO, h⟩ := gck_s h
          obtain ⟨G5, eG5, h⟩ := gb_s h
          refine g_callV X hI (q := (RX2, TX2, 4)) (b := x0) (av := [.int x3, .ref x1, .ref x2]) cO rfl (c_X2_setFiniteQuotient eG5) gm_X2_setFiniteQuotient tw_2_164 tw_2_166 tw_p_14 ⟨by decide, by decide⟩ hl.1 (rest := []) rfl (Nat.le_of_ble_eq_true rfl) dX2_setQuotient_125 ⟨by decide, by decide⟩ (st1 := []) rfl (cells' := 0) (slots' := 0) rfl rfl (fun H locs hI => ?_)
          have h := Option.some.inj h
          subst h
          exact g_vret X hI dX2_setQuotient_128
        · have h := g_t _ c h
          exact b_X2_setQuotient_112 X hI h (lv_sub hl [0, 3] rfl)
    · have h := g_t _ c h
      exact b_X2_setQuotient_88 X hI h (lv_sub hl [0, 3] rfl)
def f_X2_setQuotient_64 (G : gG) (x0 : Nat) : Option gG :=
  gck (g_isO G x0 1) <|
  gb (f_X2_setKind G x0 (3 : Int32) (0 : Int32)) fun G1 =>
  some G1
set_option maxHeartbeats 4000000 in
set_option maxRecDepth 100000 in
theorem b_X2_setQuotient_64 {p : Program} {l : Launch} {e : Env} {s : State} {m : MethodId} {args : Array Value} {below : List Frame} {meth : Method} {c : Code} {E : gE} {G0 : gG} {n0 : Nat} (X : g_X E G0 n0 p s m args meth c cX2_setQuotient 5 RX2 "setQuotient" none) {G : gG} {n : Nat} {Gr : gG} {H : Heap} {locs : List Loc} (hI : g_I E (g_A G0 n0) G n s.heap H locs) {x0 : Nat} (h : f_X2_setQuotient_64 G x0 = some Gr) {ls : Array Slot} (hl : lv_has ls 5 [(0, .ref x0)]) : W p l e rm_X2_setQuotient s m args below meth c H locs 0 0 (MQ below (g_Q E G0 n0 none Gr n) args s rm_X2_setQuotient.cells rm_X2_setQuotient.slots (g_A G0 n0)) (F0 m 64 ls []) := by
  have hx := X.1
  have hb := X.2.1
  unfold f_X2_setQuotient_64 at h
  refine lv_aload_n hx hb dX2_setQuotient_64 rfl (lv_at hl 0 rfl) ?_
  refine lv_iconst (v := 3) hx hb dX2_setQuotient_65 (by decide) ?_
  refine lv_iconst (v := 0) hx hb dX2_setQuotient_66 (by decide) ?_
  obtain ⟨cO, h⟩ := gck_s h
  obtain ⟨G1, eG1, h⟩ := gb_s h
  refine g_callV X hI (q := (RX2, TX2, 4)) (b := x0) (av := [.int 3, .int 0]) cO rfl (c_X2_setKind eG1) gm_X2_setKind tw_2_54 tw_2_56 tw_p_8 ⟨by decide, by decide⟩ hl.1 (rest := []) rfl (Nat.le_of_ble_eq_true rfl) dX2_setQuotient_67 ⟨by decide, by decide⟩ (st1 := []) rfl (cells' := 0) (slots' := 0) rfl rfl (fun H locs hI => ?_)
  refine lv_goto (tgt := 128) hx hb dX2_setQuotient_70 (by decide) ?_
  have h := Option.some.inj h
  subst h
  exact g_vret X hI dX2_setQuotient_128
def f_X2_setQuotient_38 (G : gG) (x0 : Nat) (x1 : Nat) (x2 : Nat) (x3 : Int32) (s0 : Int32) : Option gG :=
  if s0 = 0 then
    gb (g_fI G x1 1 0) fun v1 =>
    gb (g_fI G x2 1 0) fun v2 =>
    if v1 = v2 then
      gb (g_fI G x1 1 0) fun v3 =>
      if v3 = 1 then
        f_X2_setQuotient_73 G x0 x1 x2 x3
      else
      f_X2_setQuotient_64 G x0
    else
    f_X2_setQuotient_73 G x0 x1 x2 x3
  else
  f_X2_setQuotient_64 G x0
set_option maxHeartbeats 4000000 in
set_option maxRecDepth 100000 in
theorem b_X2_setQuotient_38 {p : Program} {l : Launch} {e : Env} {s : State} {m : MethodId} {args : Array Value} {below : List Frame} {meth : Method} {c : Code} {E : gE} {G0 : gG} {n0 : Nat} (X : g_X E G0 n0 p s m args meth c cX2_setQuotient 5 RX2 "setQuotient" none) {G : gG} {n : Nat} {Gr : gG} {H : Heap} {locs : List Loc} (hI : g_I E (g_A G0 n0) G n s.heap H locs) {x0 : Nat} {x1 : Nat} {x2 : Nat} {x3 : Int32} {s0 : Int32} (h : f_X2_setQuotient_38 G x0 x1 x2 x3 s0 = some Gr) {ls : Array Slot} (hl : lv_has ls 5 [(0, .ref x0), (1, .ref x1), (2, .ref x2), (3, .int x3)]) : W p l e rm_X2_setQuotient s m args below meth c H locs 0 0 (MQ below (g_Q E G0 n0 none Gr n) args s rm_X2_setQuotient.cells rm_X2_setQuotient.slots (g_A G0 n0)) (F0 m 38 ls [.int s0]) := by
  have hx := X.1
  have hb := X.2.1
  unfold f_X2_setQuotient_38 at h
  refine lv_istore (lv' := [(4, .int s0), (0, .ref x0), (1, .ref x1), (2, .ref x2), (3, .int x3)]) hx hb dX2_setQuotient_38 hl (by decide) rfl (fun ls hl => ?_)
  refine lv_iload hx hb dX2_setQuotient_40 (lv_at hl 0 rfl) ?_
  refine lv_if_ne (tgt := 64) hx hb dX2_setQuotient_42 (by decide) (fun c => ?_) (fun c => ?_)
  · have h := g_f _ c h
    exact b_X2_setQuotient_64 X hI h (lv_sub hl [1] rfl)
  · have h := g_t _ c h
    refine lv_aload_n hx hb dX2_setQuotient_45 rfl (lv_at hl 2 rfl) ?_
    obtain ⟨v1, ev1, h⟩ := gb_s h
    refine g_get X hI (g_fI_s ev1) (C := RX2) (T := TX2) (N := 4) rfl gu_X2 (by decide) tw_1_32 dX2_setQuotient_46 ?_
    refine lv_aload_n hx hb dX2_setQuotient_49 rfl (lv_at hl 3 rfl) ?_
    obtain ⟨v2, ev2, h⟩ := gb_s h
    refine g_get X hI (g_fI_s ev2) (C := RX2) (T := TX2) (N := 4) rfl gu_X2 (by decide) tw_1_32 dX2_setQuotient_50 ?_
    refine lv_icmp_ne (tgt := 73) hx hb dX2_setQuotient_53 (by decide) (fun c => ?_) (fun c => ?_)
    · have h := g_f _ c h
      exact b_X2_setQuotient_73 X hI h (lv_sub hl [1, 2, 3, 4] rfl)
    · have h := g_t _ c h
      refine lv_aload_n hx hb dX2_setQuotient_56 rfl (lv_at hl 2 rfl) ?_
      obtain ⟨v3, ev3, h⟩ := gb_s h
      refine g_get X hI (g_fI_s ev3) (C := RX2) (T := TX2) (N := 4) rfl gu_X2 (by decide) tw_1_32 dX2_setQuotient_57 ?_
      refine lv_iconst (v := 1) hx hb dX2_setQuotient_60 (by decide) ?_
      refine lv_icmp_eq (tgt := 73) hx hb dX2_setQuotient_61 (by decide) (fun c => ?_) (fun c => ?_)
      · have h := g_t _ c h
        exact b_X2_setQuotient_73 X hI h (lv_sub hl [1, 2, 3, 4] rfl)
      · have h := g_f _ c h
        exact b_X2_setQuotient_64 X hI h (lv_sub hl [1] rfl)
def f_X2_setQuotient_33 (G : gG) (x0 : Nat) (x1 : Nat) (x2 : Nat) (x3 : Int32) : Option gG :=
  f_X2_setQuotient_38 G x0 x1 x2 x3 1
set_option maxHeartbeats 4000000 in
set_option maxRecDepth 100000 in
theorem b_X2_setQuotient_33 {p : Program} {l : Launch} {e : Env} {s : State} {m : MethodId} {args : Array Value} {below : List Frame} {meth : Method} {c : Code} {E : gE} {G0 : gG} {n0 : Nat} (X : g_X E G0 n0 p s m args meth c cX2_setQuotient 5 RX2 "setQuotient" none) {G : gG} {n : Nat} {Gr : gG} {H : Heap} {locs : List Loc} (hI : g_I E (g_A G0 n0) G n s.heap H locs) {x0 : Nat} {x1 : Nat} {x2 : Nat} {x3 : Int32} (h : f_X2_setQuotient_33 G x0 x1 x2 x3 = some Gr) {ls : Array Slot} (hl : lv_has ls 5 [(0, .ref x0), (1, .ref x1), (2, .ref x2), (3, .int x3)]) : W p l e rm_X2_setQuotient s m args below meth c H locs 0 0 (MQ below (g_Q E G0 n0 none Gr n) args s rm_X2_setQuotient.cells rm_X2_setQuotient.slots (g_A G0 n0)) (F0 m 33 ls []) := by
  have hx := X.1
  have hb := X.2.1
  unfold f_X2_setQuotient_33 at h
  refine lv_iconst (v := 1) hx hb dX2_setQuotient_33 (by decide) ?_
  refine lv_goto (tgt := 38) hx hb dX2_setQuotient_34 (by decide) ?_
  exact b_X2_setQuotient_38 X hI h (lv_sub hl [0, 1, 2, 3] rfl)
def f_X2_setQuotient_16 (G : gG) (x0 : Nat) (x1 : Nat) (x2 : Nat) (s0 : Int32) : Option gG :=
  gb (g_fI G x1 1 0) fun v1 =>
  if v1 = 3 then
    f_X2_setQuotient_33 G x0 x1 x2 s0
  else
  gb (g_fI G x2 1 0) fun v2 =>
  if v2 = 3 then
    f_X2_setQuotient_33 G x0 x1 x2 s0
  else
  f_X2_setQuotient_38 G x0 x1 x2 s0 0
set_option maxHeartbeats 4000000 in
set_option maxRecDepth 100000 in
theorem b_X2_setQuotient_16 {p : Program} {l : Launch} {e : Env} {s : State} {m : MethodId} {args : Array Value} {below : List Frame} {meth : Method} {c : Code} {E : gE} {G0 : gG} {n0 : Nat} (X : g_X E G0 n0 p s m args meth c cX2_setQuotient 5 RX2 "setQuotient" none) {G : gG} {n : Nat} {Gr : gG} {H : Heap} {locs : List Loc} (hI : g_I E (g_A G0 n0) G n s.heap H locs) {x0 : Nat} {x1 : Nat} {x2 : Nat} {s0 : Int32} (h : f_X2_setQuotient_16 G x0 x1 x2 s0 = some Gr) {ls : Array Slot} (hl : lv_has ls 5 [(0, .ref x0), (1, .ref x1), (2, .ref x2)]) : W p l e rm_X2_setQuotient s m args below meth c H locs 0 0 (MQ below (g_Q E G0 n0 none Gr n) args s rm_X2_setQuotient.cells rm_X2_setQuotient.slots (g_A G0 n0)) (F0 m 16 ls [.int s0]) := by
  have hx := X.1
  have hb := X.2.1
  unfold f_X2_setQuotient_16 at h
  refine lv_istore_n (lv' := [(3, .int s0), (0, .ref x0), (1, .ref x1), (2, .ref x2)]) hx hb dX2_setQuotient_16 rfl hl (by decide) rfl (fun ls hl => ?_)
  refine lv_aload_n hx hb dX2_setQuotient_17 rfl (lv_at hl 2 rfl) ?_
  obtain ⟨v1, ev1, h⟩ := gb_s h
  refine g_get X hI (g_fI_s ev1) (C := RX2) (T := TX2) (N := 4) rfl gu_X2 (by decide) tw_1_32 dX2_setQuotient_18 ?_
  refine lv_iconst (v := 3) hx hb dX2_setQuotient_21 (by decide) ?_
  refine lv_icmp_eq (tgt := 33) hx hb dX2_setQuotient_22 (by decide) (fun c => ?_) (fun c => ?_)
  · have h := g_t _ c h
    exact b_X2_setQuotient_33 X hI h (lv_sub hl [1, 2, 3, 0] rfl)
  · have h := g_f _ c h
    refine lv_aload_n hx hb dX2_setQuotient_25 rfl (lv_at hl 3 rfl) ?_
    obtain ⟨v2, ev2, h⟩ := gb_s h
    refine g_get X hI (g_fI_s ev2) (C := RX2) (T := TX2) (N := 4) rfl gu_X2 (by decide) tw_1_32 dX2_setQuotient_26 ?_
    refine lv_iconst (v := 3) hx hb dX2_setQuotient_29 (by decide) ?_
    refine lv_icmp_ne (tgt := 37) hx hb dX2_setQuotient_30 (by decide) (fun c => ?_) (fun c => ?_)
    · have h := g_f _ c h
      refine lv_iconst (v := 0) hx hb dX2_setQuotient_37 (by decide) ?_
      exact b_X2_setQuotient_38 X hI h (lv_sub hl [1, 2, 3, 0] rfl)
    · have h := g_t _ c h
      exact b_X2_setQuotient_33 X hI h (lv_sub hl [1, 2, 3, 0] rfl)
def f_X2_setQuotient (G : gG) (th : Nat) (a1 : Nat) (a2 : Nat) : Option gG :=
  gb (g_fI G a1 1 1) fun v1 =>
  gb (g_fI G a2 1 1) fun v2 =>
  if v1 = v2 then
    f_X2_setQuotient_16 G th a1 a2 0
  else
  f_X2_setQuotient_16 G th a1 a2 1
theorem gm_X2_setQuotient : g_M yX2_setQuotient cX2_setQuotient 5 none 2 := ⟨tw_2_163, tw_1_3, by decide +kernel, Or.inl (by decide +kernel)⟩
set_option maxHeartbeats 4000000 in
set_option maxRecDepth 100000 in
theorem c_X2_setQuotient {l : Launch} {E : gE} {G : gG} {n : Nat} {th : Nat} {a1 : Nat} {a2 : Nat} {Gr : gG} (h : f_X2_setQuotient G th a1 a2 = some Gr) : g_Met l yX2_setQuotient cX2_setQuotient 5 none rm_X2_setQuotient E G n [.ref th, .ref a1, .ref a2] none Gr n := by
  refine g_ofW gm_X2_setQuotient (Nat.le_of_ble_eq_true rfl) ?_
  intro p e s m below meth c ls X hl hI
  have hx := X.1
  have hb := X.2.1
  have X : g_X E G n p s m _ meth c cX2_setQuotient 5 RX2 "setQuotient" none := X
  have hl : lv_has ls 5 [(0, .ref th), (1, .ref a1), (2, .ref a2)] := hl
  unfold f_X2_setQuotient at h
  refine lv_aload_n hx hb dX2_setQuotient_0 rfl (lv_at hl 1 rfl) ?_
  obtain ⟨v1, ev1, h⟩ := gb_s h
  refine g_get X hI (g_fI_s ev1) (C := RX2) (T := TX2) (N := 4) rfl gu_X2 (by decide) tw_1_34 dX2_setQuotient_1 ?_
  refine lv_aload_n hx hb dX2_setQuotient_4 rfl (lv_at hl 2 rfl) ?_
  obtain ⟨v2, ev2, h⟩ := gb_s h
  refine g_get X hI (g_fI_s ev2) (C := RX2) (T := TX2) (N := 4) rfl gu_X2 (by decide) tw_1_34 dX2_setQuotient_5 ?_
  refine lv_icmp_eq (tgt := 15) hx hb dX2_setQuotient_8 (by decide) (fun c => ?_) (fun c => ?_)
  · have h := g_t _ c h
    refine lv_iconst (v := 0) hx hb dX2_setQuotient_15 (by decide) ?_
    exact b_X2_setQuotient_16 X hI h (lv_sub hl [0, 1, 2] rfl)
  · have h := g_f _ c h
    refine lv_iconst (v := 1) hx hb dX2_setQuotient_11 (by decide) ?_
    refine lv_goto (tgt := 16) hx hb dX2_setQuotient_12 (by decide) ?_
    exact b_X2_setQuotient_16 X hI h (lv_sub hl [0, 1, 2] rfl)
abbrev rm_X2_roundToWhole : Room := { frames := 1, cells := 0, slots := 0, locals := 28 }
def f_X2_roundToWhole_105 (G : gG) (x0 : Nat) (x3 : Int64) : Option gG :=
  if x3 = 0 then
    gb (g_fI G x0 1 1) fun v3 =>
    gck (g_isO G x0 1) <|
    gb (f_X2_setKind G x0 (0 : Int32) v3) fun G4 =>
    some G4
  else
  gb (g_fI G x0 1 1) fun v1 =>
  gck (g_isO G x0 1) <|
  gb (f_X2_setFinite G x0 v1 x3 (0 : Int32)) fun G2 =>
  some G2
set_option maxHeartbeats 4000000 in
set_option maxRecDepth 100000 in
theorem b_X2_roundToWhole_105 {p : Program} {l : Launch} {e : Env} {s : State} {m : MethodId} {args : Array Value} {below : List Frame} {meth : Method} {c : Code} {E : gE} {G0 : gG} {n0 : Nat} (X : g_X E G0 n0 p s m args meth c cX2_roundToWhole 6 RX2 "roundToWhole" none) {G : gG} {n : Nat} {Gr : gG} {H : Heap} {locs : List Loc} (hI : g_I E (g_A G0 n0) G n s.heap H locs) {x0 : Nat} {x3 : Int64} (h : f_X2_roundToWhole_105 G x0 x3 = some Gr) {ls : Array Slot} (hl : lv_has ls 6 [(0, .ref x0), (3, .long x3)]) : W p l e rm_X2_roundToWhole s m args below meth c H locs 0 0 (MQ below (g_Q E G0 n0 none Gr n) args s rm_X2_roundToWhole.cells rm_X2_roundToWhole.slots (g_A G0 n0)) (F0 m 105 ls []) := by
  have hx := X.1
  have hb := X.2.1
  unfold f_X2_roundToWhole_105 at h
  refine lv_lload_n hx hb dX2_roundToWhole_105 rfl (lv_at hl 1 rfl) ?_
  refine lv_lconst (v := 0) hx hb dX2_roundToWhole_106 (by decide) ?_
  refine W.lcmp hx hb dX2_roundToWhole_107 ?_
  refine lv_if_ne (tgt := 123) hx hb dX2_roundToWhole_108 (by decide) (fun c => ?_) (fun c => ?_)
  · have h := g_f _ ((not_congr (lg_cmp_eq _ _)).mp c) h
    refine lv_aload_n hx hb dX2_roundToWhole_123 rfl (lv_at hl 0 rfl) ?_
    refine lv_aload_n hx hb dX2_roundToWhole_124 rfl (lv_at hl 0 rfl) ?_
    obtain ⟨v1, ev1, h⟩ := gb_s h
    refine g_get X hI (g_fI_s ev1) (C := RX2) (T := TX2) (N := 4) rfl gu_X2 (by decide) tw_1_34 dX2_roundToWhole_125 ?_
    refine lv_lload_n hx hb dX2_roundToWhole_128 rfl (lv_at hl 1 rfl) ?_
    refine lv_iconst (v := 0) hx hb dX2_roundToWhole_129 (by decide) ?_
    obtain ⟨cO, h⟩ := gck_s h
    obtain ⟨G2, eG2, h⟩ := gb_s h
    refine g_callV X hI (q := (RX2, TX2, 4)) (b := x0) (av := [.int v1, .long x3, .int 0]) cO rfl (c_X2_setFinite eG2) gm_X2_setFinite tw_2_58 tw_2_60 tw_p_9 ⟨by decide, by decide⟩ hl.1 (rest := []) rfl (Nat.le_of_ble_eq_true rfl) dX2_roundToWhole_130 ⟨by decide, by decide⟩ (st1 := []) rfl (cells' := 0) (slots' := 0) rfl rfl (fun H locs hI => ?_)
    have h := Option.some.inj h
    subst h
    exact g_vret X hI dX2_roundToWhole_133
  · have h := g_t _ ((lg_cmp_eq _ _).mp c) h
    refine lv_aload_n hx hb dX2_roundToWhole_111 rfl (lv_at hl 0 rfl) ?_
    refine lv_iconst (v := 0) hx hb dX2_roundToWhole_112 (by decide) ?_
    refine lv_aload_n hx hb dX2_roundToWhole_113 rfl (lv_at hl 0 rfl) ?_
    obtain ⟨v3, ev3, h⟩ := gb_s h
    refine g_get X hI (g_fI_s ev3) (C := RX2) (T := TX2) (N := 4) rfl gu_X2 (by decide) tw_1_34 dX2_roundToWhole_114 ?_
    obtain ⟨cO, h⟩ := gck_s h
    obtain ⟨G4, eG4, h⟩ := gb_s h
    refine g_callV X hI (q := (RX2, TX2, 4)) (b := x0) (av := [.int 0, .int v3]) cO rfl (c_X2_setKind eG4) gm_X2_setKind tw_2_54 tw_2_56 tw_p_8 ⟨by decide, by decide⟩ hl.1 (rest := []) rfl (Nat.le_of_ble_eq_true rfl) dX2_roundToWhole_117 ⟨by decide, by decide⟩ (st1 := []) rfl (cells' := 0) (slots' := 0) rfl rfl (fun H locs hI => ?_)
    refine lv_goto (tgt := 133) hx hb dX2_roundToWhole_120 (by decide) ?_
    have h := Option.some.inj h
    subst h
    exact g_vret X hI dX2_roundToWhole_133
def f_X2_roundToWhole_98 (G : gG) (x0 : Nat) (x3 : Int64) (s0 : Int32) (s1 : Int32) : Option gG :=
  if s1 = s0 then
    gl ((x3 + 1) : Int64) fun v1 =>
    f_X2_roundToWhole_105 G x0 v1
  else
  f_X2_roundToWhole_105 G x0 x3
set_option maxHeartbeats 4000000 in
set_option maxRecDepth 100000 in
theorem b_X2_roundToWhole_98 {p : Program} {l : Launch} {e : Env} {s : State} {m : MethodId} {args : Array Value} {below : List Frame} {meth : Method} {c : Code} {E : gE} {G0 : gG} {n0 : Nat} (X : g_X E G0 n0 p s m args meth c cX2_roundToWhole 6 RX2 "roundToWhole" none) {G : gG} {n : Nat} {Gr : gG} {H : Heap} {locs : List Loc} (hI : g_I E (g_A G0 n0) G n s.heap H locs) {x0 : Nat} {x3 : Int64} {s0 : Int32} {s1 : Int32} (h : f_X2_roundToWhole_98 G x0 x3 s0 s1 = some Gr) {ls : Array Slot} (hl : lv_has ls 6 [(0, .ref x0), (3, .long x3)]) : W p l e rm_X2_roundToWhole s m args below meth c H locs 0 0 (MQ below (g_Q E G0 n0 none Gr n) args s rm_X2_roundToWhole.cells rm_X2_roundToWhole.slots (g_A G0 n0)) (F0 m 98 ls [.int s0, .int s1]) := by
  have hx := X.1
  have hb := X.2.1
  unfold f_X2_roundToWhole_98 at h
  refine lv_icmp_ne (tgt := 105) hx hb dX2_roundToWhole_98 (by decide) (fun c => ?_) (fun c => ?_)
  · have h := g_f _ c h
    exact b_X2_roundToWhole_105 X hI h (lv_sub hl [0, 1] rfl)
  · have h := g_t _ c h
    refine lv_lload_n hx hb dX2_roundToWhole_101 rfl (lv_at hl 1 rfl) ?_
    refine lv_lconst (v := 1) hx hb dX2_roundToWhole_102 (by decide) ?_
    refine lv_ladd (x := x3) (y := 1) hx hb dX2_roundToWhole_103 ?_
    obtain ⟨v1, ev1, h⟩ := gl_s h
    refine g_topl ev1 ?_
    refine lv_lstore_n (lv' := [(3, .long v1), (0, .ref x0)]) hx hb dX2_roundToWhole_104 rfl hl (by decide) rfl (fun ls hl => ?_)
    exact b_X2_roundToWhole_105 X hI h (lv_sub hl [1, 0] rfl)
def f_X2_roundToWhole_61 (G : gG) (x0 : Nat) (x1 : Int32) (x2 : Int32) (x3 : Int64) (s0 : Int32) : Option gG :=
  if x1 = 5 then
    gb (g_fL G x0 1 2) fun v2 =>
    gl ((f_X2_shiftedToNearest v2 x2) : Int64) fun v3 =>
    f_X2_roundToWhole_105 G x0 v3
  else
  if s0 = 0 then
    gb (g_fI G x0 1 1) fun v1 =>
    if v1 = 0 then
      f_X2_roundToWhole_98 G x0 x3 4 x1
    else
    f_X2_roundToWhole_98 G x0 x3 3 x1
  else
  f_X2_roundToWhole_105 G x0 x3
set_option maxHeartbeats 4000000 in
set_option maxRecDepth 100000 in
theorem b_X2_roundToWhole_61 {p : Program} {l : Launch} {e : Env} {s : State} {m : MethodId} {args : Array Value} {below : List Frame} {meth : Method} {c : Code} {E : gE} {G0 : gG} {n0 : Nat} (X : g_X E G0 n0 p s m args meth c cX2_roundToWhole 6 RX2 "roundToWhole" none) {G : gG} {n : Nat} {Gr : gG} {H : Heap} {locs : List Loc} (hI : g_I E (g_A G0 n0) G n s.heap H locs) {x0 : Nat} {x1 : Int32} {x2 : Int32} {x3 : Int64} {s0 : Int32} (h : f_X2_roundToWhole_61 G x0 x1 x2 x3 s0 = some Gr) {ls : Array Slot} (hl : lv_has ls 6 [(0, .ref x0), (1, .int x1), (2, .int x2), (3, .long x3)]) : W p l e rm_X2_roundToWhole s m args below meth c H locs 0 0 (MQ below (g_Q E G0 n0 none Gr n) args s rm_X2_roundToWhole.cells rm_X2_roundToWhole.slots (g_A G0 n0)) (F0 m 61 ls [.int s0]) := by
  have hx := X.1
  have hb := X.2.1
  unfold f_X2_roundToWhole_61 at h
  refine lv_istore (lv' := [(5, .int s0), (0, .ref x0), (1, .int x1), (2, .int x2), (3, .long x3)]) hx hb dX2_roundToWhole_61 hl (by decide) rfl (fun ls hl => ?_)
  refine lv_iload_n hx hb dX2_roundToWhole_63 rfl (lv_at hl 2 rfl) ?_
  refine lv_iconst (v := 5) hx hb dX2_roundToWhole_64 (by decide) ?_
  refine lv_icmp_ne (tgt := 80) hx hb dX2_roundToWhole_65 (by decide) (fun c => ?_) (fun c => ?_)
  · have h := g_f _ c h
    refine lv_iload hx hb dX2_roundToWhole_80 (lv_at hl 0 rfl) ?_
    refine lv_if_ne (tgt := 105) hx hb dX2_roundToWhole_82 (by decide) (fun c => ?_) (fun c => ?_)
    · have h := g_f _ c h
      exact b_X2_roundToWhole_105 X hI h (lv_sub hl [1, 4] rfl)
    · have h := g_t _ c h
      refine lv_iload_n hx hb dX2_roundToWhole_85 rfl (lv_at hl 2 rfl) ?_
      refine lv_aload_n hx hb dX2_roundToWhole_86 rfl (lv_at hl 1 rfl) ?_
      obtain ⟨v1, ev1, h⟩ := gb_s h
      refine g_get X hI (g_fI_s ev1) (C := RX2) (T := TX2) (N := 4) rfl gu_X2 (by decide) tw_1_34 dX2_roundToWhole_87 ?_
      refine lv_if_eq (tgt := 97) hx hb dX2_roundToWhole_90 (by decide) (fun c => ?_) (fun c => ?_)
      · have h := g_t _ c h
        refine lv_iconst (v := 4) hx hb dX2_roundToWhole_97 (by decide) ?_
        exact b_X2_roundToWhole_98 X hI h (lv_sub hl [1, 4] rfl)
      · have h := g_f _ c h
        refine lv_iconst (v := 3) hx hb dX2_roundToWhole_93 (by decide) ?_
        refine lv_goto (tgt := 98) hx hb dX2_roundToWhole_94 (by decide) ?_
        exact b_X2_roundToWhole_98 X hI h (lv_sub hl [1, 4] rfl)
  · have h := g_t _ c h
    refine lv_aload_n hx hb dX2_roundToWhole_68 rfl (lv_at hl 1 rfl) ?_
    obtain ⟨v2, ev2, h⟩ := gb_s h
    refine g_get X hI (g_fL_s ev2) (C := RX2) (T := TX2) (N := 4) rfl gu_X2 (by decide) tw_1_36 dX2_roundToWhole_69 ?_
    refine lv_iload_n hx hb dX2_roundToWhole_72 rfl (lv_at hl 3 rfl) ?_
    refine g_callS X hI (av := [.long v2, .int x2]) (c_X2_shiftedToNearest v2 x2) gm_X2_shiftedToNearest tw_2_82 tw_2_83 ⟨by decide, by decide⟩ hl.1 (rest := []) rfl (Nat.le_of_ble_eq_true rfl) dX2_roundToWhole_73 ⟨by decide, by decide⟩ (st1 := [.long (f_X2_shiftedToNearest v2 x2)]) rfl (cells' := 0) (slots' := 0) rfl rfl (fun H locs hI => ?_)
    obtain ⟨v3, ev3, h⟩ := gl_s h
    refine g_topl ev3 ?_
    refine lv_lstore_n (lv' := [(3, .long v3), (5, .int s0), (0, .ref x0), (1, .int x1), (2, .int x2)]) hx hb dX2_roundToWhole_76 rfl hl (by decide) rfl (fun ls hl => ?_)
    refine lv_goto (tgt := 105) hx hb dX2_roundToWhole_77 (by decide) ?_
    exact b_X2_roundToWhole_105 X hI h (lv_sub hl [2, 0] rfl)
def f_X2_roundToWhole_60 (G : gG) (x0 : Nat) (x1 : Int32) (x2 : Int32) (x3 : Int64) : Option gG :=
  f_X2_roundToWhole_61 G x0 x1 x2 x3 0
set_option maxHeartbeats 4000000 in
set_option maxRecDepth 100000 in
theorem b_X2_roundToWhole_60 {p : Program} {l : Launch} {e : Env} {s : State} {m : MethodId} {args : Array Value} {below : List Frame} {meth : Method} {c : Code} {E : gE} {G0 : gG} {n0 : Nat} (X : g_X E G0 n0 p s m args meth c cX2_roundToWhole 6 RX2 "roundToWhole" none) {G : gG} {n : Nat} {Gr : gG} {H : Heap} {locs : List Loc} (hI : g_I E (g_A G0 n0) G n s.heap H locs) {x0 : Nat} {x1 : Int32} {x2 : Int32} {x3 : Int64} (h : f_X2_roundToWhole_60 G x0 x1 x2 x3 = some Gr) {ls : Array Slot} (hl : lv_has ls 6 [(0, .ref x0), (1, .int x1), (2, .int x2), (3, .long x3)]) : W p l e rm_X2_roundToWhole s m args below meth c H locs 0 0 (MQ below (g_Q E G0 n0 none Gr n) args s rm_X2_roundToWhole.cells rm_X2_roundToWhole.slots (g_A G0 n0)) (F0 m 60 ls []) := by
  have hx := X.1
  have hb := X.2.1
  unfold f_X2_roundToWhole_60 at h
  refine lv_iconst (v := 0) hx hb dX2_roundToWhole_60 (by decide) ?_
  exact b_X2_roundToWhole_61 X hI h (lv_sub hl [0, 1, 2, 3] rfl)
def f_X2_roundToWhole_38 (G : gG) (x0 : Nat) (x1 : Int32) (x2 : Int32) (s0 : Int64) : Option gG :=
  if (62 : Int32) < x2 then
    f_X2_roundToWhole_60 G x0 x1 x2 s0
  else
  gb (g_fL G x0 1 2) fun v1 =>
  if (g_lshl s0 x2) = v1 then
    f_X2_roundToWhole_61 G x0 x1 x2 s0 1
  else
  f_X2_roundToWhole_60 G x0 x1 x2 s0
set_option maxHeartbeats 4000000 in
set_option maxRecDepth 100000 in
theorem b_X2_roundToWhole_38 {p : Program} {l : Launch} {e : Env} {s : State} {m : MethodId} {args : Array Value} {below : List Frame} {meth : Method} {c : Code} {E : gE} {G0 : gG} {n0 : Nat} (X : g_X E G0 n0 p s m args meth c cX2_roundToWhole 6 RX2 "roundToWhole" none) {G : gG} {n : Nat} {Gr : gG} {H : Heap} {locs : List Loc} (hI : g_I E (g_A G0 n0) G n s.heap H locs) {x0 : Nat} {x1 : Int32} {x2 : Int32} {s0 : Int64} (h : f_X2_roundToWhole_38 G x0 x1 x2 s0 = some Gr) {ls : Array Slot} (hl : lv_has ls 6 [(0, .ref x0), (1, .int x1), (2, .int x2)]) : W p l e rm_X2_roundToWhole s m args below meth c H locs 0 0 (MQ below (g_Q E G0 n0 none Gr n) args s rm_X2_roundToWhole.cells rm_X2_roundToWhole.slots (g_A G0 n0)) (F0 m 38 ls [.long s0]) := by
  have hx := X.1
  have hb := X.2.1
  unfold f_X2_roundToWhole_38 at h
  refine lv_lstore_n (lv' := [(3, .long s0), (0, .ref x0), (1, .int x1), (2, .int x2)]) hx hb dX2_roundToWhole_38 rfl hl (by decide) rfl (fun ls hl => ?_)
  refine lv_iload_n hx hb dX2_roundToWhole_39 rfl (lv_at hl 3 rfl) ?_
  refine lv_bipush (v := 62) hx hb dX2_roundToWhole_40 (by decide) ?_
  refine lv_icmp_gt (tgt := 60) hx hb dX2_roundToWhole_42 (by decide) (fun c => ?_) (fun c => ?_)
  · have h := g_t _ c h
    exact b_X2_roundToWhole_60 X hI h (lv_sub hl [1, 2, 3, 0] rfl)
  · have h := g_f _ c h
    refine lv_lload_n hx hb dX2_roundToWhole_45 rfl (lv_at hl 0 rfl) ?_
    refine lv_iload_n hx hb dX2_roundToWhole_46 rfl (lv_at hl 3 rfl) ?_
    refine lv_lshl (v := (g_lshl s0 x2)) hx hb dX2_roundToWhole_47 rfl ?_
    refine lv_aload_n hx hb dX2_roundToWhole_48 rfl (lv_at hl 1 rfl) ?_
    obtain ⟨v1, ev1, h⟩ := gb_s h
    refine g_get X hI (g_fL_s ev1) (C := RX2) (T := TX2) (N := 4) rfl gu_X2 (by decide) tw_1_36 dX2_roundToWhole_49 ?_
    refine W.lcmp hx hb dX2_roundToWhole_52 ?_
    refine lv_if_ne (tgt := 60) hx hb dX2_roundToWhole_53 (by decide) (fun c => ?_) (fun c => ?_)
    · have h := g_f _ ((not_congr (lg_cmp_eq _ _)).mp c) h
      exact b_X2_roundToWhole_60 X hI h (lv_sub hl [1, 2, 3, 0] rfl)
    · have h := g_t _ ((lg_cmp_eq _ _).mp c) h
      refine lv_iconst (v := 1) hx hb dX2_roundToWhole_56 (by decide) ?_
      refine lv_goto (tgt := 61) hx hb dX2_roundToWhole_57 (by decide) ?_
      exact b_X2_roundToWhole_61 X hI h (lv_sub hl [1, 2, 3, 0] rfl)
def f_X2_roundToWhole (G : gG) (th : Nat) (a1 : Int32) : Option gG :=
  gb (g_fI G th 1 0) fun v1 =>
  if v1 = 1 then
    gb (g_fI G th 1 3) fun v2 =>
    if v2 < 0 then
      gb (g_fI G th 1 3) fun v3 =>
      gl ((-v3) : Int32) fun v4 =>
      if v4 ≤ 62 then
        gb (g_fL G th 1 2) fun v5 =>
        f_X2_roundToWhole_38 G th a1 v4 (g_lushr v5 v4)
      else
      f_X2_roundToWhole_38 G th a1 v4 0
    else
    some G
  else
  some G
theorem gm_X2_roundToWhole : g_M yX2_roundToWhole cX2_roundToWhole 6 none 1 := ⟨tw_2_171, tw_1_3, by decide +kernel, Or.inl (by decide +kernel)⟩
set_option maxHeartbeats 4000000 in
set_option maxRecDepth 100000 in
theorem c_X2_roundToWhole {l : Launch} {E : gE} {G : gG} {n : Nat} {th : Nat} {a1 : Int32} {Gr : gG} (h : f_X2_roundToWhole G th a1 = some Gr) : g_Met l yX2_roundToWhole cX2_roundToWhole 6 none rm_X2_roundToWhole E G n [.ref th, .int a1] none Gr n := by
  refine g_ofW gm_X2_roundToWhole (Nat.le_of_ble_eq_true rfl) ?_
  intro p e s m below meth c ls X hl hI
  have hx := X.1
  have hb := X.2.1
  have X : g_X E G n p s m _ meth c cX2_roundToWhole 6 RX2 "roundToWhole" none := X
  have hl : lv_has ls 6 [(0, .ref th), (1, .int a1)] := hl
  unfold f_X2_roundToWhole at h
  refine lv_aload_n hx hb dX2_roundToWhole_0 rfl (lv_at hl 0 rfl) ?_
  obtain ⟨v1, ev1, h⟩ := gb_s h
  refine g_get X hI (g_fI_s ev1) (C := RX2) (T := TX2) (N := 4) rfl gu_X2 (by decide) tw_1_32 dX2_roundToWhole_1 ?_
  refine lv_iconst (v := 1) hx hb dX2_roundToWhole_4 (by decide) ?_
  refine lv_icmp_ne (tgt := 15) hx hb dX2_roundToWhole_5 (by decide) (fun c => ?_) (fun c => ?_)
  · have h := g_f _ c h
    have h := Option.some.inj h
    subst h
    exact g_vret X hI dX2_roundToWhole_15
  · have h := g_t _ c h
    refine lv_aload_n hx hb dX2_roundToWhole_8 rfl (lv_at hl 0 rfl) ?_
    obtain ⟨v2, ev2, h⟩ := gb_s h
    refine g_get X hI (g_fI_s ev2) (C := RX2) (T := TX2) (N := 4) rfl gu_X2 (by decide) tw_1_37 dX2_roundToWhole_9 ?_
    refine lv_if_lt (tgt := 16) hx hb dX2_roundToWhole_12 (by decide) (fun c => ?_) (fun c => ?_)
    · have h := g_t _ c h
      refine lv_aload_n hx hb dX2_roundToWhole_16 rfl (lv_at hl 0 rfl) ?_
      obtain ⟨v3, ev3, h⟩ := gb_s h
      refine g_get X hI (g_fI_s ev3) (C := RX2) (T := TX2) (N := 4) rfl gu_X2 (by decide) tw_1_37 dX2_roundToWhole_17 ?_
      refine lv_ineg hx hb dX2_roundToWhole_20 ?_
      obtain ⟨v4, ev4, h⟩ := gl_s h
      refine g_topi ev4 ?_
      refine lv_istore_n (lv' := [(2, .int v4), (0, .ref th), (1, .int a1)]) hx hb dX2_roundToWhole_21 rfl hl (by decide) rfl (fun ls hl => ?_)
      refine lv_iload_n hx hb dX2_roundToWhole_22 rfl (lv_at hl 0 rfl) ?_
      refine lv_bipush (v := 62) hx hb dX2_roundToWhole_23 (by decide) ?_
      refine lv_icmp_le (tgt := 32) hx hb dX2_roundToWhole_25 (by decide) (fun c => ?_) (fun c => ?_)
      · have h := g_t _ c h
        refine lv_aload_n hx hb dX2_roundToWhole_32 rfl (lv_at hl 1 rfl) ?_
        obtain ⟨v5, ev5, h⟩ := gb_s h
        refine g_get X hI (g_fL_s ev5) (C := RX2) (T := TX2) (N := 4) rfl gu_X2 (by decide) tw_1_36 dX2_roundToWhole_33 ?_
        refine lv_iload_n hx hb dX2_roundToWhole_36 rfl (lv_at hl 0 rfl) ?_
        refine lv_lushr (v := (g_lushr v5 v4)) hx hb dX2_roundToWhole_37 rfl ?_
        exact b_X2_roundToWhole_38 X hI h (lv_sub hl [1, 2, 0] rfl)
      · have h := g_f _ c h
        refine lv_lconst (v := 0) hx hb dX2_roundToWhole_28 (by decide) ?_
        refine lv_goto (tgt := 38) hx hb dX2_roundToWhole_29 (by decide) ?_
        exact b_X2_roundToWhole_38 X hI h (lv_sub hl [1, 2, 0] rfl)
    · have h := g_f _ c h
      have h := Option.some.inj h
      subst h
      exact g_vret X hI dX2_roundToWhole_15
abbrev rm_X2_setFiniteRest : Room := { frames := 1, cells := 0, slots := 0, locals := 25 }
def f_X2_setFiniteRest_75 (G : gG) (x0 : Nat) (x1 : Nat) (x2 : Nat) (x5 : Int64) : Option gG :=
  if x5 = 0 then
    gb (g_fI G x1 1 1) fun v4 =>
    gck (g_isO G x0 1) <|
    gb (f_X2_setKind G x0 (0 : Int32) v4) fun G5 =>
    some G5
  else
  gb (g_fI G x1 1 1) fun v1 =>
  gb (g_fI G x2 1 3) fun v2 =>
  gck (g_isO G x0 1) <|
  gb (f_X2_setFinite G x0 v1 x5 (v2 + 10)) fun G3 =>
  some G3
set_option maxHeartbeats 4000000 in
set_option maxRecDepth 100000 in
theorem b_X2_setFiniteRest_75 {p : Program} {l : Launch} {e : Env} {s : State} {m : MethodId} {args : Array Value} {below : List Frame} {meth : Method} {c : Code} {E : gE} {G0 : gG} {n0 : Nat} (X : g_X E G0 n0 p s m args meth c cX2_setFiniteRest 8 RX2 "setFiniteRest" none) {G : gG} {n : Nat} {Gr : gG} {H : Heap} {locs : List Loc} (hI : g_I E (g_A G0 n0) G n s.heap H locs) {x0 : Nat} {x1 : Nat} {x2 : Nat} {x5 : Int64} (h : f_X2_setFiniteRest_75 G x0 x1 x2 x5 = some Gr) {ls : Array Slot} (hl : lv_has ls 8 [(0, .ref x0), (1, .ref x1), (2, .ref x2), (5, .long x5)]) : W p l e rm_X2_setFiniteRest s m args below meth c H locs 0 0 (MQ below (g_Q E G0 n0 none Gr n) args s rm_X2_setFiniteRest.cells rm_X2_setFiniteRest.slots (g_A G0 n0)) (F0 m 75 ls []) := by
  have hx := X.1
  have hb := X.2.1
  unfold f_X2_setFiniteRest_75 at h
  refine lv_lload hx hb dX2_setFiniteRest_75 (lv_at hl 3 rfl) ?_
  refine lv_lconst (v := 0) hx hb dX2_setFiniteRest_77 (by decide) ?_
  refine W.lcmp hx hb dX2_setFiniteRest_78 ?_
  refine lv_if_ne (tgt := 94) hx hb dX2_setFiniteRest_79 (by decide) (fun c => ?_) (fun c => ?_)
  · have h := g_f _ ((not_congr (lg_cmp_eq _ _)).mp c) h
    refine lv_aload_n hx hb dX2_setFiniteRest_94 rfl (lv_at hl 0 rfl) ?_
    refine lv_aload_n hx hb dX2_setFiniteRest_95 rfl (lv_at hl 1 rfl) ?_
    obtain ⟨v1, ev1, h⟩ := gb_s h
    refine g_get X hI (g_fI_s ev1) (C := RX2) (T := TX2) (N := 4) rfl gu_X2 (by decide) tw_1_34 dX2_setFiniteRest_96 ?_
    refine lv_lload hx hb dX2_setFiniteRest_99 (lv_at hl 3 rfl) ?_
    refine lv_aload_n hx hb dX2_setFiniteRest_101 rfl (lv_at hl 2 rfl) ?_
    obtain ⟨v2, ev2, h⟩ := gb_s h
    refine g_get X hI (g_fI_s ev2) (C := RX2) (T := TX2) (N := 4) rfl gu_X2 (by decide) tw_1_37 dX2_setFiniteRest_102 ?_
    refine lv_bipush (v := 10) hx hb dX2_setFiniteRest_105 (by decide) ?_
    refine lv_iadd (x := v2) (y := 10) hx hb dX2_setFiniteRest_107 ?_
    obtain ⟨cO, h⟩ := gck_s h
    obtain ⟨G3, eG3, h⟩ := gb_s h
    refine g_callV X hI (q := (RX2, TX2, 4)) (b := x0) (av := [.int v1, .long x5, .int (v2 + 10)]) cO rfl (c_X2_setFinite eG3) gm_X2_setFinite tw_2_58 tw_2_60 tw_p_9 ⟨by decide, by decide⟩ hl.1 (rest := []) rfl (Nat.le_of_ble_eq_true rfl) dX2_setFiniteRest_108 ⟨by decide, by decide⟩ (st1 := []) rfl (cells' := 0) (slots' := 0) rfl rfl (fun H locs hI => ?_)
    have h := Option.some.inj h
    subst h
    exact g_vret X hI dX2_setFiniteRest_111
  · have h := g_t _ ((lg_cmp_eq _ _).mp c) h
    refine lv_aload_n hx hb dX2_setFiniteRest_82 rfl (lv_at hl 0 rfl) ?_
    refine lv_iconst (v := 0) hx hb dX2_setFiniteRest_83 (by decide) ?_
    refine lv_aload_n hx hb dX2_setFiniteRest_84 rfl (lv_at hl 1 rfl) ?_
    obtain ⟨v4, ev4, h⟩ := gb_s h
    refine g_get X hI (g_fI_s ev4) (C := RX2) (T := TX2) (N := 4) rfl gu_X2 (by decide) tw_1_34 dX2_setFiniteRest_85 ?_
    obtain ⟨cO, h⟩ := gck_s h
    obtain ⟨G5, eG5, h⟩ := gb_s h
    refine g_callV X hI (q := (RX2, TX2, 4)) (b := x0) (av := [.int 0, .int v4]) cO rfl (c_X2_setKind eG5) gm_X2_setKind tw_2_54 tw_2_56 tw_p_8 ⟨by decide, by decide⟩ hl.1 (rest := []) rfl (Nat.le_of_ble_eq_true rfl) dX2_setFiniteRest_88 ⟨by decide, by decide⟩ (st1 := []) rfl (cells' := 0) (slots' := 0) rfl rfl (fun H locs hI => ?_)
    refine lv_goto (tgt := 111) hx hb dX2_setFiniteRest_91 (by decide) ?_
    have h := Option.some.inj h
    subst h
    exact g_vret X hI dX2_setFiniteRest_111
def f_X2_setFiniteRest_43 : Nat → gG → Nat → Nat → Nat → Int64 → Int64 → Int32 → Option gG
  | 0, _, _, _, _, _, _, _ => none
  | fu + 1, G, x0, x1, x2, x3, x5, x7 =>
    if x7 ≤ 0 then
      f_X2_setFiniteRest_75 G x0 x1 x2 x5
    else
    if x5 = 0 then
      f_X2_setFiniteRest_75 G x0 x1 x2 x5
    else
    gneL x3 <|
    gl ((g_lrem (g_lshl x5 (f_J9_min_7cf53 x7 (10 : Int32))) x3) : Int64) fun v1 =>
    gl (x7 + (-10) : Int32) fun v2 =>
    f_X2_setFiniteRest_43 fu G x0 x1 x2 x3 v1 v2
set_option maxHeartbeats 4000000 in
set_option maxRecDepth 100000 in
theorem b_X2_setFiniteRest_43 {p : Program} {l : Launch} {e : Env} {s : State} {m : MethodId} {args : Array Value} {below : List Frame} {meth : Method} {c : Code} {E : gE} {G0 : gG} {n0 : Nat} (X : g_X E G0 n0 p s m args meth c cX2_setFiniteRest 8 RX2 "setFiniteRest" none) {n : Nat} {Gr : gG} (fu : Nat) : ∀ {G : gG} {H : Heap} {locs : List Loc} (_ : g_I E (g_A G0 n0) G n s.heap H locs) {x0 : Nat} {x1 : Nat} {x2 : Nat} {x3 : Int64} {x5 : Int64} {x7 : Int32} (_ : f_X2_setFiniteRest_43 fu G x0 x1 x2 x3 x5 x7 = some Gr) {ls : Array Slot} (_ : lv_has ls 8 [(0, .ref x0), (1, .ref x1), (2, .ref x2), (3, .long x3), (5, .long x5), (7, .int x7)]), W p l e rm_X2_setFiniteRest s m args below meth c H locs 0 0 (MQ below (g_Q E G0 n0 none Gr n) args s rm_X2_setFiniteRest.cells rm_X2_setFiniteRest.slots (g_A G0 n0)) (F0 m 43 ls []) := by
  have hx := X.1
  have hb := X.2.1
  induction fu with
  | zero =>
    intro G H locs hI x0 x1 x2 x3 x5 x7 h ls hl
    rw [f_X2_setFiniteRest_43] at h
    cases h
  | succ fu ih =>
    intro G H locs hI x0 x1 x2 x3 x5 x7 h ls hl
    rw [f_X2_setFiniteRest_43] at h
    refine lv_iload hx hb dX2_setFiniteRest_43 (lv_at hl 5 rfl) ?_
    refine lv_if_le (tgt := 75) hx hb dX2_setFiniteRest_45 (by decide) (fun c => ?_) (fun c => ?_)
    · have h := g_t _ c h
      exact b_X2_setFiniteRest_75 X hI h (lv_sub hl [0, 1, 2, 4] rfl)
    · have h := g_f _ c h
      refine lv_lload hx hb dX2_setFiniteRest_48 (lv_at hl 4 rfl) ?_
      refine lv_lconst (v := 0) hx hb dX2_setFiniteRest_50 (by decide) ?_
      refine W.lcmp hx hb dX2_setFiniteRest_51 ?_
      refine lv_if_eq (tgt := 75) hx hb dX2_setFiniteRest_52 (by decide) (fun c => ?_) (fun c => ?_)
      · have h := g_t _ ((lg_cmp_eq _ _).mp c) h
        exact b_X2_setFiniteRest_75 X hI h (lv_sub hl [0, 1, 2, 4] rfl)
      · have h := g_f _ (fun q => c ((lg_cmp_eq _ _).mpr q)) h
        refine lv_lload hx hb dX2_setFiniteRest_55 (lv_at hl 4 rfl) ?_
        refine lv_iload hx hb dX2_setFiniteRest_57 (lv_at hl 5 rfl) ?_
        refine lv_bipush (v := 10) hx hb dX2_setFiniteRest_59 (by decide) ?_
        refine g_callS X hI (av := [.int x7, .int 10]) (c_J9_min_7cf53 x7 (10 : Int32)) gm_J9_min_7cf53 tw_2_180 tw_2_8 ⟨by decide, by decide⟩ hl.1 (rest := [.long x5]) rfl (Nat.le_of_ble_eq_true rfl) dX2_setFiniteRest_61 ⟨by decide, by decide⟩ (st1 := [.int (f_J9_min_7cf53 x7 (10 : Int32)), .long x5]) rfl (cells' := 0) (slots' := 0) rfl rfl (fun H locs hI => ?_)
        refine lv_lshl (v := (g_lshl x5 (f_J9_min_7cf53 x7 (10 : Int32)))) hx hb dX2_setFiniteRest_64 rfl ?_
        refine lv_lload_n hx hb dX2_setFiniteRest_65 rfl (lv_at hl 3 rfl) ?_
        obtain ⟨cz, h⟩ := gneL_s h
        refine lv_lrem hx hb dX2_setFiniteRest_66 cz ?_
        obtain ⟨v1, ev1, h⟩ := gl_s h
        refine g_topl ev1 ?_
        refine lv_lstore (lv' := [(5, .long v1), (0, .ref x0), (1, .ref x1), (2, .ref x2), (3, .long x3), (7, .int x7)]) hx hb dX2_setFiniteRest_67 hl (by decide) rfl (fun ls hl => ?_)
        obtain ⟨v2, ev2, h⟩ := gl_s h
        refine lv_iinc (v := v2) (lv' := [(7, .int v2), (5, .long v1), (0, .ref x0), (1, .ref x1), (2, .ref x2), (3, .long x3)]) hx hb dX2_setFiniteRest_69 hl (k := 5) rfl (by rw [← ev2]; rfl) (by decide) rfl (fun ls hl => ?_)
        refine lv_goto (tgt := 43) hx hb dX2_setFiniteRest_72 (by decide) ?_
        exact ih hI h (lv_sub hl [2, 3, 4, 5, 1, 0] rfl)
def f_X2_setFiniteRest (G : gG) (th : Nat) (a1 : Nat) (a2 : Nat) : Option gG :=
  gb (g_fL G a2 1 2) fun v1 =>
  gl ((g_lushr v1 10) : Int64) fun v2 =>
  if v2 = 0 then
    gck (g_isO G th 1) <|
    gb (f_X2_setKind G th (3 : Int32) (0 : Int32)) fun G8 =>
    some G8
  else
  gb (g_fL G a1 1 2) fun v3 =>
  gneL v2 <|
  gl ((g_lrem (g_lushr v3 10) v2) : Int64) fun v4 =>
  gb (g_fI G a1 1 3) fun v5 =>
  gb (g_fI G a2 1 3) fun v6 =>
  gl ((v5 - v6) : Int32) fun v7 =>
  f_X2_setFiniteRest_43 5000 G th a1 a2 v2 v4 v7
theorem gm_X2_setFiniteRest : g_M yX2_setFiniteRest cX2_setFiniteRest 8 none 2 := ⟨tw_2_179, tw_1_3, by decide +kernel, Or.inl (by decide +kernel)⟩
set_option maxHeartbeats 4000000 in
set_option maxRecDepth 100000 in
theorem c_X2_setFiniteRest {l : Launch} {E : gE} {G : gG} {n : Nat} {th : Nat} {a1 : Nat} {a2 : Nat} {Gr : gG} (h : f_X2_setFiniteRest G th a1 a2 = some Gr) : g_Met l yX2_setFiniteRest cX2_setFiniteRest 8 none rm_X2_setFiniteRest E G n [.ref th, .ref a1, .ref a2] none Gr n := by
  refine g_ofW gm_X2_setFiniteRest (Nat.le_of_ble_eq_true rfl) ?_
  intro p e s m below meth c ls X hl hI
  have hx := X.1
  have hb := X.2.1
  have X : g_X E G n p s m _ meth c cX2_setFiniteRest 8 RX2 "setFiniteRest" none := X
  have hl : lv_has ls 8 [(0, .ref th), (1, .ref a1), (2, .ref a2)] := hl
  unfold f_X2_setFiniteRest at h
  refine lv_aload_n hx hb dX2_setFiniteRest_0 rfl (lv_at hl 2 rfl) ?_
  obtain ⟨v1, ev1, h⟩ := gb_s h
  refine g_get X hI (g_fL_s ev1) (C := RX2) (T := TX2) (N := 4) rfl gu_X2 (by decide) tw_1_36 dX2_setFiniteRest_1 ?_
  refine lv_bipush (v := 10) hx hb dX2_setFiniteRest_4 (by decide) ?_
  refine lv_lushr (v := (g_lushr v1 10)) hx hb dX2_setFiniteRest_6 rfl ?_
  obtain ⟨v2, ev2, h⟩ := gl_s h
  refine g_topl ev2 ?_
  refine lv_lstore_n (lv' := [(3, .long v2), (0, .ref th), (1, .ref a1), (2, .ref a2)]) hx hb dX2_setFiniteRest_7 rfl hl (by decide) rfl (fun ls hl => ?_)
  refine lv_lload_n hx hb dX2_setFiniteRest_8 rfl (lv_at hl 0 rfl) ?_
  refine lv_lconst (v := 0) hx hb dX2_setFiniteRest_9 (by decide) ?_
  refine W.lcmp hx hb dX2_setFiniteRest_10 ?_
  refine lv_if_ne (tgt := 21) hx hb dX2_setFiniteRest_11 (by decide) (fun c => ?_) (fun c => ?_)
  · have h := g_f _ ((not_congr (lg_cmp_eq _ _)).mp c) h
    refine lv_aload_n hx hb dX2_setFiniteRest_21 rfl (lv_at hl 2 rfl) ?_
    obtain ⟨v3, ev3, h⟩ := gb_s h
    refine g_get X hI (g_fL_s ev3) (C := RX2) (T := TX2) (N := 4) rfl gu_X2 (by decide) tw_1_36 dX2_setFiniteRest_22 ?_
    refine lv_bipush (v := 10) hx hb dX2_setFiniteRest_25 (by decide) ?_
    refine lv_lushr (v := (g_lushr v3 10)) hx hb dX2_setFiniteRest_27 rfl ?_
    refine lv_lload_n hx hb dX2_setFiniteRest_28 rfl (lv_at hl 0 rfl) ?_
    obtain ⟨cz, h⟩ := gneL_s h
    refine lv_lrem hx hb dX2_setFiniteRest_29 cz ?_
    obtain ⟨v4, ev4, h⟩ := gl_s h
    refine g_topl ev4 ?_
    refine lv_lstore (lv' := [(5, .long v4), (3, .long v2), (0, .ref th), (1, .ref a1), (2, .ref a2)]) hx hb dX2_setFiniteRest_30 hl (by decide) rfl (fun ls hl => ?_)
    refine lv_aload_n hx hb dX2_setFiniteRest_32 rfl (lv_at hl 3 rfl) ?_
    obtain ⟨v5, ev5, h⟩ := gb_s h
    refine g_get X hI (g_fI_s ev5) (C := RX2) (T := TX2) (N := 4) rfl gu_X2 (by decide) tw_1_37 dX2_setFiniteRest_33 ?_
    refine lv_aload_n hx hb dX2_setFiniteRest_36 rfl (lv_at hl 4 rfl) ?_
    obtain ⟨v6, ev6, h⟩ := gb_s h
    refine g_get X hI (g_fI_s ev6) (C := RX2) (T := TX2) (N := 4) rfl gu_X2 (by decide) tw_1_37 dX2_setFiniteRest_37 ?_
    refine lv_isub (x := v5) (y := v6) hx hb dX2_setFiniteRest_40 ?_
    obtain ⟨v7, ev7, h⟩ := gl_s h
    refine g_topi ev7 ?_
    refine lv_istore (lv' := [(7, .int v7), (5, .long v4), (3, .long v2), (0, .ref th), (1, .ref a1), (2, .ref a2)]) hx hb dX2_setFiniteRest_41 hl (by decide) rfl (fun ls hl => ?_)
    exact b_X2_setFiniteRest_43 X 5000 hI h (lv_sub hl [3, 4, 5, 2, 1, 0] rfl)
  · have h := g_t _ ((lg_cmp_eq _ _).mp c) h
    refine lv_aload_n hx hb dX2_setFiniteRest_14 rfl (lv_at hl 1 rfl) ?_
    refine lv_iconst (v := 3) hx hb dX2_setFiniteRest_15 (by decide) ?_
    refine lv_iconst (v := 0) hx hb dX2_setFiniteRest_16 (by decide) ?_
    obtain ⟨cO, h⟩ := gck_s h
    obtain ⟨G8, eG8, h⟩ := gb_s h
    refine g_callV X hI (q := (RX2, TX2, 4)) (b := th) (av := [.int 3, .int 0]) cO rfl (c_X2_setKind eG8) gm_X2_setKind tw_2_54 tw_2_56 tw_p_8 ⟨by decide, by decide⟩ hl.1 (rest := []) rfl (Nat.le_of_ble_eq_true rfl) dX2_setFiniteRest_17 ⟨by decide, by decide⟩ (st1 := []) rfl (cells' := 0) (slots' := 0) rfl rfl (fun H locs hI => ?_)
    have h := Option.some.inj h
    subst h
    exact g_vret X hI dX2_setFiniteRest_20
abbrev rm_X2_setRest : Room := { frames := 2, cells := 0, slots := 0, locals := 52 }
def f_X2_setRest_76 (G : gG) (x0 : Nat) (x1 : Nat) : Option gG :=
  gck (g_isO G x0 1) <|
  gb (f_X2_setAs G x0 x1) fun G1 =>
  some G1
set_option maxHeartbeats 4000000 in
set_option maxRecDepth 100000 in
theorem b_X2_setRest_76 {p : Program} {l : Launch} {e : Env} {s : State} {m : MethodId} {args : Array Value} {below : List Frame} {meth : Method} {c : Code} {E : gE} {G0 : gG} {n0 : Nat} (X : g_X E G0 n0 p s m args meth c cX2_setRest 4 RX2 "setRest" none) {G : gG} {n : Nat} {Gr : gG} {H : Heap} {locs : List Loc} (hI : g_I E (g_A G0 n0) G n s.heap H locs) {x0 : Nat} {x1 : Nat} (h : f_X2_setRest_76 G x0 x1 = some Gr) {ls : Array Slot} (hl : lv_has ls 4 [(0, .ref x0), (1, .ref x1)]) : W p l e rm_X2_setRest s m args below meth c H locs 0 0 (MQ below (g_Q E G0 n0 none Gr n) args s rm_X2_setRest.cells rm_X2_setRest.slots (g_A G0 n0)) (F0 m 76 ls []) := by
  have hx := X.1
  have hb := X.2.1
  unfold f_X2_setRest_76 at h
  refine lv_aload_n hx hb dX2_setRest_76 rfl (lv_at hl 0 rfl) ?_
  refine lv_aload_n hx hb dX2_setRest_77 rfl (lv_at hl 1 rfl) ?_
  obtain ⟨cO, h⟩ := gck_s h
  obtain ⟨G1, eG1, h⟩ := gb_s h
  refine g_callV X hI (q := (RX2, TX2, 4)) (b := x0) (av := [.ref x1]) cO rfl (c_X2_setAs eG1) gm_X2_setAs tw_2_141 tw_2_142 tw_2_143 ⟨by decide, by decide⟩ hl.1 (rest := []) rfl (Nat.le_of_ble_eq_true rfl) dX2_setRest_78 ⟨by decide, by decide⟩ (st1 := []) rfl (cells' := 0) (slots' := 0) rfl rfl (fun H locs hI => ?_)
  refine lv_goto (tgt := 90) hx hb dX2_setRest_81 (by decide) ?_
  have h := Option.some.inj h
  subst h
  exact g_vret X hI dX2_setRest_90
def f_X2_setRest_41 (G : gG) (x0 : Nat) : Option gG :=
  gck (g_isO G x0 1) <|
  gb (f_X2_setKind G x0 (3 : Int32) (0 : Int32)) fun G1 =>
  some G1
set_option maxHeartbeats 4000000 in
set_option maxRecDepth 100000 in
theorem b_X2_setRest_41 {p : Program} {l : Launch} {e : Env} {s : State} {m : MethodId} {args : Array Value} {below : List Frame} {meth : Method} {c : Code} {E : gE} {G0 : gG} {n0 : Nat} (X : g_X E G0 n0 p s m args meth c cX2_setRest 4 RX2 "setRest" none) {G : gG} {n : Nat} {Gr : gG} {H : Heap} {locs : List Loc} (hI : g_I E (g_A G0 n0) G n s.heap H locs) {x0 : Nat} (h : f_X2_setRest_41 G x0 = some Gr) {ls : Array Slot} (hl : lv_has ls 4 [(0, .ref x0)]) : W p l e rm_X2_setRest s m args below meth c H locs 0 0 (MQ below (g_Q E G0 n0 none Gr n) args s rm_X2_setRest.cells rm_X2_setRest.slots (g_A G0 n0)) (F0 m 41 ls []) := by
  have hx := X.1
  have hb := X.2.1
  unfold f_X2_setRest_41 at h
  refine lv_aload_n hx hb dX2_setRest_41 rfl (lv_at hl 0 rfl) ?_
  refine lv_iconst (v := 3) hx hb dX2_setRest_42 (by decide) ?_
  refine lv_iconst (v := 0) hx hb dX2_setRest_43 (by decide) ?_
  obtain ⟨cO, h⟩ := gck_s h
  obtain ⟨G1, eG1, h⟩ := gb_s h
  refine g_callV X hI (q := (RX2, TX2, 4)) (b := x0) (av := [.int 3, .int 0]) cO rfl (c_X2_setKind eG1) gm_X2_setKind tw_2_54 tw_2_56 tw_p_8 ⟨by decide, by decide⟩ hl.1 (rest := []) rfl (Nat.le_of_ble_eq_true rfl) dX2_setRest_44 ⟨by decide, by decide⟩ (st1 := []) rfl (cells' := 0) (slots' := 0) rfl rfl (fun H locs hI => ?_)
  refine lv_goto (tgt := 90) hx hb dX2_setRest_47 (by decide) ?_
  have h := Option.some.inj h
  subst h
  exact g_vret X hI dX2_setRest_90
def f_X2_setRest_21 (G : gG) (x0 : Nat) (x1 : Nat) (x2 : Nat) (s0 : Int32) : Option gG :=
  if s0 = 0 then
    gb (g_fI G x1 1 0) fun v1 =>
    if v1 = 2 then
      f_X2_setRest_41 G x0
    else
    gb (g_fI G x2 1 0) fun v2 =>
    if v2 = 0 then
      f_X2_setRest_41 G x0
    else
    gb (g_fI G x1 1 0) fun v3 =>
    if v3 = 0 then
      f_X2_setRest_76 G x0 x1
    else
    gb (g_fI G x2 1 0) fun v4 =>
    if v4 = 2 then
      f_X2_setRest_76 G x0 x1
    else
    gb (g_fI G x1 1 3) fun v5 =>
    gb (g_fI G x2 1 3) fun v6 =>
    if v6 ≤ v5 then
      gck (g_isO G x0 1) <|
      gb (f_X2_setFiniteRest G x0 x1 x2) fun G7 =>
      some G7
    else
    f_X2_setRest_76 G x0 x1
  else
  f_X2_setRest_41 G x0
set_option maxHeartbeats 4000000 in
set_option maxRecDepth 100000 in
theorem b_X2_setRest_21 {p : Program} {l : Launch} {e : Env} {s : State} {m : MethodId} {args : Array Value} {below : List Frame} {meth : Method} {c : Code} {E : gE} {G0 : gG} {n0 : Nat} (X : g_X E G0 n0 p s m args meth c cX2_setRest 4 RX2 "setRest" none) {G : gG} {n : Nat} {Gr : gG} {H : Heap} {locs : List Loc} (hI : g_I E (g_A G0 n0) G n s.heap H locs) {x0 : Nat} {x1 : Nat} {x2 : Nat} {s0 : Int32} (h : f_X2_setRest_21 G x0 x1 x2 s0 = some Gr) {ls : Array Slot} (hl : lv_has ls 4 [(0, .ref x0), (1, .ref x1), (2, .ref x2)]) : W p l e rm_X2_setRest s m args below meth c H locs 0 0 (MQ below (g_Q E G0 n0 none Gr n) args s rm_X2_setRest.cells rm_X2_setRest.slots (g_A G0 n0)) (F0 m 21 ls [.int s0]) := by
  have hx := X.1
  have hb := X.2.1
  unfold f_X2_setRest_21 at h
  refine lv_istore_n (lv' := [(3, .int s0), (0, .ref x0), (1, .ref x1), (2, .ref x2)]) hx hb dX2_setRest_21 rfl hl (by decide) rfl (fun ls hl => ?_)
  refine lv_iload_n hx hb dX2_setRest_22 rfl (lv_at hl 0 rfl) ?_
  refine lv_if_ne (tgt := 41) hx hb dX2_setRest_23 (by decide) (fun c => ?_) (fun c => ?_)
  · have h := g_f _ c h
    exact b_X2_setRest_41 X hI h (lv_sub hl [1] rfl)
  · have h := g_t _ c h
    refine lv_aload_n hx hb dX2_setRest_26 rfl (lv_at hl 2 rfl) ?_
    obtain ⟨v1, ev1, h⟩ := gb_s h
    refine g_get X hI (g_fI_s ev1) (C := RX2) (T := TX2) (N := 4) rfl gu_X2 (by decide) tw_1_32 dX2_setRest_27 ?_
    refine lv_iconst (v := 2) hx hb dX2_setRest_30 (by decide) ?_
    refine lv_icmp_eq (tgt := 41) hx hb dX2_setRest_31 (by decide) (fun c => ?_) (fun c => ?_)
    · have h := g_t _ c h
      exact b_X2_setRest_41 X hI h (lv_sub hl [1] rfl)
    · have h := g_f _ c h
      refine lv_aload_n hx hb dX2_setRest_34 rfl (lv_at hl 3 rfl) ?_
      obtain ⟨v2, ev2, h⟩ := gb_s h
      refine g_get X hI (g_fI_s ev2) (C := RX2) (T := TX2) (N := 4) rfl gu_X2 (by decide) tw_1_32 dX2_setRest_35 ?_
      refine lv_if_ne (tgt := 50) hx hb dX2_setRest_38 (by decide) (fun c => ?_) (fun c => ?_)
      · have h := g_f _ c h
        refine lv_aload_n hx hb dX2_setRest_50 rfl (lv_at hl 2 rfl) ?_
        obtain ⟨v3, ev3, h⟩ := gb_s h
        refine g_get X hI (g_fI_s ev3) (C := RX2) (T := TX2) (N := 4) rfl gu_X2 (by decide) tw_1_32 dX2_setRest_51 ?_
        refine lv_if_eq (tgt := 76) hx hb dX2_setRest_54 (by decide) (fun c => ?_) (fun c => ?_)
        · have h := g_t _ c h
          exact b_X2_setRest_76 X hI h (lv_sub hl [1, 2] rfl)
        · have h := g_f _ c h
          refine lv_aload_n hx hb dX2_setRest_57 rfl (lv_at hl 3 rfl) ?_
          obtain ⟨v4, ev4, h⟩ := gb_s h
          refine g_get X hI (g_fI_s ev4) (C := RX2) (T := TX2) (N := 4) rfl gu_X2 (by decide) tw_1_32 dX2_setRest_58 ?_
          refine lv_iconst (v := 2) hx hb dX2_setRest_61 (by decide) ?_
          refine lv_icmp_eq (tgt := 76) hx hb dX2_setRest_62 (by decide) (fun c => ?_) (fun c => ?_)
          · have h := g_t _ c h
            exact b_X2_setRest_76 X hI h (lv_sub hl [1, 2] rfl)
          · have h := g_f _ c h
            refine lv_aload_n hx hb dX2_setRest_65 rfl (lv_at hl 2 rfl) ?_
            obtain ⟨v5, ev5, h⟩ := gb_s h
            refine g_get X hI (g_fI_s ev5) (C := RX2) (T := TX2) (N := 4) rfl gu_X2 (by decide) tw_1_37 dX2_setRest_66 ?_
            refine lv_aload_n hx hb dX2_setRest_69 rfl (lv_at hl 3 rfl) ?_
            obtain ⟨v6, ev6, h⟩ := gb_s h
            refine g_get X hI (g_fI_s ev6) (C := RX2) (T := TX2) (N := 4) rfl gu_X2 (by decide) tw_1_37 dX2_setRest_70 ?_
            refine lv_icmp_ge (tgt := 84) hx hb dX2_setRest_73 (by decide) (fun c => ?_) (fun c => ?_)
            · have h := g_t _ c h
              refine lv_aload_n hx hb dX2_setRest_84 rfl (lv_at hl 1 rfl) ?_
              refine lv_aload_n hx hb dX2_setRest_85 rfl (lv_at hl 2 rfl) ?_
              refine lv_aload_n hx hb dX2_setRest_86 rfl (lv_at hl 3 rfl) ?_
              obtain ⟨cO, h⟩ := gck_s h
              obtain ⟨G7, eG7, h⟩ := gb_s h
              refine g_callV X hI (q := (RX2, TX2, 4)) (b := x0) (av := [.ref x1, .ref x2]) cO rfl (c_X2_setFiniteRest eG7) gm_X2_setFiniteRest tw_2_176 tw_2_178 tw_p_15 ⟨by decide, by decide⟩ hl.1 (rest := []) rfl (Nat.le_of_ble_eq_true rfl) dX2_setRest_87 ⟨by decide, by decide⟩ (st1 := []) rfl (cells' := 0) (slots' := 0) rfl rfl (fun H locs hI => ?_)
              have h := Option.some.inj h
              subst h
              exact g_vret X hI dX2_setRest_90
            · have h := g_f _ c h
              exact b_X2_setRest_76 X hI h (lv_sub hl [1, 2] rfl)
      · have h := g_t _ c h
        exact b_X2_setRest_41 X hI h (lv_sub hl [1] rfl)
def f_X2_setRest_16 (G : gG) (x0 : Nat) (x1 : Nat) (x2 : Nat) : Option gG :=
  f_X2_setRest_21 G x0 x1 x2 1
set_option maxHeartbeats 4000000 in
set_option maxRecDepth 100000 in
theorem b_X2_setRest_16 {p : Program} {l : Launch} {e : Env} {s : State} {m : MethodId} {args : Array Value} {below : List Frame} {meth : Method} {c : Code} {E : gE} {G0 : gG} {n0 : Nat} (X : g_X E G0 n0 p s m args meth c cX2_setRest 4 RX2 "setRest" none) {G : gG} {n : Nat} {Gr : gG} {H : Heap} {locs : List Loc} (hI : g_I E (g_A G0 n0) G n s.heap H locs) {x0 : Nat} {x1 : Nat} {x2 : Nat} (h : f_X2_setRest_16 G x0 x1 x2 = some Gr) {ls : Array Slot} (hl : lv_has ls 4 [(0, .ref x0), (1, .ref x1), (2, .ref x2)]) : W p l e rm_X2_setRest s m args below meth c H locs 0 0 (MQ below (g_Q E G0 n0 none Gr n) args s rm_X2_setRest.cells rm_X2_setRest.slots (g_A G0 n0)) (F0 m 16 ls []) := by
  have hx := X.1
  have hb := X.2.1
  unfold f_X2_setRest_16 at h
  refine lv_iconst (v := 1) hx hb dX2_setRest_16 (by decide) ?_
  refine lv_goto (tgt := 21) hx hb dX2_setRest_17 (by decide) ?_
  exact b_X2_setRest_21 X hI h (lv_sub hl [0, 1, 2] rfl)
def f_X2_setRest (G : gG) (th : Nat) (a1 : Nat) (a2 : Nat) : Option gG :=
  gb (g_fI G a1 1 0) fun v1 =>
  if v1 = 3 then
    f_X2_setRest_16 G th a1 a2
  else
  gb (g_fI G a2 1 0) fun v2 =>
  if v2 = 3 then
    f_X2_setRest_16 G th a1 a2
  else
  f_X2_setRest_21 G th a1 a2 0
theorem gm_X2_setRest : g_M yX2_setRest cX2_setRest 4 none 2 := ⟨tw_2_175, tw_1_3, by decide +kernel, Or.inl (by decide +kernel)⟩
set_option maxHeartbeats 4000000 in
set_option maxRecDepth 100000 in
theorem c_X2_setRest {l : Launch} {E : gE} {G : gG} {n : Nat} {th : Nat} {a1 : Nat} {a2 : Nat} {Gr : gG} (h : f_X2_setRest G th a1 a2 = some Gr) : g_Met l yX2_setRest cX2_setRest 4 none rm_X2_setRest E G n [.ref th, .ref a1, .ref a2] none Gr n := by
  refine g_ofW gm_X2_setRest (Nat.le_of_ble_eq_true rfl) ?_
  intro p e s m below meth c ls X hl hI
  have hx := X.1
  have hb := X.2.1
  have X : g_X E G n p s m _ meth c cX2_setRest 4 RX2 "setRest" none := X
  have hl : lv_has ls 4 [(0, .ref th), (1, .ref a1), (2, .ref a2)] := hl
  unfold f_X2_setRest at h
  refine lv_aload_n hx hb dX2_setRest_0 rfl (lv_at hl 1 rfl) ?_
  obtain ⟨v1, ev1, h⟩ := gb_s h
  refine g_get X hI (g_fI_s ev1) (C := RX2) (T := TX2) (N := 4) rfl gu_X2 (by decide) tw_1_32 dX2_setRest_1 ?_
  refine lv_iconst (v := 3) hx hb dX2_setRest_4 (by decide) ?_
  refine lv_icmp_eq (tgt := 16) hx hb dX2_setRest_5 (by decide) (fun c => ?_) (fun c => ?_)
  · have h := g_t _ c h
    exact b_X2_setRest_16 X hI h (lv_sub hl [0, 1, 2] rfl)
  · have h := g_f _ c h
    refine lv_aload_n hx hb dX2_setRest_8 rfl (lv_at hl 2 rfl) ?_
    obtain ⟨v2, ev2, h⟩ := gb_s h
    refine g_get X hI (g_fI_s ev2) (C := RX2) (T := TX2) (N := 4) rfl gu_X2 (by decide) tw_1_32 dX2_setRest_9 ?_
    refine lv_iconst (v := 3) hx hb dX2_setRest_12 (by decide) ?_
    refine lv_icmp_ne (tgt := 20) hx hb dX2_setRest_13 (by decide) (fun c => ?_) (fun c => ?_)
    · have h := g_f _ c h
      refine lv_iconst (v := 0) hx hb dX2_setRest_20 (by decide) ?_
      exact b_X2_setRest_21 X hI h (lv_sub hl [0, 1, 2] rfl)
    · have h := g_t _ c h
      exact b_X2_setRest_16 X hI h (lv_sub hl [0, 1, 2] rfl)
