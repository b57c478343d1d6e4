abbrev rm_X0_init : Room := { frames := 2, cells := 3, slots := 12, locals := 60 }
def f_X0_init (G : gG) (n : Nat) (th : Nat) : Option (gG × Nat) :=
  gl (g_up G n (.inl (1, [.int 0, .int 0, .long 0, .int 0]))) fun G1 =>
  gb (f_X2_init G1 n) fun G2 =>
  gb (g_sA G2 th 0 0 n) fun G3 =>
  gl (g_up G3 (n + 1) (.inl (1, [.int 0, .int 0, .long 0, .int 0]))) fun G4 =>
  gb (f_X2_init G4 (n + 1)) fun G5 =>
  gb (g_sA G5 th 0 1 (n + 1)) fun G6 =>
  gl (g_up G6 ((n + 1) + 1) (.inl (1, [.int 0, .int 0, .long 0, .int 0]))) fun G7 =>
  gb (f_X2_init G7 ((n + 1) + 1)) fun G8 =>
  gb (g_sA G8 th 0 2 ((n + 1) + 1)) fun G9 =>
  some (G9, (((n + 1) + 1) + 1))
theorem gm_X0_init : g_M yX0_init cX0_init 1 none 0 := ⟨tw_1_24, tw_1_2, by decide +kernel, Or.inl (by decide +kernel)⟩
set_option maxHeartbeats 4000000 in
set_option maxRecDepth 100000 in
theorem c_X0_init {l : Launch} {E : gE} {G : gG} {n : Nat} {th : Nat} {Gr : gG} {nr : Nat} (h : f_X0_init G n th = some (Gr, nr)) : g_Met l yX0_init cX0_init 1 none rm_X0_init E G n [.ref th] none Gr nr := by
  refine g_ofW gm_X0_init (Nat.le_of_ble_eq_true rfl) ?_
  intro p e s m below meth c ls X hl hI
  have hx := X.1
  have hb := X.2.1
  have X : g_X E G n p s m _ meth c cX0_init 1 RX0 "<init>" none := X
  have hl : lv_has ls 1 [(0, .ref th)] := hl
  unfold f_X0_init at h
  refine lv_aload_n hx hb dX0_init_0 rfl (lv_at hl 0 rfl) ?_
  refine g_obji X tw_1_25 tw_1_16 tw_1_17 hl.1 dX0_init_1 (by decide) (by decide) ?_
  refine lv_aload_n hx hb dX0_init_4 rfl (lv_at hl 0 rfl) ?_
  obtain ⟨G1, eG1, h⟩ := gl_s h
  refine g_new X hI (ci := 1) (fs := [.int 0, .int 0, .long 0, .int 0]) (C := RX2) (T := TX2) (N := 4) rfl gu_X2 tyX2 tyX2_ok tw_1_26 tw_1_27 tw_1_3 (fun j hj => by rcases (show j = 0 ∨ j = 1 ∨ j = 2 ∨ j = 3 by omega) with rfl | rfl | rfl | rfl <;> rfl) (by decide) (by decide) dX0_init_5 (fun H hI => ?_)
  rw [eG1] at hI
  refine W.cs (cells' := 1) (slots' := 4) rfl rfl ?_
  refine lv_dup hx hb dX0_init_8 rfl ?_
  obtain ⟨G2, eG2, h⟩ := gb_s h
  refine g_callN X hI (b := n) (av := []) (c_X2_init eG2) gm_X2_init X.2.2.2.2.2.1.2.2.1 tw_1_29 rfl ⟨by decide, by decide⟩ hl.1 (rest := [.ref n, .ref th]) rfl (Nat.le_of_ble_eq_true rfl) dX0_init_9 ⟨by decide, by decide⟩ (st1 := [.ref n, .ref th]) rfl (cells' := 1) (slots' := 4) rfl rfl (fun H locs hI => ?_)
  obtain ⟨G3, eG3, h⟩ := gb_s h
  refine g_putF X hI (k := 0) (v := .ref n) (G' := G3) eG3 (C := RX0) (T := TX0) (N := 3) rfl gu_X0 tyX0 tyX0_ok nmX0 (by decide) tw_1_47 rfl rfl rfl rfl rfl dX0_init_12 (fun H locs hI => ?_)
  refine lv_aload_n hx hb dX0_init_15 rfl (lv_at hl 0 rfl) ?_
  obtain ⟨G4, eG4, h⟩ := gl_s h
  refine g_new X hI (ci := 1) (fs := [.int 0, .int 0, .long 0, .int 0]) (C := RX2) (T := TX2) (N := 4) rfl gu_X2 tyX2 tyX2_ok tw_1_26 tw_1_27 tw_1_3 (fun j hj => by rcases (show j = 0 ∨ j = 1 ∨ j = 2 ∨ j = 3 by omega) with rfl | rfl | rfl | rfl <;> rfl) (by decide) (by decide) dX0_init_16 (fun H hI => ?_)
  rw [eG4] at hI
  refine W.cs (cells' := 2) (slots' := 8) rfl rfl ?_
  refine lv_dup hx hb dX0_init_19 rfl ?_
  obtain ⟨G5, eG5, h⟩ := gb_s h
  refine g_callN X hI (b := (n + 1)) (av := []) (c_X2_init eG5) gm_X2_init X.2.2.2.2.2.1.2.2.1 tw_1_29 rfl ⟨by decide, by decide⟩ hl.1 (rest := [.ref (n + 1), .ref th]) rfl (Nat.le_of_ble_eq_true rfl) dX0_init_20 ⟨by decide, by decide⟩ (st1 := [.ref (n + 1), .ref th]) rfl (cells' := 2) (slots' := 8) rfl rfl (fun H locs hI => ?_)
  obtain ⟨G6, eG6, h⟩ := gb_s h
  refine g_putF X hI (k := 1) (v := .ref (n + 1)) (G' := G6) eG6 (C := RX0) (T := TX0) (N := 3) rfl gu_X0 tyX0 tyX0_ok nmX0 (by decide) tw_1_48 rfl rfl rfl rfl rfl dX0_init_23 (fun H locs hI => ?_)
  refine lv_aload_n hx hb dX0_init_26 rfl (lv_at hl 0 rfl) ?_
  obtain ⟨G7, eG7, h⟩ := gl_s h
  refine g_new X hI (ci := 1) (fs := [.int 0, .int 0, .long 0, .int 0]) (C := RX2) (T := TX2) (N := 4) rfl gu_X2 tyX2 tyX2_ok tw_1_26 tw_1_27 tw_1_3 (fun j hj => by rcases (show j = 0 ∨ j = 1 ∨ j = 2 ∨ j = 3 by omega) with rfl | rfl | rfl | rfl <;> rfl) (by decide) (by decide) dX0_init_27 (fun H hI => ?_)
  rw [eG7] at hI
  refine W.cs (cells' := 3) (slots' := 12) rfl rfl ?_
  refine lv_dup hx hb dX0_init_30 rfl ?_
  obtain ⟨G8, eG8, h⟩ := gb_s h
  refine g_callN X hI (b := ((n + 1) + 1)) (av := []) (c_X2_init eG8) gm_X2_init X.2.2.2.2.2.1.2.2.1 tw_1_29 rfl ⟨by decide, by decide⟩ hl.1 (rest := [.ref ((n + 1) + 1), .ref th]) rfl (Nat.le_of_ble_eq_true rfl) dX0_init_31 ⟨by decide, by decide⟩ (st1 := [.ref ((n + 1) + 1), .ref th]) rfl (cells' := 3) (slots' := 12) rfl rfl (fun H locs hI => ?_)
  obtain ⟨G9, eG9, h⟩ := gb_s h
  refine g_putF X hI (k := 2) (v := .ref ((n + 1) + 1)) (G' := G9) eG9 (C := RX0) (T := TX0) (N := 3) rfl gu_X0 tyX0 tyX0_ok nmX0 (by decide) tw_1_49 rfl rfl rfl rfl rfl dX0_init_34 (fun H locs hI => ?_)
  obtain ⟨h, h2⟩ := g_sp2 h
  subst h
  subst h2
  exact g_vret X hI dX0_init_37
abbrev rm_X0_isByZero : Room := { frames := 1, cells := 0, slots := 0, locals := 20 }
def f_X0_isByZero (a0 : Int32) (a1 : Int32) (a2 : Int64) : Int32 :=
  if a2 = 0 then
    if a0 < 4 then
      0
    else
    if (7 : Int32) < a0 then
      0
    else
    if (f_X1_isReal a1) = 0 then
      1
    else
    0
  else
  0
theorem gm_X0_isByZero : g_M yX0_isByZero cX0_isByZero 4 (some .boolean) 3 := ⟨tw_2_104, tw_1_2, by decide +kernel, Or.inl (by decide +kernel)⟩
set_option maxHeartbeats 4000000 in
set_option maxRecDepth 100000 in
theorem c_X0_isByZero {l : Launch} {E : gE} {G : gG} {n : Nat} (a0 : Int32) (a1 : Int32) (a2 : Int64) : g_Met l yX0_isByZero cX0_isByZero 4 (some .boolean) rm_X0_isByZero E G n [.int a0, .int a1, .long a2] (some (.int (f_X0_isByZero a0 a1 a2))) G n := by
  generalize h : f_X0_isByZero a0 a1 a2 = r
  refine g_ofW gm_X0_isByZero (Nat.le_of_ble_eq_true rfl) ?_
  intro p e s m below meth c ls X hl hI
  have hx := X.1
  have hb := X.2.1
  have X : g_X E G n p s m _ meth c cX0_isByZero 4 RX0 "isByZero" (some .boolean) := X
  have hl : lv_has ls 4 [(0, .int a0), (1, .int a1), (2, .long a2)] := hl
  unfold f_X0_isByZero at h
  refine lv_lload_n hx hb dX0_isByZero_0 rfl (lv_at hl 2 rfl) ?_
  refine lv_lconst (v := 0) hx hb dX0_isByZero_1 (by decide) ?_
  refine W.lcmp hx hb dX0_isByZero_2 ?_
  refine lv_if_ne (tgt := 28) hx hb dX0_isByZero_3 (by decide) (fun c => ?_) (fun c => ?_)
  · have h := g_f _ ((not_congr (lg_cmp_eq _ _)).mp c) h
    refine lv_iconst (v := 0) hx hb dX0_isByZero_28 (by decide) ?_
    subst h
    exact g_zret X hI (Or.inl rfl) dX0_isByZero_29
  · have h := g_t _ ((lg_cmp_eq _ _).mp c) h
    refine lv_iload_n hx hb dX0_isByZero_6 rfl (lv_at hl 0 rfl) ?_
    refine lv_iconst (v := 4) hx hb dX0_isByZero_7 (by decide) ?_
    refine lv_icmp_lt (tgt := 28) hx hb dX0_isByZero_8 (by decide) (fun c => ?_) (fun c => ?_)
    · have h := g_t _ c h
      refine lv_iconst (v := 0) hx hb dX0_isByZero_28 (by decide) ?_
      subst h
      exact g_zret X hI (Or.inl rfl) dX0_isByZero_29
    · have h := g_f _ c h
      refine lv_iload_n hx hb dX0_isByZero_11 rfl (lv_at hl 0 rfl) ?_
      refine lv_bipush (v := 7) hx hb dX0_isByZero_12 (by decide) ?_
      refine lv_icmp_gt (tgt := 28) hx hb dX0_isByZero_14 (by decide) (fun c => ?_) (fun c => ?_)
      · have h := g_t _ c h
        refine lv_iconst (v := 0) hx hb dX0_isByZero_28 (by decide) ?_
        subst h
        exact g_zret X hI (Or.inl rfl) dX0_isByZero_29
      · have h := g_f _ c h
        refine lv_iload_n hx hb dX0_isByZero_17 rfl (lv_at hl 1 rfl) ?_
        refine g_callS X hI (av := [.int a1]) (c_X1_isReal a1) gm_X1_isReal tw_2_48 tw_2_11 ⟨by decide, by decide⟩ hl.1 (rest := []) rfl (Nat.le_of_ble_eq_true rfl) dX0_isByZero_18 ⟨by decide, by decide⟩ (st1 := [.int (f_X1_isReal a1)]) rfl (cells' := 0) (slots' := 0) rfl rfl (fun H locs hI => ?_)
        refine lv_if_ne (tgt := 28) hx hb dX0_isByZero_21 (by decide) (fun c => ?_) (fun c => ?_)
        · have h := g_f _ c h
          refine lv_iconst (v := 0) hx hb dX0_isByZero_28 (by decide) ?_
          subst h
          exact g_zret X hI (Or.inl rfl) dX0_isByZero_29
        · have h := g_t _ c h
          refine lv_iconst (v := 1) hx hb dX0_isByZero_24 (by decide) ?_
          refine lv_goto (tgt := 29) hx hb dX0_isByZero_25 (by decide) ?_
          subst h
          exact g_zret X hI (Or.inr rfl) dX0_isByZero_29
abbrev rm_X0_wholeOf : Room := { frames := 1, cells := 0, slots := 0, locals := 23 }
def f_X0_wholeOf (G : gG) (a0 : Nat) (a1 : Int32) : Option Int64 :=
  gck (g_isO G a0 1) <|
  gb (f_X2_toLong G a0) fun r1 =>
  if a1 = 3 then
    some r1
  else
  gl ((f_J9_max_f86c9 (-2147483648 : Int64) (f_J9_min_f86c9 (2147483647 : Int64) r1)) : Int64) fun v2 =>
  some (f_X1_lowestBits v2 a1)
theorem gm_X0_wholeOf : g_M yX0_wholeOf cX0_wholeOf 6 (some .long) 2 := ⟨tw_2_88, tw_1_2, by decide +kernel, Or.inl (by decide +kernel)⟩
set_option maxHeartbeats 4000000 in
set_option maxRecDepth 100000 in
theorem c_X0_wholeOf {l : Launch} {E : gE} {G : gG} {n : Nat} {a0 : Nat} {a1 : Int32} {r : Int64} (h : f_X0_wholeOf G a0 a1 = some r) : g_Met l yX0_wholeOf cX0_wholeOf 6 (some .long) rm_X0_wholeOf E G n [.ref a0, .int a1] (some (.long r)) G n := by
  refine g_ofW gm_X0_wholeOf (Nat.le_of_ble_eq_true rfl) ?_
  intro p e s m below meth c ls X hl hI
  have hx := X.1
  have hb := X.2.1
  have X : g_X E G n p s m _ meth c cX0_wholeOf 6 RX0 "wholeOf" (some .long) := X
  have hl : lv_has ls 6 [(0, .ref a0), (1, .int a1)] := hl
  unfold f_X0_wholeOf at h
  refine lv_aload_n hx hb dX0_wholeOf_0 rfl (lv_at hl 0 rfl) ?_
  obtain ⟨cO, h⟩ := gck_s h
  obtain ⟨r1, er1, h⟩ := gb_s h
  refine g_callV X hI (q := (RX2, TX2, 4)) (b := a0) (av := []) cO rfl (c_X2_toLong er1) gm_X2_toLong tw_2_89 tw_2_90 tw_2_91 ⟨by decide, by decide⟩ hl.1 (rest := []) rfl (Nat.le_of_ble_eq_true rfl) dX0_wholeOf_1 ⟨by decide, by decide⟩ (st1 := [.long r1]) rfl (cells' := 0) (slots' := 0) rfl rfl (fun H locs hI => ?_)
  refine lv_lstore_n (lv' := [(2, .long r1), (0, .ref a0), (1, .int a1)]) hx hb dX0_wholeOf_4 rfl hl (by decide) rfl (fun ls hl => ?_)
  refine lv_iload_n hx hb dX0_wholeOf_5 rfl (lv_at hl 2 rfl) ?_
  refine lv_iconst (v := 3) hx hb dX0_wholeOf_6 (by decide) ?_
  refine lv_icmp_ne (tgt := 12) hx hb dX0_wholeOf_7 (by decide) (fun c => ?_) (fun c => ?_)
  · have h := g_f _ c h
    refine lv_ldc2 (v := (-2147483648)) hx hb X.2.2.2.1 (X.2.2.2.2.1 _ tw_2_94) dX0_wholeOf_12 ?_
    refine lv_ldc2 (v := 2147483647) hx hb X.2.2.2.1 (X.2.2.2.2.1 _ tw_2_95) dX0_wholeOf_15 ?_
    refine lv_lload_n hx hb dX0_wholeOf_18 rfl (lv_at hl 0 rfl) ?_
    refine g_callS X hI (av := [.long 2147483647, .long r1]) (c_J9_min_f86c9 (2147483647 : Int64) r1) gm_J9_min_f86c9 tw_2_96 tw_2_97 ⟨by decide, by decide⟩ hl.1 (rest := [.long (-2147483648)]) rfl (Nat.le_of_ble_eq_true rfl) dX0_wholeOf_19 ⟨by decide, by decide⟩ (st1 := [.long (f_J9_min_f86c9 (2147483647 : Int64) r1), .long (-2147483648)]) rfl (cells' := 0) (slots' := 0) rfl rfl (fun H locs hI => ?_)
    refine g_callS X hI (av := [.long (-2147483648), .long (f_J9_min_f86c9 (2147483647 : Int64) r1)]) (c_J9_max_f86c9 (-2147483648 : Int64) (f_J9_min_f86c9 (2147483647 : Int64) r1)) gm_J9_max_f86c9 tw_2_99 tw_2_100 ⟨by decide, by decide⟩ hl.1 (rest := []) rfl (Nat.le_of_ble_eq_true rfl) dX0_wholeOf_22 ⟨by decide, by decide⟩ (st1 := [.long (f_J9_max_f86c9 (-2147483648 : Int64) (f_J9_min_f86c9 (2147483647 : Int64) r1))]) rfl (cells' := 0) (slots' := 0) rfl rfl (fun H locs hI => ?_)
    obtain ⟨v2, ev2, h⟩ := gl_s h
    refine g_topl ev2 ?_
    refine lv_lstore (lv' := [(4, .long v2), (2, .long r1), (0, .ref a0), (1, .int a1)]) hx hb dX0_wholeOf_25 hl (by decide) rfl (fun ls hl => ?_)
    refine lv_lload hx hb dX0_wholeOf_27 (lv_at hl 0 rfl) ?_
    refine lv_iload_n hx hb dX0_wholeOf_29 rfl (lv_at hl 3 rfl) ?_
    refine g_callS X hI (av := [.long v2, .int a1]) (c_X1_lowestBits v2 a1) gm_X1_lowestBits tw_2_49 tw_1_192 ⟨by decide, by decide⟩ hl.1 (rest := []) rfl (Nat.le_of_ble_eq_true rfl) dX0_wholeOf_30 ⟨by decide, by decide⟩ (st1 := [.long (f_X1_lowestBits v2 a1)]) rfl (cells' := 0) (slots' := 0) rfl rfl (fun H locs hI => ?_)
    have h := Option.some.inj h
    subst h
    exact g_lret X hI dX0_wholeOf_33
  · have h := g_t _ c h
    refine lv_lload_n hx hb dX0_wholeOf_10 rfl (lv_at hl 0 rfl) ?_
    have h := Option.some.inj h
    subst h
    exact g_lret X hI dX0_wholeOf_11
abbrev rm_X0_moved : Room := { frames := 3, cells := 0, slots := 0, locals := 78 }
def f_X0_moved_76 (G : gG) (x0 : Nat) (x4 : Int32) : Option (Int64 × gG) :=
  if (f_X1_isReal x4) = 0 then
    gb (g_fA G x0 0 0) fun g1 =>
    gb (f_X0_wholeOf G g1 x4) fun r2 =>
    some (r2, G)
  else
  gb (g_fA G x0 0 0) fun g3 =>
  gck (g_isO G g3 1) <|
  gb (f_X2_toValue G g3 x4) fun r4 =>
  some (r4, G)
set_option maxHeartbeats 4000000 in
set_option maxRecDepth 100000 in
theorem b_X0_moved_76 {p : Program} {l : Launch} {e : Env} {s : State} {m : MethodId} {args : Array Value} {below : List Frame} {meth : Method} {c : Code} {E : gE} {G0 : gG} {n0 : Nat} (X : g_X E G0 n0 p s m args meth c cX0_moved 5 RX0 "moved" (some .long)) {G : gG} {n : Nat} {r : Int64} {Gr : gG} {H : Heap} {locs : List Loc} (hI : g_I E (g_A G0 n0) G n s.heap H locs) {x0 : Nat} {x4 : Int32} (h : f_X0_moved_76 G x0 x4 = some (r, Gr)) {ls : Array Slot} (hl : lv_has ls 5 [(0, .ref x0), (4, .int x4)]) : W p l e rm_X0_moved s m args below meth c H locs 0 0 (MQ below (g_Q E G0 n0 (some (.long r)) Gr n) args s rm_X0_moved.cells rm_X0_moved.slots (g_A G0 n0)) (F0 m 76 ls []) := by
  have hx := X.1
  have hb := X.2.1
  unfold f_X0_moved_76 at h
  refine lv_iload hx hb dX0_moved_76 (lv_at hl 1 rfl) ?_
  refine g_callS X hI (av := [.int x4]) (c_X1_isReal x4) gm_X1_isReal tw_2_48 tw_2_11 ⟨by decide, by decide⟩ hl.1 (rest := []) rfl (Nat.le_of_ble_eq_true rfl) dX0_moved_78 ⟨by decide, by decide⟩ (st1 := [.int (f_X1_isReal x4)]) rfl (cells' := 0) (slots' := 0) rfl rfl (fun H locs hI => ?_)
  refine lv_if_eq (tgt := 96) hx hb dX0_moved_81 (by decide) (fun c => ?_) (fun c => ?_)
  · have h := g_t _ c h
    refine lv_aload_n hx hb dX0_moved_96 rfl (lv_at hl 0 rfl) ?_
    obtain ⟨g1, eg1, h⟩ := gb_s h
    refine g_get X hI (g_fA_s eg1) (C := RX0) (T := TX0) (N := 3) rfl gu_X0 (by decide) tw_1_47 dX0_moved_97 ?_
    refine lv_iload hx hb dX0_moved_100 (lv_at hl 1 rfl) ?_
    obtain ⟨r2, er2, h⟩ := gb_s h
    refine g_callS X hI (av := [.ref g1, .int x4]) (c_X0_wholeOf er2) gm_X0_wholeOf tw_2_86 tw_2_87 ⟨by decide, by decide⟩ hl.1 (rest := []) rfl (Nat.le_of_ble_eq_true rfl) dX0_moved_102 ⟨by decide, by decide⟩ (st1 := [.long r2]) rfl (cells' := 0) (slots' := 0) rfl rfl (fun H locs hI => ?_)
    obtain ⟨h, h2⟩ := g_sp2 h
    subst h
    subst h2
    exact g_lret X hI dX0_moved_105
  · have h := g_f _ c h
    refine lv_aload_n hx hb dX0_moved_84 rfl (lv_at hl 0 rfl) ?_
    obtain ⟨g3, eg3, h⟩ := gb_s h
    refine g_get X hI (g_fA_s eg3) (C := RX0) (T := TX0) (N := 3) rfl gu_X0 (by decide) tw_1_47 dX0_moved_85 ?_
    refine lv_iload hx hb dX0_moved_88 (lv_at hl 1 rfl) ?_
    obtain ⟨cO, h⟩ := gck_s h
    obtain ⟨r4, er4, h⟩ := gb_s h
    refine g_callV X hI (q := (RX2, TX2, 4)) (b := g3) (av := [.int x4]) cO rfl (c_X2_toValue er4) gm_X2_toValue tw_2_71 tw_2_72 tw_2_73 ⟨by decide, by decide⟩ hl.1 (rest := []) rfl (Nat.le_of_ble_eq_true rfl) dX0_moved_90 ⟨by decide, by decide⟩ (st1 := [.long r4]) rfl (cells' := 0) (slots' := 0) rfl rfl (fun H locs hI => ?_)
    refine lv_goto (tgt := 105) hx hb dX0_moved_93 (by decide) ?_
    obtain ⟨h, h2⟩ := g_sp2 h
    subst h
    subst h2
    exact g_lret X hI dX0_moved_105
def f_X0_moved_49 (G : gG) (x0 : Nat) (x1 : Int64) (x3 : Int32) (x4 : Int32) : Option (Int64 × gG) :=
  if (f_X1_isReal x3) = 0 then
    gb (g_fA G x0 0 0) fun g1 =>
    gck (g_isO G g1 1) <|
    gb (f_X2_setWhole G g1 x1) fun G2 =>
    f_X0_moved_76 G2 x0 x4
  else
  gb (g_fA G x0 0 0) fun g3 =>
  gck (g_isO G g3 1) <|
  gb (f_X2_setValue G g3 x1 x3) fun G4 =>
  f_X0_moved_76 G4 x0 x4
set_option maxHeartbeats 4000000 in
set_option maxRecDepth 100000 in
theorem b_X0_moved_49 {p : Program} {l : Launch} {e : Env} {s : State} {m : MethodId} {args : Array Value} {below : List Frame} {meth : Method} {c : Code} {E : gE} {G0 : gG} {n0 : Nat} (X : g_X E G0 n0 p s m args meth c cX0_moved 5 RX0 "moved" (some .long)) {G : gG} {n : Nat} {r : Int64} {Gr : gG} {H : Heap} {locs : List Loc} (hI : g_I E (g_A G0 n0) G n s.heap H locs) {x0 : Nat} {x1 : Int64} {x3 : Int32} {x4 : Int32} (h : f_X0_moved_49 G x0 x1 x3 x4 = some (r, Gr)) {ls : Array Slot} (hl : lv_has ls 5 [(0, .ref x0), (1, .long x1), (3, .int x3), (4, .int x4)]) : W p l e rm_X0_moved s m args below meth c H locs 0 0 (MQ below (g_Q E G0 n0 (some (.long r)) Gr n) args s rm_X0_moved.cells rm_X0_moved.slots (g_A G0 n0)) (F0 m 49 ls []) := by
  have hx := X.1
  have hb := X.2.1
  unfold f_X0_moved_49 at h
  refine lv_iload_n hx hb dX0_moved_49 rfl (lv_at hl 2 rfl) ?_
  refine g_callS X hI (av := [.int x3]) (c_X1_isReal x3) gm_X1_isReal tw_2_48 tw_2_11 ⟨by decide, by decide⟩ hl.1 (rest := []) rfl (Nat.le_of_ble_eq_true rfl) dX0_moved_50 ⟨by decide, by decide⟩ (st1 := [.int (f_X1_isReal x3)]) rfl (cells' := 0) (slots' := 0) rfl rfl (fun H locs hI => ?_)
  refine lv_if_eq (tgt := 68) hx hb dX0_moved_53 (by decide) (fun c => ?_) (fun c => ?_)
  · have h := g_t _ c h
    refine lv_aload_n hx hb dX0_moved_68 rfl (lv_at hl 0 rfl) ?_
    obtain ⟨g1, eg1, h⟩ := gb_s h
    refine g_get X hI (g_fA_s eg1) (C := RX0) (T := TX0) (N := 3) rfl gu_X0 (by decide) tw_1_47 dX0_moved_69 ?_
    refine lv_lload_n hx hb dX0_moved_72 rfl (lv_at hl 1 rfl) ?_
    obtain ⟨cO, h⟩ := gck_s h
    obtain ⟨G2, eG2, h⟩ := gb_s h
    refine g_callV X hI (q := (RX2, TX2, 4)) (b := g1) (av := [.long x1]) cO rfl (c_X2_setWhole eG2) gm_X2_setWhole tw_2_62 tw_2_63 tw_2_64 ⟨by decide, by decide⟩ hl.1 (rest := []) rfl (Nat.le_of_ble_eq_true rfl) dX0_moved_73 ⟨by decide, by decide⟩ (st1 := []) rfl (cells' := 0) (slots' := 0) rfl rfl (fun H locs hI => ?_)
    exact b_X0_moved_76 X hI h (lv_sub hl [0, 3] rfl)
  · have h := g_f _ c h
    refine lv_aload_n hx hb dX0_moved_56 rfl (lv_at hl 0 rfl) ?_
    obtain ⟨g3, eg3, h⟩ := gb_s h
    refine g_get X hI (g_fA_s eg3) (C := RX0) (T := TX0) (N := 3) rfl gu_X0 (by decide) tw_1_47 dX0_moved_57 ?_
    refine lv_lload_n hx hb dX0_moved_60 rfl (lv_at hl 1 rfl) ?_
    refine lv_iload_n hx hb dX0_moved_61 rfl (lv_at hl 2 rfl) ?_
    obtain ⟨cO, h⟩ := gck_s h
    obtain ⟨G4, eG4, h⟩ := gb_s h
    refine g_callV X hI (q := (RX2, TX2, 4)) (b := g3) (av := [.long x1, .int x3]) cO rfl (c_X2_setValue eG4) gm_X2_setValue tw_2_50 tw_2_51 tw_2_52 ⟨by decide, by decide⟩ hl.1 (rest := []) rfl (Nat.le_of_ble_eq_true rfl) dX0_moved_62 ⟨by decide, by decide⟩ (st1 := []) rfl (cells' := 0) (slots' := 0) rfl rfl (fun H locs hI => ?_)
    refine lv_goto (tgt := 76) hx hb dX0_moved_65 (by decide) ?_
    exact b_X0_moved_76 X hI h (lv_sub hl [0, 3] rfl)
def f_X0_moved (G : gG) (th : Nat) (a1 : Int64) (a3 : Int32) (a4 : Int32) : Option (Int64 × gG) :=
  if a3 = a4 then
    some (a1, G)
  else
  if a4 = 0 then
    if (f_X1_isZero a1 a3) = 0 then
      some (1, G)
    else
    some (0, G)
  else
  if (f_X1_isReal a3) = 0 then
    if (f_X1_isReal a4) = 0 then
      some ((f_X1_lowestBits a1 a4), G)
    else
    f_X0_moved_49 G th a1 a3 a4
  else
  f_X0_moved_49 G th a1 a3 a4
theorem gm_X0_moved : g_M yX0_moved cX0_moved 5 (some .long) 3 := ⟨tw_2_42, tw_1_2, by decide +kernel, Or.inl (by decide +kernel)⟩
set_option maxHeartbeats 4000000 in
set_option maxRecDepth 100000 in
theorem c_X0_moved {l : Launch} {E : gE} {G : gG} {n : Nat} {th : Nat} {a1 : Int64} {a3 : Int32} {a4 : Int32} {r : Int64} {Gr : gG} (h : f_X0_moved G th a1 a3 a4 = some (r, Gr)) : g_Met l yX0_moved cX0_moved 5 (some .long) rm_X0_moved E G n [.ref th, .long a1, .int a3, .int a4] (some (.long r)) Gr n := by
  refine g_ofW gm_X0_moved (Nat.le_of_ble_eq_true rfl) ?_
  intro p e s m below meth c ls X hl hI
  have hx := X.1
  have hb := X.2.1
  have X : g_X E G n p s m _ meth c cX0_moved 5 RX0 "moved" (some .long) := X
  have hl : lv_has ls 5 [(0, .ref th), (1, .long a1), (3, .int a3), (4, .int a4)] := hl
  unfold f_X0_moved at h
  refine lv_iload_n hx hb dX0_moved_0 rfl (lv_at hl 2 rfl) ?_
  refine lv_iload hx hb dX0_moved_1 (lv_at hl 3 rfl) ?_
  refine lv_icmp_ne (tgt := 8) hx hb dX0_moved_3 (by decide) (fun c => ?_) (fun c => ?_)
  · have h := g_f _ c h
    refine lv_iload hx hb dX0_moved_8 (lv_at hl 3 rfl) ?_
    refine lv_if_ne (tgt := 27) hx hb dX0_moved_10 (by decide) (fun c => ?_) (fun c => ?_)
    · have h := g_f _ c h
      refine lv_iload_n hx hb dX0_moved_27 rfl (lv_at hl 2 rfl) ?_
      refine g_callS X hI (av := [.int a3]) (c_X1_isReal a3) gm_X1_isReal tw_2_48 tw_2_11 ⟨by decide, by decide⟩ hl.1 (rest := []) rfl (Nat.le_of_ble_eq_true rfl) dX0_moved_28 ⟨by decide, by decide⟩ (st1 := [.int (f_X1_isReal a3)]) rfl (cells' := 0) (slots' := 0) rfl rfl (fun H locs hI => ?_)
      refine lv_if_ne (tgt := 49) hx hb dX0_moved_31 (by decide) (fun c => ?_) (fun c => ?_)
      · have h := g_f _ c h
        exact b_X0_moved_49 X hI h (lv_sub hl [0, 1, 2, 3] rfl)
      · have h := g_t _ c h
        refine lv_iload hx hb dX0_moved_34 (lv_at hl 3 rfl) ?_
        refine g_callS X hI (av := [.int a4]) (c_X1_isReal a4) gm_X1_isReal tw_2_48 tw_2_11 ⟨by decide, by decide⟩ hl.1 (rest := []) rfl (Nat.le_of_ble_eq_true rfl) dX0_moved_36 ⟨by decide, by decide⟩ (st1 := [.int (f_X1_isReal a4)]) rfl (cells' := 0) (slots' := 0) rfl rfl (fun H locs hI => ?_)
        refine lv_if_ne (tgt := 49) hx hb dX0_moved_39 (by decide) (fun c => ?_) (fun c => ?_)
        · have h := g_f _ c h
          exact b_X0_moved_49 X hI h (lv_sub hl [0, 1, 2, 3] rfl)
        · have h := g_t _ c h
          refine lv_lload_n hx hb dX0_moved_42 rfl (lv_at hl 1 rfl) ?_
          refine lv_iload hx hb dX0_moved_43 (lv_at hl 3 rfl) ?_
          refine g_callS X hI (av := [.long a1, .int a4]) (c_X1_lowestBits a1 a4) gm_X1_lowestBits tw_2_49 tw_1_192 ⟨by decide, by decide⟩ hl.1 (rest := []) rfl (Nat.le_of_ble_eq_true rfl) dX0_moved_45 ⟨by decide, by decide⟩ (st1 := [.long (f_X1_lowestBits a1 a4)]) rfl (cells' := 0) (slots' := 0) rfl rfl (fun H locs hI => ?_)
          obtain ⟨h, h2⟩ := g_sp2 h
          subst h
          subst h2
          exact g_lret X hI dX0_moved_48
    · have h := g_t _ c h
      refine lv_lload_n hx hb dX0_moved_13 rfl (lv_at hl 1 rfl) ?_
      refine lv_iload_n hx hb dX0_moved_14 rfl (lv_at hl 2 rfl) ?_
      refine g_callS X hI (av := [.long a1, .int a3]) (c_X1_isZero a1 a3) gm_X1_isZero tw_2_43 tw_2_44 ⟨by decide, by decide⟩ hl.1 (rest := []) rfl (Nat.le_of_ble_eq_true rfl) dX0_moved_15 ⟨by decide, by decide⟩ (st1 := [.int (f_X1_isZero a1 a3)]) rfl (cells' := 0) (slots' := 0) rfl rfl (fun H locs hI => ?_)
      refine lv_if_eq (tgt := 25) hx hb dX0_moved_18 (by decide) (fun c => ?_) (fun c => ?_)
      · have h := g_t _ c h
        refine lv_lconst (v := 1) hx hb dX0_moved_25 (by decide) ?_
        obtain ⟨h, h2⟩ := g_sp2 h
        subst h
        subst h2
        exact g_lret X hI dX0_moved_26
      · have h := g_f _ c h
        refine lv_lconst (v := 0) hx hb dX0_moved_21 (by decide) ?_
        refine lv_goto (tgt := 26) hx hb dX0_moved_22 (by decide) ?_
        obtain ⟨h, h2⟩ := g_sp2 h
        subst h
        subst h2
        exact g_lret X hI dX0_moved_26
  · have h := g_t _ c h
    refine lv_lload_n hx hb dX0_moved_6 rfl (lv_at hl 1 rfl) ?_
    obtain ⟨h, h2⟩ := g_sp2 h
    subst h
    subst h2
    exact g_lret X hI dX0_moved_7
abbrev rm_X0_rankOf : Room := { frames := 1, cells := 0, slots := 0, locals := 20 }
def f_X0_rankOf (a0 : Int64) (a2 : Int32) : Int64 :=
  if (0 : Int64) ≤ a0 then
    a0
  else
  if (f_X1_isReal a2) = 0 then
    a0
  else
  (a0 ^^^ 9223372036854775807)
theorem gm_X0_rankOf : g_M yX0_rankOf cX0_rankOf 3 (some .long) 2 := ⟨tw_2_119, tw_1_2, by decide +kernel, Or.inl (by decide +kernel)⟩
set_option maxHeartbeats 4000000 in
set_option maxRecDepth 100000 in
theorem c_X0_rankOf {l : Launch} {E : gE} {G : gG} {n : Nat} (a0 : Int64) (a2 : Int32) : g_Met l yX0_rankOf cX0_rankOf 3 (some .long) rm_X0_rankOf E G n [.long a0, .int a2] (some (.long (f_X0_rankOf a0 a2))) G n := by
  generalize h : f_X0_rankOf a0 a2 = r
  refine g_ofW gm_X0_rankOf (Nat.le_of_ble_eq_true rfl) ?_
  intro p e s m below meth c ls X hl hI
  have hx := X.1
  have hb := X.2.1
  have X : g_X E G n p s m _ meth c cX0_rankOf 3 RX0 "rankOf" (some .long) := X
  have hl : lv_has ls 3 [(0, .long a0), (2, .int a2)] := hl
  unfold f_X0_rankOf at h
  refine lv_lload_n hx hb dX0_rankOf_0 rfl (lv_at hl 0 rfl) ?_
  refine lv_lconst (v := 0) hx hb dX0_rankOf_1 (by decide) ?_
  refine W.lcmp hx hb dX0_rankOf_2 ?_
  refine lv_if_ge (tgt := 21) hx hb dX0_rankOf_3 (by decide) (fun c => ?_) (fun c => ?_)
  · have h := g_t _ ((lg_cmp_ge _ _).mp c) h
    refine lv_lload_n hx hb dX0_rankOf_21 rfl (lv_at hl 0 rfl) ?_
    subst h
    exact g_lret X hI dX0_rankOf_22
  · have h := g_f _ (fun q => c ((lg_cmp_ge _ _).mpr q)) h
    refine lv_iload_n hx hb dX0_rankOf_6 rfl (lv_at hl 1 rfl) ?_
    refine g_callS X hI (av := [.int a2]) (c_X1_isReal a2) gm_X1_isReal tw_2_48 tw_2_11 ⟨by decide, by decide⟩ hl.1 (rest := []) rfl (Nat.le_of_ble_eq_true rfl) dX0_rankOf_7 ⟨by decide, by decide⟩ (st1 := [.int (f_X1_isReal a2)]) rfl (cells' := 0) (slots' := 0) rfl rfl (fun H locs hI => ?_)
    refine lv_if_eq (tgt := 21) hx hb dX0_rankOf_10 (by decide) (fun c => ?_) (fun c => ?_)
    · have h := g_t _ c h
      refine lv_lload_n hx hb dX0_rankOf_21 rfl (lv_at hl 0 rfl) ?_
      subst h
      exact g_lret X hI dX0_rankOf_22
    · have h := g_f _ c h
      refine lv_lload_n hx hb dX0_rankOf_13 rfl (lv_at hl 0 rfl) ?_
      refine lv_ldc2 (v := 9223372036854775807) hx hb X.2.2.2.1 (X.2.2.2.2.1 _ tw_2_120) dX0_rankOf_14 ?_
      refine lv_lxor (x := a0) (y := 9223372036854775807) hx hb dX0_rankOf_17 ?_
      refine lv_goto (tgt := 22) hx hb dX0_rankOf_18 (by decide) ?_
      subst h
      exact g_lret X hI dX0_rankOf_22
abbrev rm_X0_compares : Room := { frames := 2, cells := 0, slots := 0, locals := 42 }
def f_X0_compares_67 (x0 : Int32) (x6 : Int64) (s0 : Int64) : Int32 :=
  if x0 = 18 then
    if s0 ≤ x6 then
      0
    else
    1
  else
  if x0 = 19 then
    if s0 < x6 then
      0
    else
    1
  else
  if x0 = 20 then
    if x6 = s0 then
      1
    else
    0
  else
  if x6 = s0 then
    0
  else
  1
set_option maxHeartbeats 4000000 in
set_option maxRecDepth 100000 in
theorem b_X0_compares_67 {p : Program} {l : Launch} {e : Env} {s : State} {m : MethodId} {args : Array Value} {below : List Frame} {meth : Method} {c : Code} {E : gE} {G0 : gG} {n0 : Nat} (X : g_X E G0 n0 p s m args meth c cX0_compares 10 RX0 "compares" (some .boolean)) {G : gG} {n : Nat} {r : Int32} {H : Heap} {locs : List Loc} (hI : g_I E (g_A G0 n0) G n s.heap H locs) {x0 : Int32} {x6 : Int64} {s0 : Int64} (h : f_X0_compares_67 x0 x6 s0 = r) {ls : Array Slot} (hl : lv_has ls 10 [(0, .int x0), (6, .long x6)]) : W p l e rm_X0_compares s m args below meth c H locs 0 0 (MQ below (g_Q E G0 n0 (some (.int r)) G n) args s rm_X0_compares.cells rm_X0_compares.slots (g_A G0 n0)) (F0 m 67 ls [.long s0]) := by
  have hx := X.1
  have hb := X.2.1
  unfold f_X0_compares_67 at h
  refine lv_lstore (lv' := [(8, .long s0), (0, .int x0), (6, .long x6)]) hx hb dX0_compares_67 hl (by decide) rfl (fun ls hl => ?_)
  refine lv_iload_n hx hb dX0_compares_69 rfl (lv_at hl 1 rfl) ?_
  by_cases c0 : x0 = 18
  · have h := g_t _ c0 h
    refine lv_tableIn (off := 26) (tgt := 96) hx hb dX0_compares_70 (by rw [c0]; decide) (by rw [c0]; decide) (by rw [c0]; rfl) (by decide) ?_
    refine lv_lload hx hb dX0_compares_96 (lv_at hl 2 rfl) ?_
    refine lv_lload hx hb dX0_compares_98 (lv_at hl 0 rfl) ?_
    refine W.lcmp hx hb dX0_compares_100 ?_
    refine lv_if_ge (tgt := 108) hx hb dX0_compares_101 (by decide) (fun c => ?_) (fun c => ?_)
    · have h := g_t _ ((lg_cmp_ge _ _).mp c) h
      refine lv_iconst (v := 0) hx hb dX0_compares_108 (by decide) ?_
      subst h
      exact g_zret X hI (Or.inl rfl) dX0_compares_109
    · have h := g_f _ (fun q => c ((lg_cmp_ge _ _).mpr q)) h
      refine lv_iconst (v := 1) hx hb dX0_compares_104 (by decide) ?_
      refine lv_goto (tgt := 109) hx hb dX0_compares_105 (by decide) ?_
      subst h
      exact g_zret X hI (Or.inr rfl) dX0_compares_109
  · have h := g_f _ c0 h
    by_cases c1 : x0 = 19
    · have h := g_t _ c1 h
      refine lv_tableIn (off := 40) (tgt := 110) hx hb dX0_compares_70 (by rw [c1]; decide) (by rw [c1]; decide) (by rw [c1]; rfl) (by decide) ?_
      refine lv_lload hx hb dX0_compares_110 (lv_at hl 2 rfl) ?_
      refine lv_lload hx hb dX0_compares_112 (lv_at hl 0 rfl) ?_
      refine W.lcmp hx hb dX0_compares_114 ?_
      refine lv_if_gt (tgt := 122) hx hb dX0_compares_115 (by decide) (fun c => ?_) (fun c => ?_)
      · have h := g_t _ ((lg_cmp_gt _ _).mp c) h
        refine lv_iconst (v := 0) hx hb dX0_compares_122 (by decide) ?_
        subst h
        exact g_zret X hI (Or.inl rfl) dX0_compares_123
      · have h := g_f _ (fun q => c ((lg_cmp_gt _ _).mpr q)) h
        refine lv_iconst (v := 1) hx hb dX0_compares_118 (by decide) ?_
        refine lv_goto (tgt := 123) hx hb dX0_compares_119 (by decide) ?_
        subst h
        exact g_zret X hI (Or.inr rfl) dX0_compares_123
    · have h := g_f _ c1 h
      by_cases c2 : x0 = 20
      · have h := g_t _ c2 h
        refine lv_tableIn (off := 54) (tgt := 124) hx hb dX0_compares_70 (by rw [c2]; decide) (by rw [c2]; decide) (by rw [c2]; rfl) (by decide) ?_
        refine lv_lload hx hb dX0_compares_124 (lv_at hl 2 rfl) ?_
        refine lv_lload hx hb dX0_compares_126 (lv_at hl 0 rfl) ?_
        refine W.lcmp hx hb dX0_compares_128 ?_
        refine lv_if_ne (tgt := 136) hx hb dX0_compares_129 (by decide) (fun c => ?_) (fun c => ?_)
        · have h := g_f _ ((not_congr (lg_cmp_eq _ _)).mp c) h
          refine lv_iconst (v := 0) hx hb dX0_compares_136 (by decide) ?_
          subst h
          exact g_zret X hI (Or.inl rfl) dX0_compares_137
        · have h := g_t _ ((lg_cmp_eq _ _).mp c) h
          refine lv_iconst (v := 1) hx hb dX0_compares_132 (by decide) ?_
          refine lv_goto (tgt := 137) hx hb dX0_compares_133 (by decide) ?_
          subst h
          exact g_zret X hI (Or.inr rfl) dX0_compares_137
      · have h := g_f _ c2 h
        refine lv_tableOut (tgt := 138) hx hb dX0_compares_70 (by have q0 := lv_neT (a := 18) c0 (by decide); have q1 := lv_neT (a := 19) c1 (by decide); have q2 := lv_neT (a := 20) c2 (by decide); omega) (by decide) ?_
        refine lv_lload hx hb dX0_compares_138 (lv_at hl 2 rfl) ?_
        refine lv_lload hx hb dX0_compares_140 (lv_at hl 0 rfl) ?_
        refine W.lcmp hx hb dX0_compares_142 ?_
        refine lv_if_eq (tgt := 150) hx hb dX0_compares_143 (by decide) (fun c => ?_) (fun c => ?_)
        · have h := g_t _ ((lg_cmp_eq _ _).mp c) h
          refine lv_iconst (v := 0) hx hb dX0_compares_150 (by decide) ?_
          subst h
          exact g_zret X hI (Or.inl rfl) dX0_compares_151
        · have h := g_f _ (fun q => c ((lg_cmp_eq _ _).mpr q)) h
          refine lv_iconst (v := 1) hx hb dX0_compares_146 (by decide) ?_
          refine lv_goto (tgt := 151) hx hb dX0_compares_147 (by decide) ?_
          subst h
          exact g_zret X hI (Or.inr rfl) dX0_compares_151
def f_X0_compares_46 (x0 : Int32) (x1 : Int32) (x4 : Int64) (s0 : Int64) : Int32 :=
  if (f_X1_isZero x4 x1) = 0 then
    f_X0_compares_67 x0 s0 (f_X0_rankOf x4 x1)
  else
  f_X0_compares_67 x0 s0 0
set_option maxHeartbeats 4000000 in
set_option maxRecDepth 100000 in
theorem b_X0_compares_46 {p : Program} {l : Launch} {e : Env} {s : State} {m : MethodId} {args : Array Value} {below : List Frame} {meth : Method} {c : Code} {E : gE} {G0 : gG} {n0 : Nat} (X : g_X E G0 n0 p s m args meth c cX0_compares 10 RX0 "compares" (some .boolean)) {G : gG} {n : Nat} {r : Int32} {H : Heap} {locs : List Loc} (hI : g_I E (g_A G0 n0) G n s.heap H locs) {x0 : Int32} {x1 : Int32} {x4 : Int64} {s0 : Int64} (h : f_X0_compares_46 x0 x1 x4 s0 = r) {ls : Array Slot} (hl : lv_has ls 10 [(0, .int x0), (1, .int x1), (4, .long x4)]) : W p l e rm_X0_compares s m args below meth c H locs 0 0 (MQ below (g_Q E G0 n0 (some (.int r)) G n) args s rm_X0_compares.cells rm_X0_compares.slots (g_A G0 n0)) (F0 m 46 ls [.long s0]) := by
  have hx := X.1
  have hb := X.2.1
  unfold f_X0_compares_46 at h
  refine lv_lstore (lv' := [(6, .long s0), (0, .int x0), (1, .int x1), (4, .long x4)]) hx hb dX0_compares_46 hl (by decide) rfl (fun ls hl => ?_)
  refine lv_lload hx hb dX0_compares_48 (lv_at hl 3 rfl) ?_
  refine lv_iload_n hx hb dX0_compares_50 rfl (lv_at hl 2 rfl) ?_
  refine g_callS X hI (av := [.long x4, .int x1]) (c_X1_isZero x4 x1) gm_X1_isZero tw_2_43 tw_2_44 ⟨by decide, by decide⟩ hl.1 (rest := []) rfl (Nat.le_of_ble_eq_true rfl) dX0_compares_51 ⟨by decide, by decide⟩ (st1 := [.int (f_X1_isZero x4 x1)]) rfl (cells' := 0) (slots' := 0) rfl rfl (fun H locs hI => ?_)
  refine lv_if_eq (tgt := 61) hx hb dX0_compares_54 (by decide) (fun c => ?_) (fun c => ?_)
  · have h := g_t _ c h
    refine lv_lload hx hb dX0_compares_61 (lv_at hl 3 rfl) ?_
    refine lv_iload_n hx hb dX0_compares_63 rfl (lv_at hl 2 rfl) ?_
    refine g_callS X hI (av := [.long x4, .int x1]) (c_X0_rankOf x4 x1) gm_X0_rankOf tw_2_117 tw_2_118 ⟨by decide, by decide⟩ hl.1 (rest := []) rfl (Nat.le_of_ble_eq_true rfl) dX0_compares_64 ⟨by decide, by decide⟩ (st1 := [.long (f_X0_rankOf x4 x1)]) rfl (cells' := 0) (slots' := 0) rfl rfl (fun H locs hI => ?_)
    exact b_X0_compares_67 X hI h (lv_sub hl [1, 0] rfl)
  · have h := g_f _ c h
    refine lv_lconst (v := 0) hx hb dX0_compares_57 (by decide) ?_
    refine lv_goto (tgt := 67) hx hb dX0_compares_58 (by decide) ?_
    exact b_X0_compares_67 X hI h (lv_sub hl [1, 0] rfl)
def f_X0_compares_17 (x0 : Int32) : Int32 :=
  if x0 = 21 then
    1
  else
  0
set_option maxHeartbeats 4000000 in
set_option maxRecDepth 100000 in
theorem b_X0_compares_17 {p : Program} {l : Launch} {e : Env} {s : State} {m : MethodId} {args : Array Value} {below : List Frame} {meth : Method} {c : Code} {E : gE} {G0 : gG} {n0 : Nat} (X : g_X E G0 n0 p s m args meth c cX0_compares 10 RX0 "compares" (some .boolean)) {G : gG} {n : Nat} {r : Int32} {H : Heap} {locs : List Loc} (hI : g_I E (g_A G0 n0) G n s.heap H locs) {x0 : Int32} (h : f_X0_compares_17 x0 = r) {ls : Array Slot} (hl : lv_has ls 10 [(0, .int x0)]) : W p l e rm_X0_compares s m args below meth c H locs 0 0 (MQ below (g_Q E G0 n0 (some (.int r)) G n) args s rm_X0_compares.cells rm_X0_compares.slots (g_A G0 n0)) (F0 m 17 ls []) := by
  have hx := X.1
  have hb := X.2.1
  unfold f_X0_compares_17 at h
  refine lv_iload_n hx hb dX0_compares_17 rfl (lv_at hl 0 rfl) ?_
  refine lv_bipush (v := 21) hx hb dX0_compares_18 (by decide) ?_
  refine lv_icmp_ne (tgt := 27) hx hb dX0_compares_20 (by decide) (fun c => ?_) (fun c => ?_)
  · have h := g_f _ c h
    refine lv_iconst (v := 0) hx hb dX0_compares_27 (by decide) ?_
    subst h
    exact g_zret X hI (Or.inl rfl) dX0_compares_28
  · have h := g_t _ c h
    refine lv_iconst (v := 1) hx hb dX0_compares_23 (by decide) ?_
    refine lv_goto (tgt := 28) hx hb dX0_compares_24 (by decide) ?_
    subst h
    exact g_zret X hI (Or.inr rfl) dX0_compares_28
def f_X0_compares (a0 : Int32) (a1 : Int32) (a2 : Int64) (a4 : Int64) : Int32 :=
  if (f_X1_isNoNumber a2 a1) = 0 then
    if (f_X1_isNoNumber a4 a1) = 0 then
      if (f_X1_isZero a2 a1) = 0 then
        f_X0_compares_46 a0 a1 a4 (f_X0_rankOf a2 a1)
      else
      f_X0_compares_46 a0 a1 a4 0
    else
    f_X0_compares_17 a0
  else
  f_X0_compares_17 a0
theorem gm_X0_compares : g_M yX0_compares cX0_compares 10 (some .boolean) 4 := ⟨tw_2_112, tw_1_2, by decide +kernel, Or.inl (by decide +kernel)⟩
set_option maxHeartbeats 4000000 in
set_option maxRecDepth 100000 in
theorem c_X0_compares {l : Launch} {E : gE} {G : gG} {n : Nat} (a0 : Int32) (a1 : Int32) (a2 : Int64) (a4 : Int64) : g_Met l yX0_compares cX0_compares 10 (some .boolean) rm_X0_compares E G n [.int a0, .int a1, .long a2, .long a4] (some (.int (f_X0_compares a0 a1 a2 a4))) G n := by
  generalize h : f_X0_compares a0 a1 a2 a4 = r
  refine g_ofW gm_X0_compares (Nat.le_of_ble_eq_true rfl) ?_
  intro p e s m below meth c ls X hl hI
  have hx := X.1
  have hb := X.2.1
  have X : g_X E G n p s m _ meth c cX0_compares 10 RX0 "compares" (some .boolean) := X
  have hl : lv_has ls 10 [(0, .int a0), (1, .int a1), (2, .long a2), (4, .long a4)] := hl
  unfold f_X0_compares at h
  refine lv_lload_n hx hb dX0_compares_0 rfl (lv_at hl 2 rfl) ?_
  refine lv_iload_n hx hb dX0_compares_1 rfl (lv_at hl 1 rfl) ?_
  refine g_callS X hI (av := [.long a2, .int a1]) (c_X1_isNoNumber a2 a1) gm_X1_isNoNumber tw_2_113 tw_2_114 ⟨by decide, by decide⟩ hl.1 (rest := []) rfl (Nat.le_of_ble_eq_true rfl) dX0_compares_2 ⟨by decide, by decide⟩ (st1 := [.int (f_X1_isNoNumber a2 a1)]) rfl (cells' := 0) (slots' := 0) rfl rfl (fun H locs hI => ?_)
  refine lv_if_ne (tgt := 17) hx hb dX0_compares_5 (by decide) (fun c => ?_) (fun c => ?_)
  · have h := g_f _ c h
    exact b_X0_compares_17 X hI h (lv_sub hl [0] rfl)
  · have h := g_t _ c h
    refine lv_lload hx hb dX0_compares_8 (lv_at hl 3 rfl) ?_
    refine lv_iload_n hx hb dX0_compares_10 rfl (lv_at hl 1 rfl) ?_
    refine g_callS X hI (av := [.long a4, .int a1]) (c_X1_isNoNumber a4 a1) gm_X1_isNoNumber tw_2_113 tw_2_114 ⟨by decide, by decide⟩ hl.1 (rest := []) rfl (Nat.le_of_ble_eq_true rfl) dX0_compares_11 ⟨by decide, by decide⟩ (st1 := [.int (f_X1_isNoNumber a4 a1)]) rfl (cells' := 0) (slots' := 0) rfl rfl (fun H locs hI => ?_)
    refine lv_if_eq (tgt := 29) hx hb dX0_compares_14 (by decide) (fun c => ?_) (fun c => ?_)
    · have h := g_t _ c h
      refine lv_lload_n hx hb dX0_compares_29 rfl (lv_at hl 2 rfl) ?_
      refine lv_iload_n hx hb dX0_compares_30 rfl (lv_at hl 1 rfl) ?_
      refine g_callS X hI (av := [.long a2, .int a1]) (c_X1_isZero a2 a1) gm_X1_isZero tw_2_43 tw_2_44 ⟨by decide, by decide⟩ hl.1 (rest := []) rfl (Nat.le_of_ble_eq_true rfl) dX0_compares_31 ⟨by decide, by decide⟩ (st1 := [.int (f_X1_isZero a2 a1)]) rfl (cells' := 0) (slots' := 0) rfl rfl (fun H locs hI => ?_)
      refine lv_if_eq (tgt := 41) hx hb dX0_compares_34 (by decide) (fun c => ?_) (fun c => ?_)
      · have h := g_t _ c h
        refine lv_lload_n hx hb dX0_compares_41 rfl (lv_at hl 2 rfl) ?_
        refine lv_iload_n hx hb dX0_compares_42 rfl (lv_at hl 1 rfl) ?_
        refine g_callS X hI (av := [.long a2, .int a1]) (c_X0_rankOf a2 a1) gm_X0_rankOf tw_2_117 tw_2_118 ⟨by decide, by decide⟩ hl.1 (rest := []) rfl (Nat.le_of_ble_eq_true rfl) dX0_compares_43 ⟨by decide, by decide⟩ (st1 := [.long (f_X0_rankOf a2 a1)]) rfl (cells' := 0) (slots' := 0) rfl rfl (fun H locs hI => ?_)
        exact b_X0_compares_46 X hI h (lv_sub hl [0, 1, 3] rfl)
      · have h := g_f _ c h
        refine lv_lconst (v := 0) hx hb dX0_compares_37 (by decide) ?_
        refine lv_goto (tgt := 46) hx hb dX0_compares_38 (by decide) ?_
        exact b_X0_compares_46 X hI h (lv_sub hl [0, 1, 3] rfl)
    · have h := g_f _ c h
      exact b_X0_compares_17 X hI h (lv_sub hl [0] rfl)
abbrev rm_X0_chosen : Room := { frames := 2, cells := 0, slots := 0, locals := 42 }
def f_X0_chosen_103 (x2 : Int64) (x4 : Int64) (x7 : Int32) (s0 : Int32) : Int64 :=
  if x7 = s0 then
    x2
  else
  x4
set_option maxHeartbeats 4000000 in
set_option maxRecDepth 100000 in
theorem b_X0_chosen_103 {p : Program} {l : Launch} {e : Env} {s : State} {m : MethodId} {args : Array Value} {below : List Frame} {meth : Method} {c : Code} {E : gE} {G0 : gG} {n0 : Nat} (X : g_X E G0 n0 p s m args meth c cX0_chosen 9 RX0 "chosen" (some .long)) {G : gG} {n : Nat} {r : Int64} {H : Heap} {locs : List Loc} (hI : g_I E (g_A G0 n0) G n s.heap H locs) {x2 : Int64} {x4 : Int64} {x7 : Int32} {s0 : Int32} (h : f_X0_chosen_103 x2 x4 x7 s0 = r) {ls : Array Slot} (hl : lv_has ls 9 [(2, .long x2), (4, .long x4), (7, .int x7)]) : W p l e rm_X0_chosen s m args below meth c H locs 0 0 (MQ below (g_Q E G0 n0 (some (.long r)) G n) args s rm_X0_chosen.cells rm_X0_chosen.slots (g_A G0 n0)) (F0 m 103 ls [.int s0]) := by
  have hx := X.1
  have hb := X.2.1
  unfold f_X0_chosen_103 at h
  refine lv_istore (lv' := [(8, .int s0), (2, .long x2), (4, .long x4), (7, .int x7)]) hx hb dX0_chosen_103 hl (by decide) rfl (fun ls hl => ?_)
  refine lv_iload hx hb dX0_chosen_105 (lv_at hl 3 rfl) ?_
  refine lv_iload hx hb dX0_chosen_107 (lv_at hl 0 rfl) ?_
  refine lv_icmp_ne (tgt := 116) hx hb dX0_chosen_109 (by decide) (fun c => ?_) (fun c => ?_)
  · have h := g_f _ c h
    refine lv_lload hx hb dX0_chosen_116 (lv_at hl 2 rfl) ?_
    subst h
    exact g_lret X hI dX0_chosen_118
  · have h := g_t _ c h
    refine lv_lload_n hx hb dX0_chosen_112 rfl (lv_at hl 1 rfl) ?_
    refine lv_goto (tgt := 118) hx hb dX0_chosen_113 (by decide) ?_
    subst h
    exact g_lret X hI dX0_chosen_118
def f_X0_chosen_81 (x1 : Int32) (x2 : Int64) (x4 : Int64) (s0 : Int32) : Int64 :=
  if (f_X0_rankOf x4 x1) ≤ (f_X0_rankOf x2 x1) then
    f_X0_chosen_103 x2 x4 s0 0
  else
  f_X0_chosen_103 x2 x4 s0 1
set_option maxHeartbeats 4000000 in
set_option maxRecDepth 100000 in
theorem b_X0_chosen_81 {p : Program} {l : Launch} {e : Env} {s : State} {m : MethodId} {args : Array Value} {below : List Frame} {meth : Method} {c : Code} {E : gE} {G0 : gG} {n0 : Nat} (X : g_X E G0 n0 p s m args meth c cX0_chosen 9 RX0 "chosen" (some .long)) {G : gG} {n : Nat} {r : Int64} {H : Heap} {locs : List Loc} (hI : g_I E (g_A G0 n0) G n s.heap H locs) {x1 : Int32} {x2 : Int64} {x4 : Int64} {s0 : Int32} (h : f_X0_chosen_81 x1 x2 x4 s0 = r) {ls : Array Slot} (hl : lv_has ls 9 [(1, .int x1), (2, .long x2), (4, .long x4)]) : W p l e rm_X0_chosen s m args below meth c H locs 0 0 (MQ below (g_Q E G0 n0 (some (.long r)) G n) args s rm_X0_chosen.cells rm_X0_chosen.slots (g_A G0 n0)) (F0 m 81 ls [.int s0]) := by
  have hx := X.1
  have hb := X.2.1
  unfold f_X0_chosen_81 at h
  refine lv_istore (lv' := [(7, .int s0), (1, .int x1), (2, .long x2), (4, .long x4)]) hx hb dX0_chosen_81 hl (by decide) rfl (fun ls hl => ?_)
  refine lv_lload_n hx hb dX0_chosen_83 rfl (lv_at hl 2 rfl) ?_
  refine lv_iload_n hx hb dX0_chosen_84 rfl (lv_at hl 1 rfl) ?_
  refine g_callS X hI (av := [.long x2, .int x1]) (c_X0_rankOf x2 x1) gm_X0_rankOf tw_2_117 tw_2_118 ⟨by decide, by decide⟩ hl.1 (rest := []) rfl (Nat.le_of_ble_eq_true rfl) dX0_chosen_85 ⟨by decide, by decide⟩ (st1 := [.long (f_X0_rankOf x2 x1)]) rfl (cells' := 0) (slots' := 0) rfl rfl (fun H locs hI => ?_)
  refine lv_lload hx hb dX0_chosen_88 (lv_at hl 3 rfl) ?_
  refine lv_iload_n hx hb dX0_chosen_90 rfl (lv_at hl 1 rfl) ?_
  refine g_callS X hI (av := [.long x4, .int x1]) (c_X0_rankOf x4 x1) gm_X0_rankOf tw_2_117 tw_2_118 ⟨by decide, by decide⟩ hl.1 (rest := [.long (f_X0_rankOf x2 x1)]) rfl (Nat.le_of_ble_eq_true rfl) dX0_chosen_91 ⟨by decide, by decide⟩ (st1 := [.long (f_X0_rankOf x4 x1), .long (f_X0_rankOf x2 x1)]) rfl (cells' := 0) (slots' := 0) rfl rfl (fun H locs hI => ?_)
  refine W.lcmp hx hb dX0_chosen_94 ?_
  refine lv_if_ge (tgt := 102) hx hb dX0_chosen_95 (by decide) (fun c => ?_) (fun c => ?_)
  · have h := g_t _ ((lg_cmp_ge _ _).mp c) h
    refine lv_iconst (v := 0) hx hb dX0_chosen_102 (by decide) ?_
    exact b_X0_chosen_103 X hI h (lv_sub hl [2, 3, 0] rfl)
  · have h := g_f _ (fun q => c ((lg_cmp_ge _ _).mpr q)) h
    refine lv_iconst (v := 1) hx hb dX0_chosen_98 (by decide) ?_
    refine lv_goto (tgt := 103) hx hb dX0_chosen_99 (by decide) ?_
    exact b_X0_chosen_103 X hI h (lv_sub hl [2, 3, 0] rfl)
def f_X0_chosen_76 (x1 : Int32) (x2 : Int64) (x4 : Int64) : Int64 :=
  f_X0_chosen_81 x1 x2 x4 1
set_option maxHeartbeats 4000000 in
set_option maxRecDepth 100000 in
theorem b_X0_chosen_76 {p : Program} {l : Launch} {e : Env} {s : State} {m : MethodId} {args : Array Value} {below : List Frame} {meth : Method} {c : Code} {E : gE} {G0 : gG} {n0 : Nat} (X : g_X E G0 n0 p s m args meth c cX0_chosen 9 RX0 "chosen" (some .long)) {G : gG} {n : Nat} {r : Int64} {H : Heap} {locs : List Loc} (hI : g_I E (g_A G0 n0) G n s.heap H locs) {x1 : Int32} {x2 : Int64} {x4 : Int64} (h : f_X0_chosen_76 x1 x2 x4 = r) {ls : Array Slot} (hl : lv_has ls 9 [(1, .int x1), (2, .long x2), (4, .long x4)]) : W p l e rm_X0_chosen s m args below meth c H locs 0 0 (MQ below (g_Q E G0 n0 (some (.long r)) G n) args s rm_X0_chosen.cells rm_X0_chosen.slots (g_A G0 n0)) (F0 m 76 ls []) := by
  have hx := X.1
  have hb := X.2.1
  unfold f_X0_chosen_76 at h
  refine lv_iconst (v := 1) hx hb dX0_chosen_76 (by decide) ?_
  refine lv_goto (tgt := 81) hx hb dX0_chosen_77 (by decide) ?_
  exact b_X0_chosen_81 X hI h (lv_sub hl [0, 1, 2] rfl)
def f_X0_chosen_38 (x1 : Int32) (x2 : Int64) (x4 : Int64) (x6 : Int32) (s0 : Int32) : Int64 :=
  if s0 = 0 then
    (f_X1_noNumber x1)
  else
  if x6 = 0 then
    x2
  else
  x4
set_option maxHeartbeats 4000000 in
set_option maxRecDepth 100000 in
theorem b_X0_chosen_38 {p : Program} {l : Launch} {e : Env} {s : State} {m : MethodId} {args : Array Value} {below : List Frame} {meth : Method} {c : Code} {E : gE} {G0 : gG} {n0 : Nat} (X : g_X E G0 n0 p s m args meth c cX0_chosen 9 RX0 "chosen" (some .long)) {G : gG} {n : Nat} {r : Int64} {H : Heap} {locs : List Loc} (hI : g_I E (g_A G0 n0) G n s.heap H locs) {x1 : Int32} {x2 : Int64} {x4 : Int64} {x6 : Int32} {s0 : Int32} (h : f_X0_chosen_38 x1 x2 x4 x6 s0 = r) {ls : Array Slot} (hl : lv_has ls 9 [(1, .int x1), (2, .long x2), (4, .long x4), (6, .int x6)]) : W p l e rm_X0_chosen s m args below meth c H locs 0 0 (MQ below (g_Q E G0 n0 (some (.long r)) G n) args s rm_X0_chosen.cells rm_X0_chosen.slots (g_A G0 n0)) (F0 m 38 ls [.int s0]) := by
  have hx := X.1
  have hb := X.2.1
  unfold f_X0_chosen_38 at h
  refine lv_istore (lv' := [(7, .int s0), (1, .int x1), (2, .long x2), (4, .long x4), (6, .int x6)]) hx hb dX0_chosen_38 hl (by decide) rfl (fun ls hl => ?_)
  refine lv_iload hx hb dX0_chosen_40 (lv_at hl 0 rfl) ?_
  refine lv_if_ne (tgt := 52) hx hb dX0_chosen_42 (by decide) (fun c => ?_) (fun c => ?_)
  · have h := g_f _ c h
    refine lv_iload hx hb dX0_chosen_52 (lv_at hl 4 rfl) ?_
    refine lv_if_eq (tgt := 62) hx hb dX0_chosen_54 (by decide) (fun c => ?_) (fun c => ?_)
    · have h := g_t _ c h
      refine lv_lload_n hx hb dX0_chosen_62 rfl (lv_at hl 2 rfl) ?_
      subst h
      exact g_lret X hI dX0_chosen_63
    · have h := g_f _ c h
      refine lv_lload hx hb dX0_chosen_57 (lv_at hl 3 rfl) ?_
      refine lv_goto (tgt := 63) hx hb dX0_chosen_59 (by decide) ?_
      subst h
      exact g_lret X hI dX0_chosen_63
  · have h := g_t _ c h
    refine lv_iload_n hx hb dX0_chosen_45 rfl (lv_at hl 1 rfl) ?_
    refine g_callS X hI (av := [.int x1]) (c_X1_noNumber x1) gm_X1_noNumber tw_2_124 tw_2_76 ⟨by decide, by decide⟩ hl.1 (rest := []) rfl (Nat.le_of_ble_eq_true rfl) dX0_chosen_46 ⟨by decide, by decide⟩ (st1 := [.long (f_X1_noNumber x1)]) rfl (cells' := 0) (slots' := 0) rfl rfl (fun H locs hI => ?_)
    refine lv_goto (tgt := 63) hx hb dX0_chosen_49 (by decide) ?_
    subst h
    exact g_lret X hI dX0_chosen_63
def f_X0_chosen_33 (x1 : Int32) (x2 : Int64) (x4 : Int64) (x6 : Int32) : Int64 :=
  f_X0_chosen_38 x1 x2 x4 x6 1
set_option maxHeartbeats 4000000 in
set_option maxRecDepth 100000 in
theorem b_X0_chosen_33 {p : Program} {l : Launch} {e : Env} {s : State} {m : MethodId} {args : Array Value} {below : List Frame} {meth : Method} {c : Code} {E : gE} {G0 : gG} {n0 : Nat} (X : g_X E G0 n0 p s m args meth c cX0_chosen 9 RX0 "chosen" (some .long)) {G : gG} {n : Nat} {r : Int64} {H : Heap} {locs : List Loc} (hI : g_I E (g_A G0 n0) G n s.heap H locs) {x1 : Int32} {x2 : Int64} {x4 : Int64} {x6 : Int32} (h : f_X0_chosen_33 x1 x2 x4 x6 = r) {ls : Array Slot} (hl : lv_has ls 9 [(1, .int x1), (2, .long x2), (4, .long x4), (6, .int x6)]) : W p l e rm_X0_chosen s m args below meth c H locs 0 0 (MQ below (g_Q E G0 n0 (some (.long r)) G n) args s rm_X0_chosen.cells rm_X0_chosen.slots (g_A G0 n0)) (F0 m 33 ls []) := by
  have hx := X.1
  have hb := X.2.1
  unfold f_X0_chosen_33 at h
  refine lv_iconst (v := 1) hx hb dX0_chosen_33 (by decide) ?_
  refine lv_goto (tgt := 38) hx hb dX0_chosen_34 (by decide) ?_
  exact b_X0_chosen_38 X hI h (lv_sub hl [0, 1, 2, 3] rfl)
def f_X0_chosen_21 (x0 : Int32) (x1 : Int32) (x2 : Int64) (x4 : Int64) (x6 : Int32) : Int64 :=
  if x0 = 10 then
    f_X0_chosen_33 x1 x2 x4 x6
  else
  if x0 = 11 then
    f_X0_chosen_33 x1 x2 x4 x6
  else
  f_X0_chosen_38 x1 x2 x4 x6 0
set_option maxHeartbeats 4000000 in
set_option maxRecDepth 100000 in
theorem b_X0_chosen_21 {p : Program} {l : Launch} {e : Env} {s : State} {m : MethodId} {args : Array Value} {below : List Frame} {meth : Method} {c : Code} {E : gE} {G0 : gG} {n0 : Nat} (X : g_X E G0 n0 p s m args meth c cX0_chosen 9 RX0 "chosen" (some .long)) {G : gG} {n : Nat} {r : Int64} {H : Heap} {locs : List Loc} (hI : g_I E (g_A G0 n0) G n s.heap H locs) {x0 : Int32} {x1 : Int32} {x2 : Int64} {x4 : Int64} {x6 : Int32} (h : f_X0_chosen_21 x0 x1 x2 x4 x6 = r) {ls : Array Slot} (hl : lv_has ls 9 [(0, .int x0), (1, .int x1), (2, .long x2), (4, .long x4), (6, .int x6)]) : W p l e rm_X0_chosen s m args below meth c H locs 0 0 (MQ below (g_Q E G0 n0 (some (.long r)) G n) args s rm_X0_chosen.cells rm_X0_chosen.slots (g_A G0 n0)) (F0 m 21 ls []) := by
  have hx := X.1
  have hb := X.2.1
  unfold f_X0_chosen_21 at h
  refine lv_iload_n hx hb dX0_chosen_21 rfl (lv_at hl 0 rfl) ?_
  refine lv_bipush (v := 10) hx hb dX0_chosen_22 (by decide) ?_
  refine lv_icmp_eq (tgt := 33) hx hb dX0_chosen_24 (by decide) (fun c => ?_) (fun c => ?_)
  · have h := g_t _ c h
    exact b_X0_chosen_33 X hI h (lv_sub hl [1, 2, 3, 4] rfl)
  · have h := g_f _ c h
    refine lv_iload_n hx hb dX0_chosen_27 rfl (lv_at hl 0 rfl) ?_
    refine lv_bipush (v := 11) hx hb dX0_chosen_28 (by decide) ?_
    refine lv_icmp_ne (tgt := 37) hx hb dX0_chosen_30 (by decide) (fun c => ?_) (fun c => ?_)
    · have h := g_f _ c h
      refine lv_iconst (v := 0) hx hb dX0_chosen_37 (by decide) ?_
      exact b_X0_chosen_38 X hI h (lv_sub hl [1, 2, 3, 4] rfl)
    · have h := g_t _ c h
      exact b_X0_chosen_33 X hI h (lv_sub hl [1, 2, 3, 4] rfl)
def f_X0_chosen (a0 : Int32) (a1 : Int32) (a2 : Int64) (a4 : Int64) : Int64 :=
  gl ((f_X1_isNoNumber a2 a1) : Int32) fun v1 =>
  if v1 = 0 then
    if (f_X1_isNoNumber a4 a1) = 0 then
      if a0 = 8 then
        f_X0_chosen_76 a1 a2 a4
      else
      if a0 = 10 then
        f_X0_chosen_76 a1 a2 a4
      else
      f_X0_chosen_81 a1 a2 a4 0
    else
    f_X0_chosen_21 a0 a1 a2 a4 v1
  else
  f_X0_chosen_21 a0 a1 a2 a4 v1
theorem gm_X0_chosen : g_M yX0_chosen cX0_chosen 9 (some .long) 4 := ⟨tw_2_123, tw_1_2, by decide +kernel, Or.inl (by decide +kernel)⟩
set_option maxHeartbeats 4000000 in
set_option maxRecDepth 100000 in
theorem c_X0_chosen {l : Launch} {E : gE} {G : gG} {n : Nat} (a0 : Int32) (a1 : Int32) (a2 : Int64) (a4 : Int64) : g_Met l yX0_chosen cX0_chosen 9 (some .long) rm_X0_chosen E G n [.int a0, .int a1, .long a2, .long a4] (some (.long (f_X0_chosen a0 a1 a2 a4))) G n := by
  generalize h : f_X0_chosen a0 a1 a2 a4 = r
  refine g_ofW gm_X0_chosen (Nat.le_of_ble_eq_true rfl) ?_
  intro p e s m below meth c ls X hl hI
  have hx := X.1
  have hb := X.2.1
  have X : g_X E G n p s m _ meth c cX0_chosen 9 RX0 "chosen" (some .long) := X
  have hl : lv_has ls 9 [(0, .int a0), (1, .int a1), (2, .long a2), (4, .long a4)] := hl
  unfold f_X0_chosen at h
  refine lv_lload_n hx hb dX0_chosen_0 rfl (lv_at hl 2 rfl) ?_
  refine lv_iload_n hx hb dX0_chosen_1 rfl (lv_at hl 1 rfl) ?_
  refine g_callS X hI (av := [.long a2, .int a1]) (c_X1_isNoNumber a2 a1) gm_X1_isNoNumber tw_2_113 tw_2_114 ⟨by decide, by decide⟩ hl.1 (rest := []) rfl (Nat.le_of_ble_eq_true rfl) dX0_chosen_2 ⟨by decide, by decide⟩ (st1 := [.int (f_X1_isNoNumber a2 a1)]) rfl (cells' := 0) (slots' := 0) rfl rfl (fun H locs hI => ?_)
  obtain ⟨v1, ev1, h⟩ := gl_s h
  refine g_topi ev1 ?_
  refine lv_istore (lv' := [(6, .int v1), (0, .int a0), (1, .int a1), (2, .long a2), (4, .long a4)]) hx hb dX0_chosen_5 hl (by decide) rfl (fun ls hl => ?_)
  refine lv_iload hx hb dX0_chosen_7 (lv_at hl 0 rfl) ?_
  refine lv_if_ne (tgt := 21) hx hb dX0_chosen_9 (by decide) (fun c => ?_) (fun c => ?_)
  · have h := g_f _ c h
    exact b_X0_chosen_21 X hI h (lv_sub hl [1, 2, 3, 4, 0] rfl)
  · have h := g_t _ c h
    refine lv_lload hx hb dX0_chosen_12 (lv_at hl 4 rfl) ?_
    refine lv_iload_n hx hb dX0_chosen_14 rfl (lv_at hl 2 rfl) ?_
    refine g_callS X hI (av := [.long a4, .int a1]) (c_X1_isNoNumber a4 a1) gm_X1_isNoNumber tw_2_113 tw_2_114 ⟨by decide, by decide⟩ hl.1 (rest := []) rfl (Nat.le_of_ble_eq_true rfl) dX0_chosen_15 ⟨by decide, by decide⟩ (st1 := [.int (f_X1_isNoNumber a4 a1)]) rfl (cells' := 0) (slots' := 0) rfl rfl (fun H locs hI => ?_)
    refine lv_if_eq (tgt := 64) hx hb dX0_chosen_18 (by decide) (fun c => ?_) (fun c => ?_)
    · have h := g_t _ c h
      refine lv_iload_n hx hb dX0_chosen_64 rfl (lv_at hl 1 rfl) ?_
      refine lv_bipush (v := 8) hx hb dX0_chosen_65 (by decide) ?_
      refine lv_icmp_eq (tgt := 76) hx hb dX0_chosen_67 (by decide) (fun c => ?_) (fun c => ?_)
      · have h := g_t _ c h
        exact b_X0_chosen_76 X hI h (lv_sub hl [2, 3, 4] rfl)
      · have h := g_f _ c h
        refine lv_iload_n hx hb dX0_chosen_70 rfl (lv_at hl 1 rfl) ?_
        refine lv_bipush (v := 10) hx hb dX0_chosen_71 (by decide) ?_
        refine lv_icmp_ne (tgt := 80) hx hb dX0_chosen_73 (by decide) (fun c => ?_) (fun c => ?_)
        · have h := g_f _ c h
          refine lv_iconst (v := 0) hx hb dX0_chosen_80 (by decide) ?_
          exact b_X0_chosen_81 X hI h (lv_sub hl [2, 3, 4] rfl)
        · have h := g_t _ c h
          exact b_X0_chosen_76 X hI h (lv_sub hl [2, 3, 4] rfl)
    · have h := g_f _ c h
      exact b_X0_chosen_21 X hI h (lv_sub hl [1, 2, 3, 4, 0] rfl)
abbrev rm_X0_negativeOf : Room := { frames := 2, cells := 0, slots := 0, locals := 42 }
def f_X0_negativeOf (a0 : Int64) (a2 : Int32) : Int64 :=
  if (f_X1_isNoNumber a0 a2) = 0 then
    if a2 = 4 then
      (Int32.toInt64 ((Int64.toInt32 a0) ^^^ (-2147483648)))
    else
    if a2 = 5 then
      (a0 ^^^ (-9223372036854775808))
    else
    (f_X1_lowestBits (-a0) a2)
  else
  a0
theorem gm_X0_negativeOf : g_M yX0_negativeOf cX0_negativeOf 3 (some .long) 2 := ⟨tw_2_130, tw_1_2, by decide +kernel, Or.inl (by decide +kernel)⟩
set_option maxHeartbeats 4000000 in
set_option maxRecDepth 100000 in
theorem c_X0_negativeOf {l : Launch} {E : gE} {G : gG} {n : Nat} (a0 : Int64) (a2 : Int32) : g_Met l yX0_negativeOf cX0_negativeOf 3 (some .long) rm_X0_negativeOf E G n [.long a0, .int a2] (some (.long (f_X0_negativeOf a0 a2))) G n := by
  generalize h : f_X0_negativeOf a0 a2 = r
  refine g_ofW gm_X0_negativeOf (Nat.le_of_ble_eq_true rfl) ?_
  intro p e s m below meth c ls X hl hI
  have hx := X.1
  have hb := X.2.1
  have X : g_X E G n p s m _ meth c cX0_negativeOf 3 RX0 "negativeOf" (some .long) := X
  have hl : lv_has ls 3 [(0, .long a0), (2, .int a2)] := hl
  unfold f_X0_negativeOf at h
  refine lv_lload_n hx hb dX0_negativeOf_0 rfl (lv_at hl 0 rfl) ?_
  refine lv_iload_n hx hb dX0_negativeOf_1 rfl (lv_at hl 1 rfl) ?_
  refine g_callS X hI (av := [.long a0, .int a2]) (c_X1_isNoNumber a0 a2) gm_X1_isNoNumber tw_2_113 tw_2_114 ⟨by decide, by decide⟩ hl.1 (rest := []) rfl (Nat.le_of_ble_eq_true rfl) dX0_negativeOf_2 ⟨by decide, by decide⟩ (st1 := [.int (f_X1_isNoNumber a0 a2)]) rfl (cells' := 0) (slots' := 0) rfl rfl (fun H locs hI => ?_)
  refine lv_if_eq (tgt := 10) hx hb dX0_negativeOf_5 (by decide) (fun c => ?_) (fun c => ?_)
  · have h := g_t _ c h
    refine lv_iload_n hx hb dX0_negativeOf_10 rfl (lv_at hl 1 rfl) ?_
    by_cases c0 : a2 = 4
    · have h := g_t _ c0 h
      refine lv_lookup (off := 25) (tgt := 36) hx hb dX0_negativeOf_11 (by decide) (by rw [c0]; rfl) (by decide) ?_
      refine lv_lload_n hx hb dX0_negativeOf_36 rfl (lv_at hl 0 rfl) ?_
      refine lv_l2i (v := (Int64.toInt32 a0)) hx hb dX0_negativeOf_37 rfl ?_
      refine lv_ldc (v := (-2147483648)) hx hb X.2.2.2.1 (X.2.2.2.2.1 _ tw_2_131) dX0_negativeOf_38 ?_
      refine lv_ixor (x := (Int64.toInt32 a0)) (y := (-2147483648)) hx hb dX0_negativeOf_40 ?_
      refine lv_i2l (v := (Int32.toInt64 ((Int64.toInt32 a0) ^^^ (-2147483648)))) hx hb dX0_negativeOf_41 rfl ?_
      subst h
      exact g_lret X hI dX0_negativeOf_42
    · have h := g_f _ c0 h
      by_cases c1 : a2 = 5
      · have h := g_t _ c1 h
        refine lv_lookup (off := 32) (tgt := 43) hx hb dX0_negativeOf_11 (by decide) (by rw [c1]; rfl) (by decide) ?_
        refine lv_lload_n hx hb dX0_negativeOf_43 rfl (lv_at hl 0 rfl) ?_
        refine lv_ldc2 (v := (-9223372036854775808)) hx hb X.2.2.2.1 (X.2.2.2.2.1 _ tw_2_132) dX0_negativeOf_44 ?_
        refine lv_lxor (x := a0) (y := (-9223372036854775808)) hx hb dX0_negativeOf_47 ?_
        subst h
        exact g_lret X hI dX0_negativeOf_48
      · have h := g_f _ c1 h
        refine lv_lookup (off := 38) (tgt := 49) hx hb dX0_negativeOf_11 (by decide) (by show Op.lookupswitch.offset [(4, 25), (5, 32)] (38) _ = _; rw [lv_osw c0 (by decide), lv_osw c1 (by decide)]; rfl) (by decide) ?_
        refine lv_lload_n hx hb dX0_negativeOf_49 rfl (lv_at hl 0 rfl) ?_
        refine lv_lneg hx hb dX0_negativeOf_50 ?_
        refine lv_iload_n hx hb dX0_negativeOf_51 rfl (lv_at hl 1 rfl) ?_
        refine g_callS X hI (av := [.long (-a0), .int a2]) (c_X1_lowestBits (-a0) a2) gm_X1_lowestBits tw_2_49 tw_1_192 ⟨by decide, by decide⟩ hl.1 (rest := []) rfl (Nat.le_of_ble_eq_true rfl) dX0_negativeOf_52 ⟨by decide, by decide⟩ (st1 := [.long (f_X1_lowestBits (-a0) a2)]) rfl (cells' := 0) (slots' := 0) rfl rfl (fun H locs hI => ?_)
        subst h
        exact g_lret X hI dX0_negativeOf_55
  · have h := g_f _ c h
    refine lv_lload_n hx hb dX0_negativeOf_8 rfl (lv_at hl 0 rfl) ?_
    subst h
    exact g_lret X hI dX0_negativeOf_9
abbrev rm_X0_sizeOf : Room := { frames := 3, cells := 0, slots := 0, locals := 64 }
def f_X0_sizeOf (a0 : Int64) (a2 : Int32) : Int64 :=
  if (0 : Int64) ≤ a0 then
    a0
  else
  (f_X0_negativeOf a0 a2)
theorem gm_X0_sizeOf : g_M yX0_sizeOf cX0_sizeOf 3 (some .long) 2 := ⟨tw_2_127, tw_1_2, by decide +kernel, Or.inl (by decide +kernel)⟩
set_option maxHeartbeats 4000000 in
set_option maxRecDepth 100000 in
theorem c_X0_sizeOf {l : Launch} {E : gE} {G : gG} {n : Nat} (a0 : Int64) (a2 : Int32) : g_Met l yX0_sizeOf cX0_sizeOf 3 (some .long) rm_X0_sizeOf E G n [.long a0, .int a2] (some (.long (f_X0_sizeOf a0 a2))) G n := by
  generalize h : f_X0_sizeOf a0 a2 = r
  refine g_ofW gm_X0_sizeOf (Nat.le_of_ble_eq_true rfl) ?_
  intro p e s m below meth c ls X hl hI
  have hx := X.1
  have hb := X.2.1
  have X : g_X E G n p s m _ meth c cX0_sizeOf 3 RX0 "sizeOf" (some .long) := X
  have hl : lv_has ls 3 [(0, .long a0), (2, .int a2)] := hl
  unfold f_X0_sizeOf at h
  refine lv_lload_n hx hb dX0_sizeOf_0 rfl (lv_at hl 0 rfl) ?_
  refine lv_lconst (v := 0) hx hb dX0_sizeOf_1 (by decide) ?_
  refine W.lcmp hx hb dX0_sizeOf_2 ?_
  refine lv_if_ge (tgt := 14) hx hb dX0_sizeOf_3 (by decide) (fun c => ?_) (fun c => ?_)
  · have h := g_t _ ((lg_cmp_ge _ _).mp c) h
    refine lv_lload_n hx hb dX0_sizeOf_14 rfl (lv_at hl 0 rfl) ?_
    subst h
    exact g_lret X hI dX0_sizeOf_15
  · have h := g_f _ (fun q => c ((lg_cmp_ge _ _).mpr q)) h
    refine lv_lload_n hx hb dX0_sizeOf_6 rfl (lv_at hl 0 rfl) ?_
    refine lv_iload_n hx hb dX0_sizeOf_7 rfl (lv_at hl 1 rfl) ?_
    refine g_callS X hI (av := [.long a0, .int a2]) (c_X0_negativeOf a0 a2) gm_X0_negativeOf tw_2_128 tw_2_129 ⟨by decide, by decide⟩ hl.1 (rest := []) rfl (Nat.le_of_ble_eq_true rfl) dX0_sizeOf_8 ⟨by decide, by decide⟩ (st1 := [.long (f_X0_negativeOf a0 a2)]) rfl (cells' := 0) (slots' := 0) rfl rfl (fun H locs hI => ?_)
    refine lv_goto (tgt := 15) hx hb dX0_sizeOf_11 (by decide) ?_
    subst h
    exact g_lret X hI dX0_sizeOf_15
abbrev rm_X0_ofReals : Room := { frames := 3, cells := 0, slots := 0, locals := 91 }
def f_X0_ofReals_297 (G : gG) (x0 : Nat) (x2 : Int32) : Option (Int64 × gG) :=
  gb (g_fA G x0 0 2) fun g1 =>
  gck (g_isO G g1 1) <|
  gb (f_X2_toValue G g1 x2) fun r2 =>
  some (r2, G)
set_option maxHeartbeats 4000000 in
set_option maxRecDepth 100000 in
theorem b_X0_ofReals_297 {p : Program} {l : Launch} {e : Env} {s : State} {m : MethodId} {args : Array Value} {below : List Frame} {meth : Method} {c : Code} {E : gE} {G0 : gG} {n0 : Nat} (X : g_X E G0 n0 p s m args meth c cX0_ofReals 7 RX0 "ofReals" (some .long)) {G : gG} {n : Nat} {r : Int64} {Gr : gG} {H : Heap} {locs : List Loc} (hI : g_I E (g_A G0 n0) G n s.heap H locs) {x0 : Nat} {x2 : Int32} (h : f_X0_ofReals_297 G x0 x2 = some (r, Gr)) {ls : Array Slot} (hl : lv_has ls 7 [(0, .ref x0), (2, .int x2)]) : W p l e rm_X0_ofReals s m args below meth c H locs 0 0 (MQ below (g_Q E G0 n0 (some (.long r)) Gr n) args s rm_X0_ofReals.cells rm_X0_ofReals.slots (g_A G0 n0)) (F0 m 297 ls []) := by
  have hx := X.1
  have hb := X.2.1
  unfold f_X0_ofReals_297 at h
  refine lv_aload_n hx hb dX0_ofReals_297 rfl (lv_at hl 0 rfl) ?_
  obtain ⟨g1, eg1, h⟩ := gb_s h
  refine g_get X hI (g_fA_s eg1) (C := RX0) (T := TX0) (N := 3) rfl gu_X0 (by decide) tw_1_49 dX0_ofReals_298 ?_
  refine lv_iload_n hx hb dX0_ofReals_301 rfl (lv_at hl 1 rfl) ?_
  obtain ⟨cO, h⟩ := gck_s h
  obtain ⟨r2, er2, h⟩ := gb_s h
  refine g_callV X hI (q := (RX2, TX2, 4)) (b := g1) (av := [.int x2]) cO rfl (c_X2_toValue er2) gm_X2_toValue tw_2_71 tw_2_72 tw_2_73 ⟨by decide, by decide⟩ hl.1 (rest := []) rfl (Nat.le_of_ble_eq_true rfl) dX0_ofReals_302 ⟨by decide, by decide⟩ (st1 := [.long r2]) rfl (cells' := 0) (slots' := 0) rfl rfl (fun H locs hI => ?_)
  obtain ⟨h, h2⟩ := g_sp2 h
  subst h
  subst h2
  exact g_lret X hI dX0_ofReals_305
def f_X0_ofReals_204 (G : gG) (x0 : Nat) (x2 : Int32) (s0 : Int32) (s1 : Nat) : Option (Int64 × gG) :=
  gck (g_isO G s1 1) <|
  gb (f_X2_roundToWhole G s1 s0) fun G1 =>
  f_X0_ofReals_297 G1 x0 x2
set_option maxHeartbeats 4000000 in
set_option maxRecDepth 100000 in
theorem b_X0_ofReals_204 {p : Program} {l : Launch} {e : Env} {s : State} {m : MethodId} {args : Array Value} {below : List Frame} {meth : Method} {c : Code} {E : gE} {G0 : gG} {n0 : Nat} (X : g_X E G0 n0 p s m args meth c cX0_ofReals 7 RX0 "ofReals" (some .long)) {G : gG} {n : Nat} {r : Int64} {Gr : gG} {H : Heap} {locs : List Loc} (hI : g_I E (g_A G0 n0) G n s.heap H locs) {x0 : Nat} {x2 : Int32} {s0 : Int32} {s1 : Nat} (h : f_X0_ofReals_204 G x0 x2 s0 s1 = some (r, Gr)) {ls : Array Slot} (hl : lv_has ls 7 [(0, .ref x0), (2, .int x2)]) : W p l e rm_X0_ofReals s m args below meth c H locs 0 0 (MQ below (g_Q E G0 n0 (some (.long r)) Gr n) args s rm_X0_ofReals.cells rm_X0_ofReals.slots (g_A G0 n0)) (F0 m 204 ls [.int s0, .ref s1]) := by
  have hx := X.1
  have hb := X.2.1
  unfold f_X0_ofReals_204 at h
  obtain ⟨cO, h⟩ := gck_s h
  obtain ⟨G1, eG1, h⟩ := gb_s h
  refine g_callV X hI (q := (RX2, TX2, 4)) (b := s1) (av := [.int s0]) cO rfl (c_X2_roundToWhole eG1) gm_X2_roundToWhole tw_2_168 tw_2_169 tw_2_170 ⟨by decide, by decide⟩ hl.1 (rest := []) rfl (Nat.le_of_ble_eq_true rfl) dX0_ofReals_204 ⟨by decide, by decide⟩ (st1 := []) rfl (cells' := 0) (slots' := 0) rfl rfl (fun H locs hI => ?_)
  refine lv_goto (tgt := 297) hx hb dX0_ofReals_207 (by decide) ?_
  exact b_X0_ofReals_297 X hI h (lv_sub hl [0, 1] rfl)
def f_X0_ofReals_158 (G : gG) (x0 : Nat) (x1 : Int32) (x2 : Int32) : Option (Int64 × gG) :=
  gb (g_fA G x0 0 2) fun g1 =>
  gb (g_fA G x0 0 0) fun g2 =>
  gb (g_fA G x0 0 1) fun g3 =>
  gck (g_isO G g1 1) <|
  gb (f_X2_setQuotient G g1 g2 g3) fun G4 =>
  gb (g_fA G4 x0 0 2) fun g5 =>
  gb (g_fA G4 x0 0 2) fun g6 =>
  gck (g_isO G4 g6 1) <|
  gb (f_X2_toValue G4 g6 x2) fun r7 =>
  gck (g_isO G4 g5 1) <|
  gb (f_X2_setValue G4 g5 r7 x2) fun G8 =>
  gb (g_fA G8 x0 0 2) fun g9 =>
  if x1 = 4 then
    f_X0_ofReals_204 G8 x0 x2 6 g9
  else
  f_X0_ofReals_204 G8 x0 x2 3 g9
set_option maxHeartbeats 4000000 in
set_option maxRecDepth 100000 in
theorem b_X0_ofReals_158 {p : Program} {l : Launch} {e : Env} {s : State} {m : MethodId} {args : Array Value} {below : List Frame} {meth : Method} {c : Code} {E : gE} {G0 : gG} {n0 : Nat} (X : g_X E G0 n0 p s m args meth c cX0_ofReals 7 RX0 "ofReals" (some .long)) {G : gG} {n : Nat} {r : Int64} {Gr : gG} {H : Heap} {locs : List Loc} (hI : g_I E (g_A G0 n0) G n s.heap H locs) {x0 : Nat} {x1 : Int32} {x2 : Int32} (h : f_X0_ofReals_158 G x0 x1 x2 = some (r, Gr)) {ls : Array Slot} (hl : lv_has ls 7 [(0, .ref x0), (1, .int x1), (2, .int x2)]) : W p l e rm_X0_ofReals s m args below meth c H locs 0 0 (MQ below (g_Q E G0 n0 (some (.long r)) Gr n) args s rm_X0_ofReals.cells rm_X0_ofReals.slots (g_A G0 n0)) (F0 m 158 ls []) := by
  have hx := X.1
  have hb := X.2.1
  unfold f_X0_ofReals_158 at h
  refine lv_aload_n hx hb dX0_ofReals_158 rfl (lv_at hl 0 rfl) ?_
  obtain ⟨g1, eg1, h⟩ := gb_s h
  refine g_get X hI (g_fA_s eg1) (C := RX0) (T := TX0) (N := 3) rfl gu_X0 (by decide) tw_1_49 dX0_ofReals_159 ?_
  refine lv_aload_n hx hb dX0_ofReals_162 rfl (lv_at hl 0 rfl) ?_
  obtain ⟨g2, eg2, h⟩ := gb_s h
  refine g_get X hI (g_fA_s eg2) (C := RX0) (T := TX0) (N := 3) rfl gu_X0 (by decide) tw_1_47 dX0_ofReals_163 ?_
  refine lv_aload_n hx hb dX0_ofReals_166 rfl (lv_at hl 0 rfl) ?_
  obtain ⟨g3, eg3, h⟩ := gb_s h
  refine g_get X hI (g_fA_s eg3) (C := RX0) (T := TX0) (N := 3) rfl gu_X0 (by decide) tw_1_48 dX0_ofReals_167 ?_
  obtain ⟨cO, h⟩ := gck_s h
  obtain ⟨G4, eG4, h⟩ := gb_s h
  refine g_callV X hI (q := (RX2, TX2, 4)) (b := g1) (av := [.ref g2, .ref g3]) cO rfl (c_X2_setQuotient eG4) gm_X2_setQuotient tw_2_160 tw_2_161 tw_2_162 ⟨by decide, by decide⟩ hl.1 (rest := []) rfl (Nat.le_of_ble_eq_true rfl) dX0_ofReals_170 ⟨by decide, by decide⟩ (st1 := []) rfl (cells' := 0) (slots' := 0) rfl rfl (fun H locs hI => ?_)
  refine lv_aload_n hx hb dX0_ofReals_173 rfl (lv_at hl 0 rfl) ?_
  obtain ⟨g5, eg5, h⟩ := gb_s h
  refine g_get X hI (g_fA_s eg5) (C := RX0) (T := TX0) (N := 3) rfl gu_X0 (by decide) tw_1_49 dX0_ofReals_174 ?_
  refine lv_aload_n hx hb dX0_ofReals_177 rfl (lv_at hl 0 rfl) ?_
  obtain ⟨g6, eg6, h⟩ := gb_s h
  refine g_get X hI (g_fA_s eg6) (C := RX0) (T := TX0) (N := 3) rfl gu_X0 (by decide) tw_1_49 dX0_ofReals_178 ?_
  refine lv_iload_n hx hb dX0_ofReals_181 rfl (lv_at hl 2 rfl) ?_
  obtain ⟨cO, h⟩ := gck_s h
  obtain ⟨r7, er7, h⟩ := gb_s h
  refine g_callV X hI (q := (RX2, TX2, 4)) (b := g6) (av := [.int x2]) cO rfl (c_X2_toValue er7) gm_X2_toValue tw_2_71 tw_2_72 tw_2_73 ⟨by decide, by decide⟩ hl.1 (rest := [.ref g5]) rfl (Nat.le_of_ble_eq_true rfl) dX0_ofReals_182 ⟨by decide, by decide⟩ (st1 := [.long r7, .ref g5]) rfl (cells' := 0) (slots' := 0) rfl rfl (fun H locs hI => ?_)
  refine lv_iload_n hx hb dX0_ofReals_185 rfl (lv_at hl 2 rfl) ?_
  obtain ⟨cO, h⟩ := gck_s h
  obtain ⟨G8, eG8, h⟩ := gb_s h
  refine g_callV X hI (q := (RX2, TX2, 4)) (b := g5) (av := [.long r7, .int x2]) cO rfl (c_X2_setValue eG8) gm_X2_setValue tw_2_50 tw_2_51 tw_2_52 ⟨by decide, by decide⟩ hl.1 (rest := []) rfl (Nat.le_of_ble_eq_true rfl) dX0_ofReals_186 ⟨by decide, by decide⟩ (st1 := []) rfl (cells' := 0) (slots' := 0) rfl rfl (fun H locs hI => ?_)
  refine lv_aload_n hx hb dX0_ofReals_189 rfl (lv_at hl 0 rfl) ?_
  obtain ⟨g9, eg9, h⟩ := gb_s h
  refine g_get X hI (g_fA_s eg9) (C := RX0) (T := TX0) (N := 3) rfl gu_X0 (by decide) tw_1_49 dX0_ofReals_190 ?_
  refine lv_iload_n hx hb dX0_ofReals_193 rfl (lv_at hl 1 rfl) ?_
  refine lv_iconst (v := 4) hx hb dX0_ofReals_194 (by decide) ?_
  refine lv_icmp_ne (tgt := 203) hx hb dX0_ofReals_195 (by decide) (fun c => ?_) (fun c => ?_)
  · have h := g_f _ c h
    refine lv_iconst (v := 3) hx hb dX0_ofReals_203 (by decide) ?_
    exact b_X0_ofReals_204 X hI h (lv_sub hl [0, 2] rfl)
  · have h := g_t _ c h
    refine lv_bipush (v := 6) hx hb dX0_ofReals_198 (by decide) ?_
    refine lv_goto (tgt := 204) hx hb dX0_ofReals_200 (by decide) ?_
    exact b_X0_ofReals_204 X hI h (lv_sub hl [0, 2] rfl)
def f_X0_ofReals_101 (G : gG) (x0 : Nat) (x2 : Int32) (s0 : Int32) (s1 : Nat) : Option (Int64 × gG) :=
  gb (g_sZ G s1 1 1 s0) fun G1 =>
  gb (g_fA G1 x0 0 2) fun g2 =>
  gb (g_fA G1 x0 0 0) fun g3 =>
  gb (g_fA G1 x0 0 1) fun g4 =>
  gck (g_isO G1 g2 1) <|
  gb (f_X2_setSum G1 g2 g3 g4) fun G5 =>
  f_X0_ofReals_297 G5 x0 x2
set_option maxHeartbeats 4000000 in
set_option maxRecDepth 100000 in
theorem b_X0_ofReals_101 {p : Program} {l : Launch} {e : Env} {s : State} {m : MethodId} {args : Array Value} {below : List Frame} {meth : Method} {c : Code} {E : gE} {G0 : gG} {n0 : Nat} (X : g_X E G0 n0 p s m args meth c cX0_ofReals 7 RX0 "ofReals" (some .long)) {G : gG} {n : Nat} {r : Int64} {Gr : gG} {H : Heap} {locs : List Loc} (hI : g_I E (g_A G0 n0) G n s.heap H locs) {x0 : Nat} {x2 : Int32} {s0 : Int32} {s1 : Nat} (h : f_X0_ofReals_101 G x0 x2 s0 s1 = some (r, Gr)) {ls : Array Slot} (hl : lv_has ls 7 [(0, .ref x0), (2, .int x2)]) : W p l e rm_X0_ofReals s m args below meth c H locs 0 0 (MQ below (g_Q E G0 n0 (some (.long r)) Gr n) args s rm_X0_ofReals.cells rm_X0_ofReals.slots (g_A G0 n0)) (F0 m 101 ls [.int s0, .ref s1]) := by
  have hx := X.1
  have hb := X.2.1
  unfold f_X0_ofReals_101 at h
  obtain ⟨G1, eG1, h⟩ := gb_s h
  obtain ⟨cz, eG1⟩ := g_sZ_s eG1
  refine g_put X hI (k := 1) (v := .int s0) (G' := G1) eG1 (C := RX2) (T := TX2) (N := 4) rfl gu_X2 tyX2 tyX2_ok nmX2 (by decide) tw_1_35 rfl (g_nz cz) (g_fz cz) dX0_ofReals_101 (fun H locs hI => ?_)
  refine lv_aload_n hx hb dX0_ofReals_104 rfl (lv_at hl 0 rfl) ?_
  obtain ⟨g2, eg2, h⟩ := gb_s h
  refine g_get X hI (g_fA_s eg2) (C := RX0) (T := TX0) (N := 3) rfl gu_X0 (by decide) tw_1_49 dX0_ofReals_105 ?_
  refine lv_aload_n hx hb dX0_ofReals_108 rfl (lv_at hl 0 rfl) ?_
  obtain ⟨g3, eg3, h⟩ := gb_s h
  refine g_get X hI (g_fA_s eg3) (C := RX0) (T := TX0) (N := 3) rfl gu_X0 (by decide) tw_1_47 dX0_ofReals_109 ?_
  refine lv_aload_n hx hb dX0_ofReals_112 rfl (lv_at hl 0 rfl) ?_
  obtain ⟨g4, eg4, h⟩ := gb_s h
  refine g_get X hI (g_fA_s eg4) (C := RX0) (T := TX0) (N := 3) rfl gu_X0 (by decide) tw_1_48 dX0_ofReals_113 ?_
  obtain ⟨cO, h⟩ := gck_s h
  obtain ⟨G5, eG5, h⟩ := gb_s h
  refine g_callV X hI (q := (RX2, TX2, 4)) (b := g2) (av := [.ref g3, .ref g4]) cO rfl (c_X2_setSum eG5) gm_X2_setSum tw_2_137 tw_2_138 tw_2_139 ⟨by decide, by decide⟩ hl.1 (rest := []) rfl (Nat.le_of_ble_eq_true rfl) dX0_ofReals_116 ⟨by decide, by decide⟩ (st1 := []) rfl (cells' := 0) (slots' := 0) rfl rfl (fun H locs hI => ?_)
  refine lv_goto (tgt := 297) hx hb dX0_ofReals_119 (by decide) ?_
  exact b_X0_ofReals_297 X hI h (lv_sub hl [0, 1] rfl)
def f_X0_ofReals (G : gG) (th : Nat) (a1 : Int32) (a2 : Int32) (a3 : Int64) (a5 : Int64) : Option (Int64 × gG) :=
  gb (g_fA G th 0 0) fun g1 =>
  gck (g_isO G g1 1) <|
  gb (f_X2_setValue G g1 a3 a2) fun G2 =>
  gb (g_fA G2 th 0 1) fun g3 =>
  gck (g_isO G2 g3 1) <|
  gb (f_X2_setValue G2 g3 a5 a2) fun G4 =>
  if a1 = 0 then
    gb (g_fA G4 th 0 2) fun g5 =>
    gb (g_fA G4 th 0 0) fun g6 =>
    gb (g_fA G4 th 0 1) fun g7 =>
    gck (g_isO G4 g5 1) <|
    gb (f_X2_setSum G4 g5 g6 g7) fun G8 =>
    f_X0_ofReals_297 G8 th a2
  else
  if a1 = 1 then
    gb (g_fA G4 th 0 1) fun g9 =>
    gb (g_fA G4 th 0 1) fun g10 =>
    gb (g_fI G4 g10 1 1) fun v11 =>
    if v11 = 0 then
      f_X0_ofReals_101 G4 th a2 1 g9
    else
    f_X0_ofReals_101 G4 th a2 0 g9
  else
  if a1 = 2 then
    gb (g_fA G4 th 0 2) fun g12 =>
    gb (g_fA G4 th 0 0) fun g13 =>
    gb (g_fA G4 th 0 1) fun g14 =>
    gck (g_isO G4 g12 1) <|
    gb (f_X2_setProduct G4 g12 g13 g14) fun G15 =>
    f_X0_ofReals_297 G15 th a2
  else
  if a1 = 3 then
    gb (g_fA G4 th 0 2) fun g16 =>
    gb (g_fA G4 th 0 0) fun g17 =>
    gb (g_fA G4 th 0 1) fun g18 =>
    gck (g_isO G4 g16 1) <|
    gb (f_X2_setQuotient G4 g16 g17 g18) fun G19 =>
    f_X0_ofReals_297 G19 th a2
  else
  if a1 = 4 then
    f_X0_ofReals_158 G4 th a1 a2
  else
  if a1 = 5 then
    f_X0_ofReals_158 G4 th a1 a2
  else
  if a1 = 6 then
    gb (g_fA G4 th 0 2) fun g20 =>
    gb (g_fA G4 th 0 0) fun g21 =>
    gb (g_fA G4 th 0 1) fun g22 =>
    gck (g_isO G4 g20 1) <|
    gb (f_X2_setRest G4 g20 g21 g22) fun G23 =>
    f_X0_ofReals_297 G23 th a2
  else
  gb (g_fA G4 th 0 2) fun g24 =>
  gb (g_fA G4 th 0 0) fun g25 =>
  gb (g_fA G4 th 0 1) fun g26 =>
  gck (g_isO G4 g24 1) <|
  gb (f_X2_setRest G4 g24 g25 g26) fun G27 =>
  gb (g_fA G27 th 0 2) fun g28 =>
  gb (g_fI G27 g28 1 0) fun v29 =>
  if v29 = 1 then
    gb (g_fA G27 th 0 2) fun g30 =>
    gb (g_fI G27 g30 1 1) fun v31 =>
    gb (g_fA G27 th 0 1) fun g32 =>
    gb (g_fI G27 g32 1 1) fun v33 =>
    if v31 = v33 then
      f_X0_ofReals_297 G27 th a2
    else
    gb (g_fA G27 th 0 0) fun g34 =>
    gb (g_fA G27 th 0 2) fun g35 =>
    gck (g_isO G27 g34 1) <|
    gb (f_X2_setAs G27 g34 g35) fun G36 =>
    gb (g_fA G36 th 0 2) fun g37 =>
    gb (g_fA G36 th 0 0) fun g38 =>
    gb (g_fA G36 th 0 1) fun g39 =>
    gck (g_isO G36 g37 1) <|
    gb (f_X2_setSum G36 g37 g38 g39) fun G40 =>
    f_X0_ofReals_297 G40 th a2
  else
  f_X0_ofReals_297 G27 th a2
theorem gm_X0_ofReals : g_M yX0_ofReals cX0_ofReals 7 (some .long) 4 := ⟨tw_2_136, tw_1_2, by decide +kernel, Or.inl (by decide +kernel)⟩
set_option maxHeartbeats 4000000 in
set_option maxRecDepth 100000 in
theorem c_X0_ofReals {l : Launch} {E : gE} {G : gG} {n : Nat} {th : Nat} {a1 : Int32} {a2 : Int32} {a3 : Int64} {a5 : Int64} {r : Int64} {Gr : gG} (h : f_X0_ofReals G th a1 a2 a3 a5 = some (r, Gr)) : g_Met l yX0_ofReals cX0_ofReals 7 (some .long) rm_X0_ofReals E G n [.ref th, .int a1, .int a2, .long a3, .long a5] (some (.long r)) Gr n := by
  refine g_ofW gm_X0_ofReals (Nat.le_of_ble_eq_true rfl) ?_
  intro p e s m below meth c ls X hl hI
  have hx := X.1
  have hb := X.2.1
  have X : g_X E G n p s m _ meth c cX0_ofReals 7 RX0 "ofReals" (some .long) := X
  have hl : lv_has ls 7 [(0, .ref th), (1, .int a1), (2, .int a2), (3, .long a3), (5, .long a5)] := hl
  unfold f_X0_ofReals at h
  refine lv_aload_n hx hb dX0_ofReals_0 rfl (lv_at hl 0 rfl) ?_
  obtain ⟨g1, eg1, h⟩ := gb_s h
  refine g_get X hI (g_fA_s eg1) (C := RX0) (T := TX0) (N := 3) rfl gu_X0 (by decide) tw_1_47 dX0_ofReals_1 ?_
  refine lv_lload_n hx hb dX0_ofReals_4 rfl (lv_at hl 3 rfl) ?_
  refine lv_iload_n hx hb dX0_ofReals_5 rfl (lv_at hl 2 rfl) ?_
  obtain ⟨cO, h⟩ := gck_s h
  obtain ⟨G2, eG2, h⟩ := gb_s h
  refine g_callV X hI (q := (RX2, TX2, 4)) (b := g1) (av := [.long a3, .int a2]) cO rfl (c_X2_setValue eG2) gm_X2_setValue tw_2_50 tw_2_51 tw_2_52 ⟨by decide, by decide⟩ hl.1 (rest := []) rfl (Nat.le_of_ble_eq_true rfl) dX0_ofReals_6 ⟨by decide, by decide⟩ (st1 := []) rfl (cells' := 0) (slots' := 0) rfl rfl (fun H locs hI => ?_)
  refine lv_aload_n hx hb dX0_ofReals_9 rfl (lv_at hl 0 rfl) ?_
  obtain ⟨g3, eg3, h⟩ := gb_s h
  refine g_get X hI (g_fA_s eg3) (C := RX0) (T := TX0) (N := 3) rfl gu_X0 (by decide) tw_1_48 dX0_ofReals_10 ?_
  refine lv_lload hx hb dX0_ofReals_13 (lv_at hl 4 rfl) ?_
  refine lv_iload_n hx hb dX0_ofReals_15 rfl (lv_at hl 2 rfl) ?_
  obtain ⟨cO, h⟩ := gck_s h
  obtain ⟨G4, eG4, h⟩ := gb_s h
  refine g_callV X hI (q := (RX2, TX2, 4)) (b := g3) (av := [.long a5, .int a2]) cO rfl (c_X2_setValue eG4) gm_X2_setValue tw_2_50 tw_2_51 tw_2_52 ⟨by decide, by decide⟩ hl.1 (rest := []) rfl (Nat.le_of_ble_eq_true rfl) dX0_ofReals_16 ⟨by decide, by decide⟩ (st1 := []) rfl (cells' := 0) (slots' := 0) rfl rfl (fun H locs hI => ?_)
  refine lv_iload_n hx hb dX0_ofReals_19 rfl (lv_at hl 1 rfl) ?_
  by_cases c0 : a1 = 0
  · have h := g_t _ c0 h
    refine lv_tableIn (off := 44) (tgt := 64) hx hb dX0_ofReals_20 (by rw [c0]; decide) (by rw [c0]; decide) (by rw [c0]; rfl) (by decide) ?_
    refine lv_aload_n hx hb dX0_ofReals_64 rfl (lv_at hl 0 rfl) ?_
    obtain ⟨g5, eg5, h⟩ := gb_s h
    refine g_get X hI (g_fA_s eg5) (C := RX0) (T := TX0) (N := 3) rfl gu_X0 (by decide) tw_1_49 dX0_ofReals_65 ?_
    refine lv_aload_n hx hb dX0_ofReals_68 rfl (lv_at hl 0 rfl) ?_
    obtain ⟨g6, eg6, h⟩ := gb_s h
    refine g_get X hI (g_fA_s eg6) (C := RX0) (T := TX0) (N := 3) rfl gu_X0 (by decide) tw_1_47 dX0_ofReals_69 ?_
    refine lv_aload_n hx hb dX0_ofReals_72 rfl (lv_at hl 0 rfl) ?_
    obtain ⟨g7, eg7, h⟩ := gb_s h
    refine g_get X hI (g_fA_s eg7) (C := RX0) (T := TX0) (N := 3) rfl gu_X0 (by decide) tw_1_48 dX0_ofReals_73 ?_
    obtain ⟨cO, h⟩ := gck_s h
    obtain ⟨G8, eG8, h⟩ := gb_s h
    refine g_callV X hI (q := (RX2, TX2, 4)) (b := g5) (av := [.ref g6, .ref g7]) cO rfl (c_X2_setSum eG8) gm_X2_setSum tw_2_137 tw_2_138 tw_2_139 ⟨by decide, by decide⟩ hl.1 (rest := []) rfl (Nat.le_of_ble_eq_true rfl) dX0_ofReals_76 ⟨by decide, by decide⟩ (st1 := []) rfl (cells' := 0) (slots' := 0) rfl rfl (fun H locs hI => ?_)
    refine lv_goto (tgt := 297) hx hb dX0_ofReals_79 (by decide) ?_
    exact b_X0_ofReals_297 X hI h (lv_sub hl [0, 2] rfl)
  · have h := g_f _ c0 h
    by_cases c1 : a1 = 1
    · have h := g_t _ c1 h
      refine lv_tableIn (off := 62) (tgt := 82) hx hb dX0_ofReals_20 (by rw [c1]; decide) (by rw [c1]; decide) (by rw [c1]; rfl) (by decide) ?_
      refine lv_aload_n hx hb dX0_ofReals_82 rfl (lv_at hl 0 rfl) ?_
      obtain ⟨g9, eg9, h⟩ := gb_s h
      refine g_get X hI (g_fA_s eg9) (C := RX0) (T := TX0) (N := 3) rfl gu_X0 (by decide) tw_1_48 dX0_ofReals_83 ?_
      refine lv_aload_n hx hb dX0_ofReals_86 rfl (lv_at hl 0 rfl) ?_
      obtain ⟨g10, eg10, h⟩ := gb_s h
      refine g_get X hI (g_fA_s eg10) (C := RX0) (T := TX0) (N := 3) rfl gu_X0 (by decide) tw_1_48 dX0_ofReals_87 ?_
      obtain ⟨v11, ev11, h⟩ := gb_s h
      refine g_get X hI (g_fI_s ev11) (C := RX2) (T := TX2) (N := 4) rfl gu_X2 (by decide) tw_1_35 dX0_ofReals_90 ?_
      refine lv_if_ne (tgt := 100) hx hb dX0_ofReals_93 (by decide) (fun c => ?_) (fun c => ?_)
      · have h := g_f _ c h
        refine lv_iconst (v := 0) hx hb dX0_ofReals_100 (by decide) ?_
        exact b_X0_ofReals_101 X hI h (lv_sub hl [0, 2] rfl)
      · have h := g_t _ c h
        refine lv_iconst (v := 1) hx hb dX0_ofReals_96 (by decide) ?_
        refine lv_goto (tgt := 101) hx hb dX0_ofReals_97 (by decide) ?_
        exact b_X0_ofReals_101 X hI h (lv_sub hl [0, 2] rfl)
    · have h := g_f _ c1 h
      by_cases c2 : a1 = 2
      · have h := g_t _ c2 h
        refine lv_tableIn (off := 102) (tgt := 122) hx hb dX0_ofReals_20 (by rw [c2]; decide) (by rw [c2]; decide) (by rw [c2]; rfl) (by decide) ?_
        refine lv_aload_n hx hb dX0_ofReals_122 rfl (lv_at hl 0 rfl) ?_
        obtain ⟨g12, eg12, h⟩ := gb_s h
        refine g_get X hI (g_fA_s eg12) (C := RX0) (T := TX0) (N := 3) rfl gu_X0 (by decide) tw_1_49 dX0_ofReals_123 ?_
        refine lv_aload_n hx hb dX0_ofReals_126 rfl (lv_at hl 0 rfl) ?_
        obtain ⟨g13, eg13, h⟩ := gb_s h
        refine g_get X hI (g_fA_s eg13) (C := RX0) (T := TX0) (N := 3) rfl gu_X0 (by decide) tw_1_47 dX0_ofReals_127 ?_
        refine lv_aload_n hx hb dX0_ofReals_130 rfl (lv_at hl 0 rfl) ?_
        obtain ⟨g14, eg14, h⟩ := gb_s h
        refine g_get X hI (g_fA_s eg14) (C := RX0) (T := TX0) (N := 3) rfl gu_X0 (by decide) tw_1_48 dX0_ofReals_131 ?_
        obtain ⟨cO, h⟩ := gck_s h
        obtain ⟨G15, eG15, h⟩ := gb_s h
        refine g_callV X hI (q := (RX2, TX2, 4)) (b := g12) (av := [.ref g13, .ref g14]) cO rfl (c_X2_setProduct eG15) gm_X2_setProduct tw_2_152 tw_2_153 tw_2_154 ⟨by decide, by decide⟩ hl.1 (rest := []) rfl (Nat.le_of_ble_eq_true rfl) dX0_ofReals_134 ⟨by decide, by decide⟩ (st1 := []) rfl (cells' := 0) (slots' := 0) rfl rfl (fun H locs hI => ?_)
        refine lv_goto (tgt := 297) hx hb dX0_ofReals_137 (by decide) ?_
        exact b_X0_ofReals_297 X hI h (lv_sub hl [0, 2] rfl)
      · have h := g_f _ c2 h
        by_cases c3 : a1 = 3
        · have h := g_t _ c3 h
          refine lv_tableIn (off := 120) (tgt := 140) hx hb dX0_ofReals_20 (by rw [c3]; decide) (by rw [c3]; decide) (by rw [c3]; rfl) (by decide) ?_
          refine lv_aload_n hx hb dX0_ofReals_140 rfl (lv_at hl 0 rfl) ?_
          obtain ⟨g16, eg16, h⟩ := gb_s h
          refine g_get X hI (g_fA_s eg16) (C := RX0) (T := TX0) (N := 3) rfl gu_X0 (by decide) tw_1_49 dX0_ofReals_141 ?_
          refine lv_aload_n hx hb dX0_ofReals_144 rfl (lv_at hl 0 rfl) ?_
          obtain ⟨g17, eg17, h⟩ := gb_s h
          refine g_get X hI (g_fA_s eg17) (C := RX0) (T := TX0) (N := 3) rfl gu_X0 (by decide) tw_1_47 dX0_ofReals_145 ?_
          refine lv_aload_n hx hb dX0_ofReals_148 rfl (lv_at hl 0 rfl) ?_
          obtain ⟨g18, eg18, h⟩ := gb_s h
          refine g_get X hI (g_fA_s eg18) (C := RX0) (T := TX0) (N := 3) rfl gu_X0 (by decide) tw_1_48 dX0_ofReals_149 ?_
          obtain ⟨cO, h⟩ := gck_s h
          obtain ⟨G19, eG19, h⟩ := gb_s h
          refine g_callV X hI (q := (RX2, TX2, 4)) (b := g16) (av := [.ref g17, .ref g18]) cO rfl (c_X2_setQuotient eG19) gm_X2_setQuotient tw_2_160 tw_2_161 tw_2_162 ⟨by decide, by decide⟩ hl.1 (rest := []) rfl (Nat.le_of_ble_eq_true rfl) dX0_ofReals_152 ⟨by decide, by decide⟩ (st1 := []) rfl (cells' := 0) (slots' := 0) rfl rfl (fun H locs hI => ?_)
          refine lv_goto (tgt := 297) hx hb dX0_ofReals_155 (by decide) ?_
          exact b_X0_ofReals_297 X hI h (lv_sub hl [0, 2] rfl)
        · have h := g_f _ c3 h
          by_cases c4 : a1 = 4
          · have h := g_t _ c4 h
            refine lv_tableIn (off := 138) (tgt := 158) hx hb dX0_ofReals_20 (by rw [c4]; decide) (by rw [c4]; decide) (by rw [c4]; rfl) (by decide) ?_
            exact b_X0_ofReals_158 X hI h (lv_sub hl [0, 1, 2] rfl)
          · have h := g_f _ c4 h
            by_cases c5 : a1 = 5
            · have h := g_t _ c5 h
              refine lv_tableIn (off := 138) (tgt := 158) hx hb dX0_ofReals_20 (by rw [c5]; decide) (by rw [c5]; decide) (by rw [c5]; rfl) (by decide) ?_
              exact b_X0_ofReals_158 X hI h (lv_sub hl [0, 1, 2] rfl)
            · have h := g_f _ c5 h
              by_cases c6 : a1 = 6
              · have h := g_t _ c6 h
                refine lv_tableIn (off := 190) (tgt := 210) hx hb dX0_ofReals_20 (by rw [c6]; decide) (by rw [c6]; decide) (by rw [c6]; rfl) (by decide) ?_
                refine lv_aload_n hx hb dX0_ofReals_210 rfl (lv_at hl 0 rfl) ?_
                obtain ⟨g20, eg20, h⟩ := gb_s h
                refine g_get X hI (g_fA_s eg20) (C := RX0) (T := TX0) (N := 3) rfl gu_X0 (by decide) tw_1_49 dX0_ofReals_211 ?_
                refine lv_aload_n hx hb dX0_ofReals_214 rfl (lv_at hl 0 rfl) ?_
                obtain ⟨g21, eg21, h⟩ := gb_s h
                refine g_get X hI (g_fA_s eg21) (C := RX0) (T := TX0) (N := 3) rfl gu_X0 (by decide) tw_1_47 dX0_ofReals_215 ?_
                refine lv_aload_n hx hb dX0_ofReals_218 rfl (lv_at hl 0 rfl) ?_
                obtain ⟨g22, eg22, h⟩ := gb_s h
                refine g_get X hI (g_fA_s eg22) (C := RX0) (T := TX0) (N := 3) rfl gu_X0 (by decide) tw_1_48 dX0_ofReals_219 ?_
                obtain ⟨cO, h⟩ := gck_s h
                obtain ⟨G23, eG23, h⟩ := gb_s h
                refine g_callV X hI (q := (RX2, TX2, 4)) (b := g20) (av := [.ref g21, .ref g22]) cO rfl (c_X2_setRest eG23) gm_X2_setRest tw_2_172 tw_2_173 tw_2_174 ⟨by decide, by decide⟩ hl.1 (rest := []) rfl (Nat.le_of_ble_eq_true rfl) dX0_ofReals_222 ⟨by decide, by decide⟩ (st1 := []) rfl (cells' := 0) (slots' := 0) rfl rfl (fun H locs hI => ?_)
                refine lv_goto (tgt := 297) hx hb dX0_ofReals_225 (by decide) ?_
                exact b_X0_ofReals_297 X hI h (lv_sub hl [0, 2] rfl)
              · have h := g_f _ c6 h
                refine lv_tableOut (tgt := 228) hx hb dX0_ofReals_20 (by have q0 := lv_neT (a := 0) c0 (by decide); have q1 := lv_neT (a := 1) c1 (by decide); have q2 := lv_neT (a := 2) c2 (by decide); have q3 := lv_neT (a := 3) c3 (by decide); have q4 := lv_neT (a := 4) c4 (by decide); have q5 := lv_neT (a := 5) c5 (by decide); have q6 := lv_neT (a := 6) c6 (by decide); omega) (by decide) ?_
                refine lv_aload_n hx hb dX0_ofReals_228 rfl (lv_at hl 0 rfl) ?_
                obtain ⟨g24, eg24, h⟩ := gb_s h
                refine g_get X hI (g_fA_s eg24) (C := RX0) (T := TX0) (N := 3) rfl gu_X0 (by decide) tw_1_49 dX0_ofReals_229 ?_
                refine lv_aload_n hx hb dX0_ofReals_232 rfl (lv_at hl 0 rfl) ?_
                obtain ⟨g25, eg25, h⟩ := gb_s h
                refine g_get X hI (g_fA_s eg25) (C := RX0) (T := TX0) (N := 3) rfl gu_X0 (by decide) tw_1_47 dX0_ofReals_233 ?_
                refine lv_aload_n hx hb dX0_ofReals_236 rfl (lv_at hl 0 rfl) ?_
                obtain ⟨g26, eg26, h⟩ := gb_s h
                refine g_get X hI (g_fA_s eg26) (C := RX0) (T := TX0) (N := 3) rfl gu_X0 (by decide) tw_1_48 dX0_ofReals_237 ?_
                obtain ⟨cO, h⟩ := gck_s h
                obtain ⟨G27, eG27, h⟩ := gb_s h
                refine g_callV X hI (q := (RX2, TX2, 4)) (b := g24) (av := [.ref g25, .ref g26]) cO rfl (c_X2_setRest eG27) gm_X2_setRest tw_2_172 tw_2_173 tw_2_174 ⟨by decide, by decide⟩ hl.1 (rest := []) rfl (Nat.le_of_ble_eq_true rfl) dX0_ofReals_240 ⟨by decide, by decide⟩ (st1 := []) rfl (cells' := 0) (slots' := 0) rfl rfl (fun H locs hI => ?_)
                refine lv_aload_n hx hb dX0_ofReals_243 rfl (lv_at hl 0 rfl) ?_
                obtain ⟨g28, eg28, h⟩ := gb_s h
                refine g_get X hI (g_fA_s eg28) (C := RX0) (T := TX0) (N := 3) rfl gu_X0 (by decide) tw_1_49 dX0_ofReals_244 ?_
                obtain ⟨v29, ev29, h⟩ := gb_s h
                refine g_get X hI (g_fI_s ev29) (C := RX2) (T := TX2) (N := 4) rfl gu_X2 (by decide) tw_1_33 dX0_ofReals_247 ?_
                refine lv_iconst (v := 1) hx hb dX0_ofReals_250 (by decide) ?_
                refine lv_icmp_ne (tgt := 297) hx hb dX0_ofReals_251 (by decide) (fun c => ?_) (fun c => ?_)
                · have h := g_f _ c h
                  exact b_X0_ofReals_297 X hI h (lv_sub hl [0, 2] rfl)
                · have h := g_t _ c h
                  refine lv_aload_n hx hb dX0_ofReals_254 rfl (lv_at hl 0 rfl) ?_
                  obtain ⟨g30, eg30, h⟩ := gb_s h
                  refine g_get X hI (g_fA_s eg30) (C := RX0) (T := TX0) (N := 3) rfl gu_X0 (by decide) tw_1_49 dX0_ofReals_255 ?_
                  obtain ⟨v31, ev31, h⟩ := gb_s h
                  refine g_get X hI (g_fI_s ev31) (C := RX2) (T := TX2) (N := 4) rfl gu_X2 (by decide) tw_1_35 dX0_ofReals_258 ?_
                  refine lv_aload_n hx hb dX0_ofReals_261 rfl (lv_at hl 0 rfl) ?_
                  obtain ⟨g32, eg32, h⟩ := gb_s h
                  refine g_get X hI (g_fA_s eg32) (C := RX0) (T := TX0) (N := 3) rfl gu_X0 (by decide) tw_1_48 dX0_ofReals_262 ?_
                  obtain ⟨v33, ev33, h⟩ := gb_s h
                  refine g_get X hI (g_fI_s ev33) (C := RX2) (T := TX2) (N := 4) rfl gu_X2 (by decide) tw_1_35 dX0_ofReals_265 ?_
                  refine lv_icmp_eq (tgt := 297) hx hb dX0_ofReals_268 (by decide) (fun c => ?_) (fun c => ?_)
                  · have h := g_t _ c h
                    exact b_X0_ofReals_297 X hI h (lv_sub hl [0, 2] rfl)
                  · have h := g_f _ c h
                    refine lv_aload_n hx hb dX0_ofReals_271 rfl (lv_at hl 0 rfl) ?_
                    obtain ⟨g34, eg34, h⟩ := gb_s h
                    refine g_get X hI (g_fA_s eg34) (C := RX0) (T := TX0) (N := 3) rfl gu_X0 (by decide) tw_1_47 dX0_ofReals_272 ?_
                    refine lv_aload_n hx hb dX0_ofReals_275 rfl (lv_at hl 0 rfl) ?_
                    obtain ⟨g35, eg35, h⟩ := gb_s h
                    refine g_get X hI (g_fA_s eg35) (C := RX0) (T := TX0) (N := 3) rfl gu_X0 (by decide) tw_1_49 dX0_ofReals_276 ?_
                    obtain ⟨cO, h⟩ := gck_s h
                    obtain ⟨G36, eG36, h⟩ := gb_s h
                    refine g_callV X hI (q := (RX2, TX2, 4)) (b := g34) (av := [.ref g35]) cO rfl (c_X2_setAs eG36) gm_X2_setAs tw_2_181 tw_2_142 tw_2_143 ⟨by decide, by decide⟩ hl.1 (rest := []) rfl (Nat.le_of_ble_eq_true rfl) dX0_ofReals_279 ⟨by decide, by decide⟩ (st1 := []) rfl (cells' := 0) (slots' := 0) rfl rfl (fun H locs hI => ?_)
                    refine lv_aload_n hx hb dX0_ofReals_282 rfl (lv_at hl 0 rfl) ?_
                    obtain ⟨g37, eg37, h⟩ := gb_s h
                    refine g_get X hI (g_fA_s eg37) (C := RX0) (T := TX0) (N := 3) rfl gu_X0 (by decide) tw_1_49 dX0_ofReals_283 ?_
                    refine lv_aload_n hx hb dX0_ofReals_286 rfl (lv_at hl 0 rfl) ?_
                    obtain ⟨g38, eg38, h⟩ := gb_s h
                    refine g_get X hI (g_fA_s eg38) (C := RX0) (T := TX0) (N := 3) rfl gu_X0 (by decide) tw_1_47 dX0_ofReals_287 ?_
                    refine lv_aload_n hx hb dX0_ofReals_290 rfl (lv_at hl 0 rfl) ?_
                    obtain ⟨g39, eg39, h⟩ := gb_s h
                    refine g_get X hI (g_fA_s eg39) (C := RX0) (T := TX0) (N := 3) rfl gu_X0 (by decide) tw_1_48 dX0_ofReals_291 ?_
                    obtain ⟨cO, h⟩ := gck_s h
                    obtain ⟨G40, eG40, h⟩ := gb_s h
                    refine g_callV X hI (q := (RX2, TX2, 4)) (b := g37) (av := [.ref g38, .ref g39]) cO rfl (c_X2_setSum eG40) gm_X2_setSum tw_2_137 tw_2_138 tw_2_139 ⟨by decide, by decide⟩ hl.1 (rest := []) rfl (Nat.le_of_ble_eq_true rfl) dX0_ofReals_294 ⟨by decide, by decide⟩ (st1 := []) rfl (cells' := 0) (slots' := 0) rfl rfl (fun H locs hI => ?_)
                    exact b_X0_ofReals_297 X hI h (lv_sub hl [0, 2] rfl)
abbrev rm_X0_withoutSign : Room := { frames := 0, cells := 0, slots := 0, locals := 0 }
def f_X0_withoutSign (a0 : Int64) (a2 : Int32) : Int64 :=
  if a2 = 1 then
    (a0 &&& 255)
  else
  if a2 = 2 then
    (a0 &&& 4294967295)
  else
  a0
theorem gm_X0_withoutSign : g_M yX0_withoutSign cX0_withoutSign 3 (some .long) 2 := ⟨tw_2_193, tw_1_2, by decide +kernel, Or.inl (by decide +kernel)⟩
set_option maxHeartbeats 4000000 in
set_option maxRecDepth 100000 in
theorem c_X0_withoutSign {l : Launch} {E : gE} {G : gG} {n : Nat} (a0 : Int64) (a2 : Int32) : g_Met l yX0_withoutSign cX0_withoutSign 3 (some .long) rm_X0_withoutSign E G n [.long a0, .int a2] (some (.long (f_X0_withoutSign a0 a2))) G n := by
  generalize h : f_X0_withoutSign a0 a2 = r
  refine g_ofW gm_X0_withoutSign (Nat.le_of_ble_eq_true rfl) ?_
  intro p e s m below meth c ls X hl hI
  have hx := X.1
  have hb := X.2.1
  have X : g_X E G n p s m _ meth c cX0_withoutSign 3 RX0 "withoutSign" (some .long) := X
  have hl : lv_has ls 3 [(0, .long a0), (2, .int a2)] := hl
  unfold f_X0_withoutSign at h
  refine lv_iload_n hx hb dX0_withoutSign_0 rfl (lv_at hl 1 rfl) ?_
  refine lv_iconst (v := 1) hx hb dX0_withoutSign_1 (by decide) ?_
  refine lv_icmp_ne (tgt := 13) hx hb dX0_withoutSign_2 (by decide) (fun c => ?_) (fun c => ?_)
  · have h := g_f _ c h
    refine lv_iload_n hx hb dX0_withoutSign_13 rfl (lv_at hl 1 rfl) ?_
    refine lv_iconst (v := 2) hx hb dX0_withoutSign_14 (by decide) ?_
    refine lv_icmp_ne (tgt := 26) hx hb dX0_withoutSign_15 (by decide) (fun c => ?_) (fun c => ?_)
    · have h := g_f _ c h
      refine lv_lload_n hx hb dX0_withoutSign_26 rfl (lv_at hl 0 rfl) ?_
      subst h
      exact g_lret X hI dX0_withoutSign_27
    · have h := g_t _ c h
      refine lv_lload_n hx hb dX0_withoutSign_18 rfl (lv_at hl 0 rfl) ?_
      refine lv_ldc2 (v := 4294967295) hx hb X.2.2.2.1 (X.2.2.2.2.1 _ tw_2_195) dX0_withoutSign_19 ?_
      refine lv_land (x := a0) (y := 4294967295) hx hb dX0_withoutSign_22 ?_
      refine lv_goto (tgt := 27) hx hb dX0_withoutSign_23 (by decide) ?_
      subst h
      exact g_lret X hI dX0_withoutSign_27
  · have h := g_t _ c h
    refine lv_lload_n hx hb dX0_withoutSign_5 rfl (lv_at hl 0 rfl) ?_
    refine lv_ldc2 (v := 255) hx hb X.2.2.2.1 (X.2.2.2.2.1 _ tw_2_194) dX0_withoutSign_6 ?_
    refine lv_land (x := a0) (y := 255) hx hb dX0_withoutSign_9 ?_
    refine lv_goto (tgt := 27) hx hb dX0_withoutSign_10 (by decide) ?_
    subst h
    exact g_lret X hI dX0_withoutSign_27
abbrev rm_X0_ofWholes : Room := { frames := 1, cells := 0, slots := 0, locals := 25 }
def f_X0_ofWholes_220 (x1 : Int32) (x2 : Int64) (x6 : Int32) : Option Int64 :=
  some (g_lushr (f_X0_withoutSign x2 x1) x6)
set_option maxHeartbeats 4000000 in
set_option maxRecDepth 100000 in
theorem b_X0_ofWholes_220 {p : Program} {l : Launch} {e : Env} {s : State} {m : MethodId} {args : Array Value} {below : List Frame} {meth : Method} {c : Code} {E : gE} {G0 : gG} {n0 : Nat} (X : g_X E G0 n0 p s m args meth c cX0_ofWholes 7 RX0 "ofWholes" (some .long)) {G : gG} {n : Nat} {r : Int64} {H : Heap} {locs : List Loc} (hI : g_I E (g_A G0 n0) G n s.heap H locs) {x1 : Int32} {x2 : Int64} {x6 : Int32} (h : f_X0_ofWholes_220 x1 x2 x6 = some r) {ls : Array Slot} (hl : lv_has ls 7 [(1, .int x1), (2, .long x2), (6, .int x6)]) : W p l e rm_X0_ofWholes s m args below meth c H locs 0 0 (MQ below (g_Q E G0 n0 (some (.long r)) G n) args s rm_X0_ofWholes.cells rm_X0_ofWholes.slots (g_A G0 n0)) (F0 m 220 ls []) := by
  have hx := X.1
  have hb := X.2.1
  unfold f_X0_ofWholes_220 at h
  refine lv_lload_n hx hb dX0_ofWholes_220 rfl (lv_at hl 1 rfl) ?_
  refine lv_iload_n hx hb dX0_ofWholes_221 rfl (lv_at hl 0 rfl) ?_
  refine g_callS X hI (av := [.long x2, .int x1]) (c_X0_withoutSign x2 x1) gm_X0_withoutSign tw_2_191 tw_2_192 ⟨by decide, by decide⟩ hl.1 (rest := []) rfl (Nat.le_of_ble_eq_true rfl) dX0_ofWholes_222 ⟨by decide, by decide⟩ (st1 := [.long (f_X0_withoutSign x2 x1)]) rfl (cells' := 0) (slots' := 0) rfl rfl (fun H locs hI => ?_)
  refine lv_iload hx hb dX0_ofWholes_225 (lv_at hl 2 rfl) ?_
  refine lv_lushr (v := (g_lushr (f_X0_withoutSign x2 x1) x6)) hx hb dX0_ofWholes_227 rfl ?_
  have h := Option.some.inj h
  subst h
  exact g_lret X hI dX0_ofWholes_228
def f_X0_ofWholes_25 (x0 : Int32) (x1 : Int32) (x2 : Int64) (x4 : Int64) (s0 : Int32) (s1 : Int32) : Option Int64 :=
  gl ((s1 &&& s0) : Int32) fun v1 =>
  if x0 = 0 then
    some (x2 + x4)
  else
  if x0 = 1 then
    some (x2 - x4)
  else
  if x0 = 2 then
    some (x2 * x4)
  else
  if x0 = 3 then
    f_X0_ofWholes_220 x1 x2 v1
  else
  if x0 = 4 then
    if x4 = 0 then
      some 0
    else
    gneL x4 <|
    some (x2 / x4)
  else
  if x0 = 5 then
    if x4 = 0 then
      some 0
    else
    gb (f_J9_floorDiv_f86c9 x2 x4) fun r2 =>
    some r2
  else
  if x0 = 6 then
    if x4 = 0 then
      some 0
    else
    gneL x4 <|
    some (g_lrem x2 x4)
  else
  if x0 = 7 then
    if x4 = 0 then
      some 0
    else
    gb (f_J9_floorMod_f86c9 x2 x4) fun r3 =>
    some r3
  else
  if x0 = 8 then
    f_X0_ofWholes_220 x1 x2 v1
  else
  if x0 = 9 then
    f_X0_ofWholes_220 x1 x2 v1
  else
  if x0 = 10 then
    f_X0_ofWholes_220 x1 x2 v1
  else
  if x0 = 11 then
    f_X0_ofWholes_220 x1 x2 v1
  else
  if x0 = 12 then
    some (x2 &&& x4)
  else
  if x0 = 13 then
    some (x2 ||| x4)
  else
  if x0 = 14 then
    some (x2 ^^^ x4)
  else
  if x0 = 15 then
    some (g_lshl x2 v1)
  else
  if x0 = 16 then
    some (g_lshr x2 v1)
  else
  f_X0_ofWholes_220 x1 x2 v1
set_option maxHeartbeats 4000000 in
set_option maxRecDepth 100000 in
theorem b_X0_ofWholes_25 {p : Program} {l : Launch} {e : Env} {s : State} {m : MethodId} {args : Array Value} {below : List Frame} {meth : Method} {c : Code} {E : gE} {G0 : gG} {n0 : Nat} (X : g_X E G0 n0 p s m args meth c cX0_ofWholes 7 RX0 "ofWholes" (some .long)) {G : gG} {n : Nat} {r : Int64} {H : Heap} {locs : List Loc} (hI : g_I E (g_A G0 n0) G n s.heap H locs) {x0 : Int32} {x1 : Int32} {x2 : Int64} {x4 : Int64} {s0 : Int32} {s1 : Int32} (h : f_X0_ofWholes_25 x0 x1 x2 x4 s0 s1 = some r) {ls : Array Slot} (hl : lv_has ls 7 [(0, .int x0), (1, .int x1), (2, .long x2), (4, .long x4)]) : W p l e rm_X0_ofWholes s m args below meth c H locs 0 0 (MQ below (g_Q E G0 n0 (some (.long r)) G n) args s rm_X0_ofWholes.cells rm_X0_ofWholes.slots (g_A G0 n0)) (F0 m 25 ls [.int s0, .int s1]) := by
  have hx := X.1
  have hb := X.2.1
  unfold f_X0_ofWholes_25 at h
  refine lv_iand (x := s1) (y := s0) hx hb dX0_ofWholes_25 ?_
  obtain ⟨v1, ev1, h⟩ := gl_s h
  refine g_topi ev1 ?_
  refine lv_istore (lv' := [(6, .int v1), (0, .int x0), (1, .int x1), (2, .long x2), (4, .long x4)]) hx hb dX0_ofWholes_26 hl (by decide) rfl (fun ls hl => ?_)
  refine lv_iload_n hx hb dX0_ofWholes_28 rfl (lv_at hl 1 rfl) ?_
  by_cases c0 : x0 = 0
  · have h := g_t _ c0 h
    refine lv_tableIn (off := 83) (tgt := 112) hx hb dX0_ofWholes_29 (by rw [c0]; decide) (by rw [c0]; decide) (by rw [c0]; rfl) (by decide) ?_
    refine lv_lload_n hx hb dX0_ofWholes_112 rfl (lv_at hl 3 rfl) ?_
    refine lv_lload hx hb dX0_ofWholes_113 (lv_at hl 4 rfl) ?_
    refine lv_ladd (x := x2) (y := x4) hx hb dX0_ofWholes_115 ?_
    have h := Option.some.inj h
    subst h
    exact g_lret X hI dX0_ofWholes_116
  · have h := g_f _ c0 h
    by_cases c1 : x0 = 1
    · have h := g_t _ c1 h
      refine lv_tableIn (off := 88) (tgt := 117) hx hb dX0_ofWholes_29 (by rw [c1]; decide) (by rw [c1]; decide) (by rw [c1]; rfl) (by decide) ?_
      refine lv_lload_n hx hb dX0_ofWholes_117 rfl (lv_at hl 3 rfl) ?_
      refine lv_lload hx hb dX0_ofWholes_118 (lv_at hl 4 rfl) ?_
      refine lv_lsub (x := x2) (y := x4) hx hb dX0_ofWholes_120 ?_
      have h := Option.some.inj h
      subst h
      exact g_lret X hI dX0_ofWholes_121
    · have h := g_f _ c1 h
      by_cases c2 : x0 = 2
      · have h := g_t _ c2 h
        refine lv_tableIn (off := 93) (tgt := 122) hx hb dX0_ofWholes_29 (by rw [c2]; decide) (by rw [c2]; decide) (by rw [c2]; rfl) (by decide) ?_
        refine lv_lload_n hx hb dX0_ofWholes_122 rfl (lv_at hl 3 rfl) ?_
        refine lv_lload hx hb dX0_ofWholes_123 (lv_at hl 4 rfl) ?_
        refine lv_lmul (x := x2) (y := x4) hx hb dX0_ofWholes_125 ?_
        have h := Option.some.inj h
        subst h
        exact g_lret X hI dX0_ofWholes_126
      · have h := g_f _ c2 h
        by_cases c3 : x0 = 3
        · have h := g_t _ c3 h
          refine lv_tableIn (off := 191) (tgt := 220) hx hb dX0_ofWholes_29 (by rw [c3]; decide) (by rw [c3]; decide) (by rw [c3]; rfl) (by decide) ?_
          exact b_X0_ofWholes_220 X hI h (lv_sub hl [2, 3, 0] rfl)
        · have h := g_f _ c3 h
          by_cases c4 : x0 = 4
          · have h := g_t _ c4 h
            refine lv_tableIn (off := 98) (tgt := 127) hx hb dX0_ofWholes_29 (by rw [c4]; decide) (by rw [c4]; decide) (by rw [c4]; rfl) (by decide) ?_
            refine lv_lload hx hb dX0_ofWholes_127 (lv_at hl 4 rfl) ?_
            refine lv_lconst (v := 0) hx hb dX0_ofWholes_129 (by decide) ?_
            refine W.lcmp hx hb dX0_ofWholes_130 ?_
            refine lv_if_ne (tgt := 138) hx hb dX0_ofWholes_131 (by decide) (fun c => ?_) (fun c => ?_)
            · have h := g_f _ ((not_congr (lg_cmp_eq _ _)).mp c) h
              refine lv_lload_n hx hb dX0_ofWholes_138 rfl (lv_at hl 3 rfl) ?_
              refine lv_lload hx hb dX0_ofWholes_139 (lv_at hl 4 rfl) ?_
              obtain ⟨cz, h⟩ := gneL_s h
              refine lv_ldiv hx hb dX0_ofWholes_141 cz ?_
              have h := Option.some.inj h
              subst h
              exact g_lret X hI dX0_ofWholes_142
            · have h := g_t _ ((lg_cmp_eq _ _).mp c) h
              refine lv_lconst (v := 0) hx hb dX0_ofWholes_134 (by decide) ?_
              refine lv_goto (tgt := 142) hx hb dX0_ofWholes_135 (by decide) ?_
              have h := Option.some.inj h
              subst h
              exact g_lret X hI dX0_ofWholes_142
          · have h := g_f _ c4 h
            by_cases c5 : x0 = 5
            · have h := g_t _ c5 h
              refine lv_tableIn (off := 114) (tgt := 143) hx hb dX0_ofWholes_29 (by rw [c5]; decide) (by rw [c5]; decide) (by rw [c5]; rfl) (by decide) ?_
              refine lv_lload hx hb dX0_ofWholes_143 (lv_at hl 4 rfl) ?_
              refine lv_lconst (v := 0) hx hb dX0_ofWholes_145 (by decide) ?_
              refine W.lcmp hx hb dX0_ofWholes_146 ?_
              refine lv_if_ne (tgt := 154) hx hb dX0_ofWholes_147 (by decide) (fun c => ?_) (fun c => ?_)
              · have h := g_f _ ((not_congr (lg_cmp_eq _ _)).mp c) h
                refine lv_lload_n hx hb dX0_ofWholes_154 rfl (lv_at hl 3 rfl) ?_
                refine lv_lload hx hb dX0_ofWholes_155 (lv_at hl 4 rfl) ?_
                obtain ⟨r2, er2, h⟩ := gb_s h
                refine g_callS X hI (av := [.long x2, .long x4]) (c_J9_floorDiv_f86c9 er2) gm_J9_floorDiv_f86c9 tw_2_185 tw_2_186 ⟨by decide, by decide⟩ hl.1 (rest := []) rfl (Nat.le_of_ble_eq_true rfl) dX0_ofWholes_157 ⟨by decide, by decide⟩ (st1 := [.long r2]) rfl (cells' := 0) (slots' := 0) rfl rfl (fun H locs hI => ?_)
                have h := Option.some.inj h
                subst h
                exact g_lret X hI dX0_ofWholes_160
              · have h := g_t _ ((lg_cmp_eq _ _).mp c) h
                refine lv_lconst (v := 0) hx hb dX0_ofWholes_150 (by decide) ?_
                refine lv_goto (tgt := 160) hx hb dX0_ofWholes_151 (by decide) ?_
                have h := Option.some.inj h
                subst h
                exact g_lret X hI dX0_ofWholes_160
            · have h := g_f _ c5 h
              by_cases c6 : x0 = 6
              · have h := g_t _ c6 h
                refine lv_tableIn (off := 132) (tgt := 161) hx hb dX0_ofWholes_29 (by rw [c6]; decide) (by rw [c6]; decide) (by rw [c6]; rfl) (by decide) ?_
                refine lv_lload hx hb dX0_ofWholes_161 (lv_at hl 4 rfl) ?_
                refine lv_lconst (v := 0) hx hb dX0_ofWholes_163 (by decide) ?_
                refine W.lcmp hx hb dX0_ofWholes_164 ?_
                refine lv_if_ne (tgt := 172) hx hb dX0_ofWholes_165 (by decide) (fun c => ?_) (fun c => ?_)
                · have h := g_f _ ((not_congr (lg_cmp_eq _ _)).mp c) h
                  refine lv_lload_n hx hb dX0_ofWholes_172 rfl (lv_at hl 3 rfl) ?_
                  refine lv_lload hx hb dX0_ofWholes_173 (lv_at hl 4 rfl) ?_
                  obtain ⟨cz, h⟩ := gneL_s h
                  refine lv_lrem hx hb dX0_ofWholes_175 cz ?_
                  have h := Option.some.inj h
                  subst h
                  exact g_lret X hI dX0_ofWholes_176
                · have h := g_t _ ((lg_cmp_eq _ _).mp c) h
                  refine lv_lconst (v := 0) hx hb dX0_ofWholes_168 (by decide) ?_
                  refine lv_goto (tgt := 176) hx hb dX0_ofWholes_169 (by decide) ?_
                  have h := Option.some.inj h
                  subst h
                  exact g_lret X hI dX0_ofWholes_176
              · have h := g_f _ c6 h
                by_cases c7 : x0 = 7
                · have h := g_t _ c7 h
                  refine lv_tableIn (off := 148) (tgt := 177) hx hb dX0_ofWholes_29 (by rw [c7]; decide) (by rw [c7]; decide) (by rw [c7]; rfl) (by decide) ?_
                  refine lv_lload hx hb dX0_ofWholes_177 (lv_at hl 4 rfl) ?_
                  refine lv_lconst (v := 0) hx hb dX0_ofWholes_179 (by decide) ?_
                  refine W.lcmp hx hb dX0_ofWholes_180 ?_
                  refine lv_if_ne (tgt := 188) hx hb dX0_ofWholes_181 (by decide) (fun c => ?_) (fun c => ?_)
                  · have h := g_f _ ((not_congr (lg_cmp_eq _ _)).mp c) h
                    refine lv_lload_n hx hb dX0_ofWholes_188 rfl (lv_at hl 3 rfl) ?_
                    refine lv_lload hx hb dX0_ofWholes_189 (lv_at hl 4 rfl) ?_
                    obtain ⟨r3, er3, h⟩ := gb_s h
                    refine g_callS X hI (av := [.long x2, .long x4]) (c_J9_floorMod_f86c9 er3) gm_J9_floorMod_f86c9 tw_2_188 tw_2_189 ⟨by decide, by decide⟩ hl.1 (rest := []) rfl (Nat.le_of_ble_eq_true rfl) dX0_ofWholes_191 ⟨by decide, by decide⟩ (st1 := [.long r3]) rfl (cells' := 0) (slots' := 0) rfl rfl (fun H locs hI => ?_)
                    have h := Option.some.inj h
                    subst h
                    exact g_lret X hI dX0_ofWholes_194
                  · have h := g_t _ ((lg_cmp_eq _ _).mp c) h
                    refine lv_lconst (v := 0) hx hb dX0_ofWholes_184 (by decide) ?_
                    refine lv_goto (tgt := 194) hx hb dX0_ofWholes_185 (by decide) ?_
                    have h := Option.some.inj h
                    subst h
                    exact g_lret X hI dX0_ofWholes_194
                · have h := g_f _ c7 h
                  by_cases c8 : x0 = 8
                  · have h := g_t _ c8 h
                    refine lv_tableIn (off := 191) (tgt := 220) hx hb dX0_ofWholes_29 (by rw [c8]; decide) (by rw [c8]; decide) (by rw [c8]; rfl) (by decide) ?_
                    exact b_X0_ofWholes_220 X hI h (lv_sub hl [2, 3, 0] rfl)
                  · have h := g_f _ c8 h
                    by_cases c9 : x0 = 9
                    · have h := g_t _ c9 h
                      refine lv_tableIn (off := 191) (tgt := 220) hx hb dX0_ofWholes_29 (by rw [c9]; decide) (by rw [c9]; decide) (by rw [c9]; rfl) (by decide) ?_
                      exact b_X0_ofWholes_220 X hI h (lv_sub hl [2, 3, 0] rfl)
                    · have h := g_f _ c9 h
                      by_cases c10 : x0 = 10
                      · have h := g_t _ c10 h
                        refine lv_tableIn (off := 191) (tgt := 220) hx hb dX0_ofWholes_29 (by rw [c10]; decide) (by rw [c10]; decide) (by rw [c10]; rfl) (by decide) ?_
                        exact b_X0_ofWholes_220 X hI h (lv_sub hl [2, 3, 0] rfl)
                      · have h := g_f _ c10 h
                        by_cases c11 : x0 = 11
                        · have h := g_t _ c11 h
                          refine lv_tableIn (off := 191) (tgt := 220) hx hb dX0_ofWholes_29 (by rw [c11]; decide) (by rw [c11]; decide) (by rw [c11]; rfl) (by decide) ?_
                          exact b_X0_ofWholes_220 X hI h (lv_sub hl [2, 3, 0] rfl)
                        · have h := g_f _ c11 h
                          by_cases c12 : x0 = 12
                          · have h := g_t _ c12 h
                            refine lv_tableIn (off := 166) (tgt := 195) hx hb dX0_ofWholes_29 (by rw [c12]; decide) (by rw [c12]; decide) (by rw [c12]; rfl) (by decide) ?_
                            refine lv_lload_n hx hb dX0_ofWholes_195 rfl (lv_at hl 3 rfl) ?_
                            refine lv_lload hx hb dX0_ofWholes_196 (lv_at hl 4 rfl) ?_
                            refine lv_land (x := x2) (y := x4) hx hb dX0_ofWholes_198 ?_
                            have h := Option.some.inj h
                            subst h
                            exact g_lret X hI dX0_ofWholes_199
                          · have h := g_f _ c12 h
                            by_cases c13 : x0 = 13
                            · have h := g_t _ c13 h
                              refine lv_tableIn (off := 171) (tgt := 200) hx hb dX0_ofWholes_29 (by rw [c13]; decide) (by rw [c13]; decide) (by rw [c13]; rfl) (by decide) ?_
                              refine lv_lload_n hx hb dX0_ofWholes_200 rfl (lv_at hl 3 rfl) ?_
                              refine lv_lload hx hb dX0_ofWholes_201 (lv_at hl 4 rfl) ?_
                              refine lv_lor (x := x2) (y := x4) hx hb dX0_ofWholes_203 ?_
                              have h := Option.some.inj h
                              subst h
                              exact g_lret X hI dX0_ofWholes_204
                            · have h := g_f _ c13 h
                              by_cases c14 : x0 = 14
                              · have h := g_t _ c14 h
                                refine lv_tableIn (off := 176) (tgt := 205) hx hb dX0_ofWholes_29 (by rw [c14]; decide) (by rw [c14]; decide) (by rw [c14]; rfl) (by decide) ?_
                                refine lv_lload_n hx hb dX0_ofWholes_205 rfl (lv_at hl 3 rfl) ?_
                                refine lv_lload hx hb dX0_ofWholes_206 (lv_at hl 4 rfl) ?_
                                refine lv_lxor (x := x2) (y := x4) hx hb dX0_ofWholes_208 ?_
                                have h := Option.some.inj h
                                subst h
                                exact g_lret X hI dX0_ofWholes_209
                              · have h := g_f _ c14 h
                                by_cases c15 : x0 = 15
                                · have h := g_t _ c15 h
                                  refine lv_tableIn (off := 181) (tgt := 210) hx hb dX0_ofWholes_29 (by rw [c15]; decide) (by rw [c15]; decide) (by rw [c15]; rfl) (by decide) ?_
                                  refine lv_lload_n hx hb dX0_ofWholes_210 rfl (lv_at hl 3 rfl) ?_
                                  refine lv_iload hx hb dX0_ofWholes_211 (lv_at hl 0 rfl) ?_
                                  refine lv_lshl (v := (g_lshl x2 v1)) hx hb dX0_ofWholes_213 rfl ?_
                                  have h := Option.some.inj h
                                  subst h
                                  exact g_lret X hI dX0_ofWholes_214
                                · have h := g_f _ c15 h
                                  by_cases c16 : x0 = 16
                                  · have h := g_t _ c16 h
                                    refine lv_tableIn (off := 186) (tgt := 215) hx hb dX0_ofWholes_29 (by rw [c16]; decide) (by rw [c16]; decide) (by rw [c16]; rfl) (by decide) ?_
                                    refine lv_lload_n hx hb dX0_ofWholes_215 rfl (lv_at hl 3 rfl) ?_
                                    refine lv_iload hx hb dX0_ofWholes_216 (lv_at hl 0 rfl) ?_
                                    refine lv_lshr (v := (g_lshr x2 v1)) hx hb dX0_ofWholes_218 rfl ?_
                                    have h := Option.some.inj h
                                    subst h
                                    exact g_lret X hI dX0_ofWholes_219
                                  · have h := g_f _ c16 h
                                    refine lv_tableOut (tgt := 220) hx hb dX0_ofWholes_29 (by have q0 := lv_neT (a := 0) c0 (by decide); have q1 := lv_neT (a := 1) c1 (by decide); have q2 := lv_neT (a := 2) c2 (by decide); have q3 := lv_neT (a := 3) c3 (by decide); have q4 := lv_neT (a := 4) c4 (by decide); have q5 := lv_neT (a := 5) c5 (by decide); have q6 := lv_neT (a := 6) c6 (by decide); have q7 := lv_neT (a := 7) c7 (by decide); have q8 := lv_neT (a := 8) c8 (by decide); have q9 := lv_neT (a := 9) c9 (by decide); have q10 := lv_neT (a := 10) c10 (by decide); have q11 := lv_neT (a := 11) c11 (by decide); have q12 := lv_neT (a := 12) c12 (by decide); have q13 := lv_neT (a := 13) c13 (by decide); have q14 := lv_neT (a := 14) c14 (by decide); have q15 := lv_neT (a := 15) c15 (by decide); have q16 := lv_neT (a := 16) c16 (by decide); omega) (by decide) ?_
                                    exact b_X0_ofWholes_220 X hI h (lv_sub hl [2, 3, 0] rfl)
def f_X0_ofWholes (a0 : Int32) (a1 : Int32) (a2 : Int64) (a4 : Int64) : Option Int64 :=
  if a1 = 1 then
    f_X0_ofWholes_25 a0 a1 a2 a4 7 (Int64.toInt32 a4)
  else
  if a1 = 2 then
    f_X0_ofWholes_25 a0 a1 a2 a4 31 (Int64.toInt32 a4)
  else
  f_X0_ofWholes_25 a0 a1 a2 a4 63 (Int64.toInt32 a4)
theorem gm_X0_ofWholes : g_M yX0_ofWholes cX0_ofWholes 7 (some .long) 4 := ⟨tw_2_184, tw_1_2, by decide +kernel, Or.inl (by decide +kernel)⟩
set_option maxHeartbeats 4000000 in
set_option maxRecDepth 100000 in
theorem c_X0_ofWholes {l : Launch} {E : gE} {G : gG} {n : Nat} {a0 : Int32} {a1 : Int32} {a2 : Int64} {a4 : Int64} {r : Int64} (h : f_X0_ofWholes a0 a1 a2 a4 = some r) : g_Met l yX0_ofWholes cX0_ofWholes 7 (some .long) rm_X0_ofWholes E G n [.int a0, .int a1, .long a2, .long a4] (some (.long r)) G n := by
  refine g_ofW gm_X0_ofWholes (Nat.le_of_ble_eq_true rfl) ?_
  intro p e s m below meth c ls X hl hI
  have hx := X.1
  have hb := X.2.1
  have X : g_X E G n p s m _ meth c cX0_ofWholes 7 RX0 "ofWholes" (some .long) := X
  have hl : lv_has ls 7 [(0, .int a0), (1, .int a1), (2, .long a2), (4, .long a4)] := hl
  unfold f_X0_ofWholes at h
  refine lv_lload hx hb dX0_ofWholes_0 (lv_at hl 3 rfl) ?_
  refine lv_l2i (v := (Int64.toInt32 a4)) hx hb dX0_ofWholes_2 rfl ?_
  refine lv_iload_n hx hb dX0_ofWholes_3 rfl (lv_at hl 1 rfl) ?_
  refine lv_iconst (v := 1) hx hb dX0_ofWholes_4 (by decide) ?_
  refine lv_icmp_ne (tgt := 13) hx hb dX0_ofWholes_5 (by decide) (fun c => ?_) (fun c => ?_)
  · have h := g_f _ c h
    refine lv_iload_n hx hb dX0_ofWholes_13 rfl (lv_at hl 1 rfl) ?_
    refine lv_iconst (v := 2) hx hb dX0_ofWholes_14 (by decide) ?_
    refine lv_icmp_ne (tgt := 23) hx hb dX0_ofWholes_15 (by decide) (fun c => ?_) (fun c => ?_)
    · have h := g_f _ c h
      refine lv_bipush (v := 63) hx hb dX0_ofWholes_23 (by decide) ?_
      exact b_X0_ofWholes_25 X hI h (lv_sub hl [0, 1, 2, 3] rfl)
    · have h := g_t _ c h
      refine lv_bipush (v := 31) hx hb dX0_ofWholes_18 (by decide) ?_
      refine lv_goto (tgt := 25) hx hb dX0_ofWholes_20 (by decide) ?_
      exact b_X0_ofWholes_25 X hI h (lv_sub hl [0, 1, 2, 3] rfl)
  · have h := g_t _ c h
    refine lv_bipush (v := 7) hx hb dX0_ofWholes_8 (by decide) ?_
    refine lv_goto (tgt := 25) hx hb dX0_ofWholes_10 (by decide) ?_
    exact b_X0_ofWholes_25 X hI h (lv_sub hl [0, 1, 2, 3] rfl)
abbrev rm_X0_ofTwo : Room := { frames := 4, cells := 0, slots := 0, locals := 117 }
def f_X0_ofTwo_45 (G : gG) (x0 : Nat) (x1 : Int32) (x2 : Int32) (x3 : Int64) (x5 : Int64) : Option (Int64 × gG) :=
  if x1 = 22 then
    gl ((f_X0_sizeOf x3 x2) : Int64) fun v4 =>
    if (0 : Int64) ≤ x5 then
      some (v4, G)
    else
    some ((f_X0_negativeOf v4 x2), G)
  else
  if (f_X1_isReal x2) = 0 then
    gb (f_X0_ofWholes x1 x2 x3 x5) fun r1 =>
    some ((f_X1_lowestBits r1 x2), G)
  else
  gck (g_isO G x0 0) <|
  gb2 (f_X0_ofReals G x0 x1 x2 x3 x5) fun r2 G3 =>
  some (r2, G3)
set_option maxHeartbeats 4000000 in
set_option maxRecDepth 100000 in
theorem b_X0_ofTwo_45 {p : Program} {l : Launch} {e : Env} {s : State} {m : MethodId} {args : Array Value} {below : List Frame} {meth : Method} {c : Code} {E : gE} {G0 : gG} {n0 : Nat} (X : g_X E G0 n0 p s m args meth c cX0_ofTwo 9 RX0 "ofTwo" (some .long)) {G : gG} {n : Nat} {r : Int64} {Gr : gG} {H : Heap} {locs : List Loc} (hI : g_I E (g_A G0 n0) G n s.heap H locs) {x0 : Nat} {x1 : Int32} {x2 : Int32} {x3 : Int64} {x5 : Int64} (h : f_X0_ofTwo_45 G x0 x1 x2 x3 x5 = some (r, Gr)) {ls : Array Slot} (hl : lv_has ls 9 [(0, .ref x0), (1, .int x1), (2, .int x2), (3, .long x3), (5, .long x5)]) : W p l e rm_X0_ofTwo s m args below meth c H locs 0 0 (MQ below (g_Q E G0 n0 (some (.long r)) Gr n) args s rm_X0_ofTwo.cells rm_X0_ofTwo.slots (g_A G0 n0)) (F0 m 45 ls []) := by
  have hx := X.1
  have hb := X.2.1
  unfold f_X0_ofTwo_45 at h
  refine lv_iload_n hx hb dX0_ofTwo_45 rfl (lv_at hl 1 rfl) ?_
  refine lv_bipush (v := 22) hx hb dX0_ofTwo_46 (by decide) ?_
  refine lv_icmp_ne (tgt := 77) hx hb dX0_ofTwo_48 (by decide) (fun c => ?_) (fun c => ?_)
  · have h := g_f _ c h
    refine lv_iload_n hx hb dX0_ofTwo_77 rfl (lv_at hl 2 rfl) ?_
    refine g_callS X hI (av := [.int x2]) (c_X1_isReal x2) gm_X1_isReal tw_2_48 tw_2_11 ⟨by decide, by decide⟩ hl.1 (rest := []) rfl (Nat.le_of_ble_eq_true rfl) dX0_ofTwo_78 ⟨by decide, by decide⟩ (st1 := [.int (f_X1_isReal x2)]) rfl (cells' := 0) (slots' := 0) rfl rfl (fun H locs hI => ?_)
    refine lv_if_eq (tgt := 96) hx hb dX0_ofTwo_81 (by decide) (fun c => ?_) (fun c => ?_)
    · have h := g_t _ c h
      refine lv_iload_n hx hb dX0_ofTwo_96 rfl (lv_at hl 1 rfl) ?_
      refine lv_iload_n hx hb dX0_ofTwo_97 rfl (lv_at hl 2 rfl) ?_
      refine lv_lload_n hx hb dX0_ofTwo_98 rfl (lv_at hl 3 rfl) ?_
      refine lv_lload hx hb dX0_ofTwo_99 (lv_at hl 4 rfl) ?_
      obtain ⟨r1, er1, h⟩ := gb_s h
      refine g_callS X hI (av := [.int x1, .int x2, .long x3, .long x5]) (c_X0_ofWholes er1) gm_X0_ofWholes tw_2_182 tw_2_183 ⟨by decide, by decide⟩ hl.1 (rest := []) rfl (Nat.le_of_ble_eq_true rfl) dX0_ofTwo_101 ⟨by decide, by decide⟩ (st1 := [.long r1]) rfl (cells' := 0) (slots' := 0) rfl rfl (fun H locs hI => ?_)
      refine lv_iload_n hx hb dX0_ofTwo_104 rfl (lv_at hl 2 rfl) ?_
      refine g_callS X hI (av := [.long r1, .int x2]) (c_X1_lowestBits r1 x2) gm_X1_lowestBits tw_2_49 tw_1_192 ⟨by decide, by decide⟩ hl.1 (rest := []) rfl (Nat.le_of_ble_eq_true rfl) dX0_ofTwo_105 ⟨by decide, by decide⟩ (st1 := [.long (f_X1_lowestBits r1 x2)]) rfl (cells' := 0) (slots' := 0) rfl rfl (fun H locs hI => ?_)
      obtain ⟨h, h2⟩ := g_sp2 h
      subst h
      subst h2
      exact g_lret X hI dX0_ofTwo_108
    · have h := g_f _ c h
      refine lv_aload_n hx hb dX0_ofTwo_84 rfl (lv_at hl 0 rfl) ?_
      refine lv_iload_n hx hb dX0_ofTwo_85 rfl (lv_at hl 1 rfl) ?_
      refine lv_iload_n hx hb dX0_ofTwo_86 rfl (lv_at hl 2 rfl) ?_
      refine lv_lload_n hx hb dX0_ofTwo_87 rfl (lv_at hl 3 rfl) ?_
      refine lv_lload hx hb dX0_ofTwo_88 (lv_at hl 4 rfl) ?_
      obtain ⟨cO, h⟩ := gck_s h
      obtain ⟨r2, G3, er2, h⟩ := gb2_s h
      refine g_callV X hI (q := (RX0, TX0, 3)) (b := x0) (av := [.int x1, .int x2, .long x3, .long x5]) cO rfl (c_X0_ofReals er2) gm_X0_ofReals tw_2_133 tw_2_135 tw_p_11 ⟨by decide, by decide⟩ hl.1 (rest := []) rfl (Nat.le_of_ble_eq_true rfl) dX0_ofTwo_90 ⟨by decide, by decide⟩ (st1 := [.long r2]) rfl (cells' := 0) (slots' := 0) rfl rfl (fun H locs hI => ?_)
      refine lv_goto (tgt := 108) hx hb dX0_ofTwo_93 (by decide) ?_
      obtain ⟨h, h2⟩ := g_sp2 h
      subst h
      subst h2
      exact g_lret X hI dX0_ofTwo_108
  · have h := g_t _ c h
    refine lv_lload_n hx hb dX0_ofTwo_51 rfl (lv_at hl 3 rfl) ?_
    refine lv_iload_n hx hb dX0_ofTwo_52 rfl (lv_at hl 2 rfl) ?_
    refine g_callS X hI (av := [.long x3, .int x2]) (c_X0_sizeOf x3 x2) gm_X0_sizeOf tw_2_125 tw_2_126 ⟨by decide, by decide⟩ hl.1 (rest := []) rfl (Nat.le_of_ble_eq_true rfl) dX0_ofTwo_53 ⟨by decide, by decide⟩ (st1 := [.long (f_X0_sizeOf x3 x2)]) rfl (cells' := 0) (slots' := 0) rfl rfl (fun H locs hI => ?_)
    obtain ⟨v4, ev4, h⟩ := gl_s h
    refine g_topl ev4 ?_
    refine lv_lstore (lv' := [(7, .long v4), (0, .ref x0), (1, .int x1), (2, .int x2), (3, .long x3), (5, .long x5)]) hx hb dX0_ofTwo_56 hl (by decide) rfl (fun ls hl => ?_)
    refine lv_lload hx hb dX0_ofTwo_58 (lv_at hl 5 rfl) ?_
    refine lv_lconst (v := 0) hx hb dX0_ofTwo_60 (by decide) ?_
    refine W.lcmp hx hb dX0_ofTwo_61 ?_
    refine lv_if_ge (tgt := 74) hx hb dX0_ofTwo_62 (by decide) (fun c => ?_) (fun c => ?_)
    · have h := g_t _ ((lg_cmp_ge _ _).mp c) h
      refine lv_lload hx hb dX0_ofTwo_74 (lv_at hl 0 rfl) ?_
      obtain ⟨h, h2⟩ := g_sp2 h
      subst h
      subst h2
      exact g_lret X hI dX0_ofTwo_76
    · have h := g_f _ (fun q => c ((lg_cmp_ge _ _).mpr q)) h
      refine lv_lload hx hb dX0_ofTwo_65 (lv_at hl 0 rfl) ?_
      refine lv_iload_n hx hb dX0_ofTwo_67 rfl (lv_at hl 3 rfl) ?_
      refine g_callS X hI (av := [.long v4, .int x2]) (c_X0_negativeOf v4 x2) gm_X0_negativeOf tw_2_128 tw_2_129 ⟨by decide, by decide⟩ hl.1 (rest := []) rfl (Nat.le_of_ble_eq_true rfl) dX0_ofTwo_68 ⟨by decide, by decide⟩ (st1 := [.long (f_X0_negativeOf v4 x2)]) rfl (cells' := 0) (slots' := 0) rfl rfl (fun H locs hI => ?_)
      refine lv_goto (tgt := 76) hx hb dX0_ofTwo_71 (by decide) ?_
      obtain ⟨h, h2⟩ := g_sp2 h
      subst h
      subst h2
      exact g_lret X hI dX0_ofTwo_76
def f_X0_ofTwo (G : gG) (th : Nat) (a1 : Int32) (a2 : Int32) (a3 : Int64) (a5 : Int64) : Option (Int64 × gG) :=
  if (f_X0_isComparison a1) = 0 then
    if a1 < 8 then
      f_X0_ofTwo_45 G th a1 a2 a3 a5
    else
    if (11 : Int32) < a1 then
      f_X0_ofTwo_45 G th a1 a2 a3 a5
    else
    some ((f_X0_chosen a1 a2 a3 a5), G)
  else
  if (f_X0_compares a1 a2 a3 a5) = 0 then
    some (0, G)
  else
  some (1, G)
theorem gm_X0_ofTwo : g_M yX0_ofTwo cX0_ofTwo 9 (some .long) 4 := ⟨tw_2_108, tw_1_2, by decide +kernel, Or.inl (by decide +kernel)⟩
set_option maxHeartbeats 4000000 in
set_option maxRecDepth 100000 in
theorem c_X0_ofTwo {l : Launch} {E : gE} {G : gG} {n : Nat} {th : Nat} {a1 : Int32} {a2 : Int32} {a3 : Int64} {a5 : Int64} {r : Int64} {Gr : gG} (h : f_X0_ofTwo G th a1 a2 a3 a5 = some (r, Gr)) : g_Met l yX0_ofTwo cX0_ofTwo 9 (some .long) rm_X0_ofTwo E G n [.ref th, .int a1, .int a2, .long a3, .long a5] (some (.long r)) Gr n := by
  refine g_ofW gm_X0_ofTwo (Nat.le_of_ble_eq_true rfl) ?_
  intro p e s m below meth c ls X hl hI
  have hx := X.1
  have hb := X.2.1
  have X : g_X E G n p s m _ meth c cX0_ofTwo 9 RX0 "ofTwo" (some .long) := X
  have hl : lv_has ls 9 [(0, .ref th), (1, .int a1), (2, .int a2), (3, .long a3), (5, .long a5)] := hl
  unfold f_X0_ofTwo at h
  refine lv_iload_n hx hb dX0_ofTwo_0 rfl (lv_at hl 1 rfl) ?_
  refine g_callS X hI (av := [.int a1]) (c_X0_isComparison a1) gm_X0_isComparison tw_2_109 tw_2_14 ⟨by decide, by decide⟩ hl.1 (rest := []) rfl (Nat.le_of_ble_eq_true rfl) dX0_ofTwo_1 ⟨by decide, by decide⟩ (st1 := [.int (f_X0_isComparison a1)]) rfl (cells' := 0) (slots' := 0) rfl rfl (fun H locs hI => ?_)
  refine lv_if_eq (tgt := 24) hx hb dX0_ofTwo_4 (by decide) (fun c => ?_) (fun c => ?_)
  · have h := g_t _ c h
    refine lv_iload_n hx hb dX0_ofTwo_24 rfl (lv_at hl 1 rfl) ?_
    refine lv_bipush (v := 8) hx hb dX0_ofTwo_25 (by decide) ?_
    refine lv_icmp_lt (tgt := 45) hx hb dX0_ofTwo_27 (by decide) (fun c => ?_) (fun c => ?_)
    · have h := g_t _ c h
      exact b_X0_ofTwo_45 X hI h (lv_sub hl [0, 1, 2, 3, 4] rfl)
    · have h := g_f _ c h
      refine lv_iload_n hx hb dX0_ofTwo_30 rfl (lv_at hl 1 rfl) ?_
      refine lv_bipush (v := 11) hx hb dX0_ofTwo_31 (by decide) ?_
      refine lv_icmp_gt (tgt := 45) hx hb dX0_ofTwo_33 (by decide) (fun c => ?_) (fun c => ?_)
      · have h := g_t _ c h
        exact b_X0_ofTwo_45 X hI h (lv_sub hl [0, 1, 2, 3, 4] rfl)
      · have h := g_f _ c h
        refine lv_iload_n hx hb dX0_ofTwo_36 rfl (lv_at hl 1 rfl) ?_
        refine lv_iload_n hx hb dX0_ofTwo_37 rfl (lv_at hl 2 rfl) ?_
        refine lv_lload_n hx hb dX0_ofTwo_38 rfl (lv_at hl 3 rfl) ?_
        refine lv_lload hx hb dX0_ofTwo_39 (lv_at hl 4 rfl) ?_
        refine g_callS X hI (av := [.int a1, .int a2, .long a3, .long a5]) (c_X0_chosen a1 a2 a3 a5) gm_X0_chosen tw_2_121 tw_2_122 ⟨by decide, by decide⟩ hl.1 (rest := []) rfl (Nat.le_of_ble_eq_true rfl) dX0_ofTwo_41 ⟨by decide, by decide⟩ (st1 := [.long (f_X0_chosen a1 a2 a3 a5)]) rfl (cells' := 0) (slots' := 0) rfl rfl (fun H locs hI => ?_)
        obtain ⟨h, h2⟩ := g_sp2 h
        subst h
        subst h2
        exact g_lret X hI dX0_ofTwo_44
  · have h := g_f _ c h
    refine lv_iload_n hx hb dX0_ofTwo_7 rfl (lv_at hl 1 rfl) ?_
    refine lv_iload_n hx hb dX0_ofTwo_8 rfl (lv_at hl 2 rfl) ?_
    refine lv_lload_n hx hb dX0_ofTwo_9 rfl (lv_at hl 3 rfl) ?_
    refine lv_lload hx hb dX0_ofTwo_10 (lv_at hl 4 rfl) ?_
    refine g_callS X hI (av := [.int a1, .int a2, .long a3, .long a5]) (c_X0_compares a1 a2 a3 a5) gm_X0_compares tw_2_110 tw_2_111 ⟨by decide, by decide⟩ hl.1 (rest := []) rfl (Nat.le_of_ble_eq_true rfl) dX0_ofTwo_12 ⟨by decide, by decide⟩ (st1 := [.int (f_X0_compares a1 a2 a3 a5)]) rfl (cells' := 0) (slots' := 0) rfl rfl (fun H locs hI => ?_)
    refine lv_if_eq (tgt := 22) hx hb dX0_ofTwo_15 (by decide) (fun c => ?_) (fun c => ?_)
    · have h := g_t _ c h
      refine lv_lconst (v := 0) hx hb dX0_ofTwo_22 (by decide) ?_
      obtain ⟨h, h2⟩ := g_sp2 h
      subst h
      subst h2
      exact g_lret X hI dX0_ofTwo_23
    · have h := g_f _ c h
      refine lv_lconst (v := 1) hx hb dX0_ofTwo_18 (by decide) ?_
      refine lv_goto (tgt := 23) hx hb dX0_ofTwo_19 (by decide) ?_
      obtain ⟨h, h2⟩ := g_sp2 h
      subst h
      subst h2
      exact g_lret X hI dX0_ofTwo_23
abbrev rm_X0_signOf : Room := { frames := 3, cells := 0, slots := 0, locals := 64 }
def f_X0_signOf_41 (x0 : Int64) (x2 : Int32) (s0 : Int64) : Int64 :=
  if (0 : Int64) ≤ x0 then
    s0
  else
  (f_X0_negativeOf s0 x2)
set_option maxHeartbeats 4000000 in
set_option maxRecDepth 100000 in
theorem b_X0_signOf_41 {p : Program} {l : Launch} {e : Env} {s : State} {m : MethodId} {args : Array Value} {below : List Frame} {meth : Method} {c : Code} {E : gE} {G0 : gG} {n0 : Nat} (X : g_X E G0 n0 p s m args meth c cX0_signOf 5 RX0 "signOf" (some .long)) {G : gG} {n : Nat} {r : Int64} {H : Heap} {locs : List Loc} (hI : g_I E (g_A G0 n0) G n s.heap H locs) {x0 : Int64} {x2 : Int32} {s0 : Int64} (h : f_X0_signOf_41 x0 x2 s0 = r) {ls : Array Slot} (hl : lv_has ls 5 [(0, .long x0), (2, .int x2)]) : W p l e rm_X0_signOf s m args below meth c H locs 0 0 (MQ below (g_Q E G0 n0 (some (.long r)) G n) args s rm_X0_signOf.cells rm_X0_signOf.slots (g_A G0 n0)) (F0 m 41 ls [.long s0]) := by
  have hx := X.1
  have hb := X.2.1
  unfold f_X0_signOf_41 at h
  refine lv_lstore_n (lv' := [(3, .long s0), (0, .long x0), (2, .int x2)]) hx hb dX0_signOf_41 rfl hl (by decide) rfl (fun ls hl => ?_)
  refine lv_lload_n hx hb dX0_signOf_42 rfl (lv_at hl 1 rfl) ?_
  refine lv_lconst (v := 0) hx hb dX0_signOf_43 (by decide) ?_
  refine W.lcmp hx hb dX0_signOf_44 ?_
  refine lv_if_ge (tgt := 56) hx hb dX0_signOf_45 (by decide) (fun c => ?_) (fun c => ?_)
  · have h := g_t _ ((lg_cmp_ge _ _).mp c) h
    refine lv_lload_n hx hb dX0_signOf_56 rfl (lv_at hl 0 rfl) ?_
    subst h
    exact g_lret X hI dX0_signOf_57
  · have h := g_f _ (fun q => c ((lg_cmp_ge _ _).mpr q)) h
    refine lv_lload_n hx hb dX0_signOf_48 rfl (lv_at hl 0 rfl) ?_
    refine lv_iload_n hx hb dX0_signOf_49 rfl (lv_at hl 2 rfl) ?_
    refine g_callS X hI (av := [.long s0, .int x2]) (c_X0_negativeOf s0 x2) gm_X0_negativeOf tw_2_128 tw_2_129 ⟨by decide, by decide⟩ hl.1 (rest := []) rfl (Nat.le_of_ble_eq_true rfl) dX0_signOf_50 ⟨by decide, by decide⟩ (st1 := [.long (f_X0_negativeOf s0 x2)]) rfl (cells' := 0) (slots' := 0) rfl rfl (fun H locs hI => ?_)
    refine lv_goto (tgt := 57) hx hb dX0_signOf_53 (by decide) ?_
    subst h
    exact g_lret X hI dX0_signOf_57
def f_X0_signOf (a0 : Int64) (a2 : Int32) : Int64 :=
  if (f_X1_isNoNumber a0 a2) = 0 then
    if (f_X1_isZero a0 a2) = 0 then
      if a2 = 4 then
        f_X0_signOf_41 a0 a2 1065353216
      else
      if a2 = 5 then
        f_X0_signOf_41 a0 a2 4607182418800017408
      else
      f_X0_signOf_41 a0 a2 1
    else
    a0
  else
  a0
theorem gm_X0_signOf : g_M yX0_signOf cX0_signOf 5 (some .long) 2 := ⟨tw_2_230, tw_1_2, by decide +kernel, Or.inl (by decide +kernel)⟩
set_option maxHeartbeats 4000000 in
set_option maxRecDepth 100000 in
theorem c_X0_signOf {l : Launch} {E : gE} {G : gG} {n : Nat} (a0 : Int64) (a2 : Int32) : g_Met l yX0_signOf cX0_signOf 5 (some .long) rm_X0_signOf E G n [.long a0, .int a2] (some (.long (f_X0_signOf a0 a2))) G n := by
  generalize h : f_X0_signOf a0 a2 = r
  refine g_ofW gm_X0_signOf (Nat.le_of_ble_eq_true rfl) ?_
  intro p e s m below meth c ls X hl hI
  have hx := X.1
  have hb := X.2.1
  have X : g_X E G n p s m _ meth c cX0_signOf 5 RX0 "signOf" (some .long) := X
  have hl : lv_has ls 5 [(0, .long a0), (2, .int a2)] := hl
  unfold f_X0_signOf at h
  refine lv_lload_n hx hb dX0_signOf_0 rfl (lv_at hl 0 rfl) ?_
  refine lv_iload_n hx hb dX0_signOf_1 rfl (lv_at hl 1 rfl) ?_
  refine g_callS X hI (av := [.long a0, .int a2]) (c_X1_isNoNumber a0 a2) gm_X1_isNoNumber tw_2_113 tw_2_114 ⟨by decide, by decide⟩ hl.1 (rest := []) rfl (Nat.le_of_ble_eq_true rfl) dX0_signOf_2 ⟨by decide, by decide⟩ (st1 := [.int (f_X1_isNoNumber a0 a2)]) rfl (cells' := 0) (slots' := 0) rfl rfl (fun H locs hI => ?_)
  refine lv_if_ne (tgt := 16) hx hb dX0_signOf_5 (by decide) (fun c => ?_) (fun c => ?_)
  · have h := g_f _ c h
    refine lv_lload_n hx hb dX0_signOf_16 rfl (lv_at hl 0 rfl) ?_
    subst h
    exact g_lret X hI dX0_signOf_17
  · have h := g_t _ c h
    refine lv_lload_n hx hb dX0_signOf_8 rfl (lv_at hl 0 rfl) ?_
    refine lv_iload_n hx hb dX0_signOf_9 rfl (lv_at hl 1 rfl) ?_
    refine g_callS X hI (av := [.long a0, .int a2]) (c_X1_isZero a0 a2) gm_X1_isZero tw_2_43 tw_2_44 ⟨by decide, by decide⟩ hl.1 (rest := []) rfl (Nat.le_of_ble_eq_true rfl) dX0_signOf_10 ⟨by decide, by decide⟩ (st1 := [.int (f_X1_isZero a0 a2)]) rfl (cells' := 0) (slots' := 0) rfl rfl (fun H locs hI => ?_)
    refine lv_if_eq (tgt := 18) hx hb dX0_signOf_13 (by decide) (fun c => ?_) (fun c => ?_)
    · have h := g_t _ c h
      refine lv_iload_n hx hb dX0_signOf_18 rfl (lv_at hl 1 rfl) ?_
      refine lv_iconst (v := 4) hx hb dX0_signOf_19 (by decide) ?_
      refine lv_icmp_ne (tgt := 29) hx hb dX0_signOf_20 (by decide) (fun c => ?_) (fun c => ?_)
      · have h := g_f _ c h
        refine lv_iload_n hx hb dX0_signOf_29 rfl (lv_at hl 1 rfl) ?_
        refine lv_iconst (v := 5) hx hb dX0_signOf_30 (by decide) ?_
        refine lv_icmp_ne (tgt := 40) hx hb dX0_signOf_31 (by decide) (fun c => ?_) (fun c => ?_)
        · have h := g_f _ c h
          refine lv_lconst (v := 1) hx hb dX0_signOf_40 (by decide) ?_
          exact b_X0_signOf_41 X hI h (lv_sub hl [0, 1] rfl)
        · have h := g_t _ c h
          refine lv_ldc2 (v := 4607182418800017408) hx hb X.2.2.2.1 (X.2.2.2.2.1 _ tw_2_232) dX0_signOf_34 ?_
          refine lv_goto (tgt := 41) hx hb dX0_signOf_37 (by decide) ?_
          exact b_X0_signOf_41 X hI h (lv_sub hl [0, 1] rfl)
      · have h := g_t _ c h
        refine lv_ldc2 (v := 1065353216) hx hb X.2.2.2.1 (X.2.2.2.2.1 _ tw_2_231) dX0_signOf_23 ?_
        refine lv_goto (tgt := 41) hx hb dX0_signOf_26 (by decide) ?_
        exact b_X0_signOf_41 X hI h (lv_sub hl [0, 1] rfl)
    · have h := g_f _ c h
      refine lv_lload_n hx hb dX0_signOf_16 rfl (lv_at hl 0 rfl) ?_
      subst h
      exact g_lret X hI dX0_signOf_17
abbrev rm_X0_roundedTo : Room := { frames := 3, cells := 0, slots := 0, locals := 78 }
def f_X0_roundedTo (G : gG) (th : Nat) (a1 : Int32) (a2 : Int32) (a3 : Int64) : Option (Int64 × gG) :=
  if (f_X1_isReal a2) = 0 then
    some (a3, G)
  else
  gb (g_fA G th 0 2) fun g1 =>
  gck (g_isO G g1 1) <|
  gb (f_X2_setValue G g1 a3 a2) fun G2 =>
  gb (g_fA G2 th 0 2) fun g3 =>
  gck (g_isO G2 g3 1) <|
  gb (f_X2_roundToWhole G2 g3 a1) fun G4 =>
  gb (g_fA G4 th 0 2) fun g5 =>
  gck (g_isO G4 g5 1) <|
  gb (f_X2_toValue G4 g5 a2) fun r6 =>
  some (r6, G4)
theorem gm_X0_roundedTo : g_M yX0_roundedTo cX0_roundedTo 5 (some .long) 3 := ⟨tw_2_237, tw_1_2, by decide +kernel, Or.inl (by decide +kernel)⟩
set_option maxHeartbeats 4000000 in
set_option maxRecDepth 100000 in
theorem c_X0_roundedTo {l : Launch} {E : gE} {G : gG} {n : Nat} {th : Nat} {a1 : Int32} {a2 : Int32} {a3 : Int64} {r : Int64} {Gr : gG} (h : f_X0_roundedTo G th a1 a2 a3 = some (r, Gr)) : g_Met l yX0_roundedTo cX0_roundedTo 5 (some .long) rm_X0_roundedTo E G n [.ref th, .int a1, .int a2, .long a3] (some (.long r)) Gr n := by
  refine g_ofW gm_X0_roundedTo (Nat.le_of_ble_eq_true rfl) ?_
  intro p e s m below meth c ls X hl hI
  have hx := X.1
  have hb := X.2.1
  have X : g_X E G n p s m _ meth c cX0_roundedTo 5 RX0 "roundedTo" (some .long) := X
  have hl : lv_has ls 5 [(0, .ref th), (1, .int a1), (2, .int a2), (3, .long a3)] := hl
  unfold f_X0_roundedTo at h
  refine lv_iload_n hx hb dX0_roundedTo_0 rfl (lv_at hl 2 rfl) ?_
  refine g_callS X hI (av := [.int a2]) (c_X1_isReal a2) gm_X1_isReal tw_2_48 tw_2_11 ⟨by decide, by decide⟩ hl.1 (rest := []) rfl (Nat.le_of_ble_eq_true rfl) dX0_roundedTo_1 ⟨by decide, by decide⟩ (st1 := [.int (f_X1_isReal a2)]) rfl (cells' := 0) (slots' := 0) rfl rfl (fun H locs hI => ?_)
  refine lv_if_ne (tgt := 9) hx hb dX0_roundedTo_4 (by decide) (fun c => ?_) (fun c => ?_)
  · have h := g_f _ c h
    refine lv_aload_n hx hb dX0_roundedTo_9 rfl (lv_at hl 0 rfl) ?_
    obtain ⟨g1, eg1, h⟩ := gb_s h
    refine g_get X hI (g_fA_s eg1) (C := RX0) (T := TX0) (N := 3) rfl gu_X0 (by decide) tw_1_49 dX0_roundedTo_10 ?_
    refine lv_lload_n hx hb dX0_roundedTo_13 rfl (lv_at hl 3 rfl) ?_
    refine lv_iload_n hx hb dX0_roundedTo_14 rfl (lv_at hl 2 rfl) ?_
    obtain ⟨cO, h⟩ := gck_s h
    obtain ⟨G2, eG2, h⟩ := gb_s h
    refine g_callV X hI (q := (RX2, TX2, 4)) (b := g1) (av := [.long a3, .int a2]) cO rfl (c_X2_setValue eG2) gm_X2_setValue tw_2_50 tw_2_51 tw_2_52 ⟨by decide, by decide⟩ hl.1 (rest := []) rfl (Nat.le_of_ble_eq_true rfl) dX0_roundedTo_15 ⟨by decide, by decide⟩ (st1 := []) rfl (cells' := 0) (slots' := 0) rfl rfl (fun H locs hI => ?_)
    refine lv_aload_n hx hb dX0_roundedTo_18 rfl (lv_at hl 0 rfl) ?_
    obtain ⟨g3, eg3, h⟩ := gb_s h
    refine g_get X hI (g_fA_s eg3) (C := RX0) (T := TX0) (N := 3) rfl gu_X0 (by decide) tw_1_49 dX0_roundedTo_19 ?_
    refine lv_iload_n hx hb dX0_roundedTo_22 rfl (lv_at hl 1 rfl) ?_
    obtain ⟨cO, h⟩ := gck_s h
    obtain ⟨G4, eG4, h⟩ := gb_s h
    refine g_callV X hI (q := (RX2, TX2, 4)) (b := g3) (av := [.int a1]) cO rfl (c_X2_roundToWhole eG4) gm_X2_roundToWhole tw_2_168 tw_2_169 tw_2_170 ⟨by decide, by decide⟩ hl.1 (rest := []) rfl (Nat.le_of_ble_eq_true rfl) dX0_roundedTo_23 ⟨by decide, by decide⟩ (st1 := []) rfl (cells' := 0) (slots' := 0) rfl rfl (fun H locs hI => ?_)
    refine lv_aload_n hx hb dX0_roundedTo_26 rfl (lv_at hl 0 rfl) ?_
    obtain ⟨g5, eg5, h⟩ := gb_s h
    refine g_get X hI (g_fA_s eg5) (C := RX0) (T := TX0) (N := 3) rfl gu_X0 (by decide) tw_1_49 dX0_roundedTo_27 ?_
    refine lv_iload_n hx hb dX0_roundedTo_30 rfl (lv_at hl 2 rfl) ?_
    obtain ⟨cO, h⟩ := gck_s h
    obtain ⟨r6, er6, h⟩ := gb_s h
    refine g_callV X hI (q := (RX2, TX2, 4)) (b := g5) (av := [.int a2]) cO rfl (c_X2_toValue er6) gm_X2_toValue tw_2_71 tw_2_72 tw_2_73 ⟨by decide, by decide⟩ hl.1 (rest := []) rfl (Nat.le_of_ble_eq_true rfl) dX0_roundedTo_31 ⟨by decide, by decide⟩ (st1 := [.long r6]) rfl (cells' := 0) (slots' := 0) rfl rfl (fun H locs hI => ?_)
    obtain ⟨h, h2⟩ := g_sp2 h
    subst h
    subst h2
    exact g_lret X hI dX0_roundedTo_34
  · have h := g_t _ c h
    refine lv_lload_n hx hb dX0_roundedTo_7 rfl (lv_at hl 3 rfl) ?_
    obtain ⟨h, h2⟩ := g_sp2 h
    subst h
    subst h2
    exact g_lret X hI dX0_roundedTo_8
abbrev rm_X0_ofOne : Room := { frames := 4, cells := 0, slots := 0, locals := 102 }
def f_X0_ofOne_94 (G : gG) (x0 : Nat) (x1 : Int32) (x2 : Int32) (x3 : Int64) : Option (Int64 × gG) :=
  gck (g_isO G x0 0) <|
  gb2 (f_X0_roundedTo G x0 x1 x2 x3) fun r1 G2 =>
  some (r1, G2)
set_option maxHeartbeats 4000000 in
set_option maxRecDepth 100000 in
theorem b_X0_ofOne_94 {p : Program} {l : Launch} {e : Env} {s : State} {m : MethodId} {args : Array Value} {below : List Frame} {meth : Method} {c : Code} {E : gE} {G0 : gG} {n0 : Nat} (X : g_X E G0 n0 p s m args meth c cX0_ofOne 5 RX0 "ofOne" (some .long)) {G : gG} {n : Nat} {r : Int64} {Gr : gG} {H : Heap} {locs : List Loc} (hI : g_I E (g_A G0 n0) G n s.heap H locs) {x0 : Nat} {x1 : Int32} {x2 : Int32} {x3 : Int64} (h : f_X0_ofOne_94 G x0 x1 x2 x3 = some (r, Gr)) {ls : Array Slot} (hl : lv_has ls 5 [(0, .ref x0), (1, .int x1), (2, .int x2), (3, .long x3)]) : W p l e rm_X0_ofOne s m args below meth c H locs 0 0 (MQ below (g_Q E G0 n0 (some (.long r)) Gr n) args s rm_X0_ofOne.cells rm_X0_ofOne.slots (g_A G0 n0)) (F0 m 94 ls []) := by
  have hx := X.1
  have hb := X.2.1
  unfold f_X0_ofOne_94 at h
  refine lv_aload_n hx hb dX0_ofOne_94 rfl (lv_at hl 0 rfl) ?_
  refine lv_iload_n hx hb dX0_ofOne_95 rfl (lv_at hl 1 rfl) ?_
  refine lv_iload_n hx hb dX0_ofOne_96 rfl (lv_at hl 2 rfl) ?_
  refine lv_lload_n hx hb dX0_ofOne_97 rfl (lv_at hl 3 rfl) ?_
  obtain ⟨cO, h⟩ := gck_s h
  obtain ⟨r1, G2, er1, h⟩ := gb2_s h
  refine g_callV X hI (q := (RX0, TX0, 3)) (b := x0) (av := [.int x1, .int x2, .long x3]) cO rfl (c_X0_roundedTo er1) gm_X0_roundedTo tw_2_234 tw_2_236 tw_p_17 ⟨by decide, by decide⟩ hl.1 (rest := []) rfl (Nat.le_of_ble_eq_true rfl) dX0_ofOne_98 ⟨by decide, by decide⟩ (st1 := [.long r1]) rfl (cells' := 0) (slots' := 0) rfl rfl (fun H locs hI => ?_)
  obtain ⟨h, h2⟩ := g_sp2 h
  subst h
  subst h2
  exact g_lret X hI dX0_ofOne_101
def f_X0_ofOne (G : gG) (th : Nat) (a1 : Int32) (a2 : Int32) (a3 : Int64) : Option (Int64 × gG) :=
  if a1 = 0 then
    some ((f_X0_negativeOf a3 a2), G)
  else
  if a1 = 1 then
    some ((f_X0_sizeOf a3 a2), G)
  else
  if a1 = 2 then
    some ((f_X0_signOf a3 a2), G)
  else
  if a1 = 3 then
    f_X0_ofOne_94 G th a1 a2 a3
  else
  if a1 = 4 then
    f_X0_ofOne_94 G th a1 a2 a3
  else
  if a1 = 5 then
    f_X0_ofOne_94 G th a1 a2 a3
  else
  if a1 = 6 then
    f_X0_ofOne_94 G th a1 a2 a3
  else
  if a1 = 7 then
    some ((f_X1_lowestBits (a3 ^^^ (-1)) a2), G)
  else
  if a1 = 8 then
    if (f_X1_isNoNumber a3 a2) = 0 then
      some (0, G)
    else
    some (1, G)
  else
  f_X0_ofOne_94 G th a1 a2 a3
theorem gm_X0_ofOne : g_M yX0_ofOne cX0_ofOne 5 (some .long) 3 := ⟨tw_2_227, tw_1_2, by decide +kernel, Or.inl (by decide +kernel)⟩
set_option maxHeartbeats 4000000 in
set_option maxRecDepth 100000 in
theorem c_X0_ofOne {l : Launch} {E : gE} {G : gG} {n : Nat} {th : Nat} {a1 : Int32} {a2 : Int32} {a3 : Int64} {r : Int64} {Gr : gG} (h : f_X0_ofOne G th a1 a2 a3 = some (r, Gr)) : g_Met l yX0_ofOne cX0_ofOne 5 (some .long) rm_X0_ofOne E G n [.ref th, .int a1, .int a2, .long a3] (some (.long r)) Gr n := by
  refine g_ofW gm_X0_ofOne (Nat.le_of_ble_eq_true rfl) ?_
  intro p e s m below meth c ls X hl hI
  have hx := X.1
  have hb := X.2.1
  have X : g_X E G n p s m _ meth c cX0_ofOne 5 RX0 "ofOne" (some .long) := X
  have hl : lv_has ls 5 [(0, .ref th), (1, .int a1), (2, .int a2), (3, .long a3)] := hl
  unfold f_X0_ofOne at h
  refine lv_iload_n hx hb dX0_ofOne_0 rfl (lv_at hl 1 rfl) ?_
  by_cases c0 : a1 = 0
  · have h := g_t _ c0 h
    refine lv_tableIn (off := 51) (tgt := 52) hx hb dX0_ofOne_1 (by rw [c0]; decide) (by rw [c0]; decide) (by rw [c0]; rfl) (by decide) ?_
    refine lv_lload_n hx hb dX0_ofOne_52 rfl (lv_at hl 3 rfl) ?_
    refine lv_iload_n hx hb dX0_ofOne_53 rfl (lv_at hl 2 rfl) ?_
    refine g_callS X hI (av := [.long a3, .int a2]) (c_X0_negativeOf a3 a2) gm_X0_negativeOf tw_2_128 tw_2_129 ⟨by decide, by decide⟩ hl.1 (rest := []) rfl (Nat.le_of_ble_eq_true rfl) dX0_ofOne_54 ⟨by decide, by decide⟩ (st1 := [.long (f_X0_negativeOf a3 a2)]) rfl (cells' := 0) (slots' := 0) rfl rfl (fun H locs hI => ?_)
    obtain ⟨h, h2⟩ := g_sp2 h
    subst h
    subst h2
    exact g_lret X hI dX0_ofOne_57
  · have h := g_f _ c0 h
    by_cases c1 : a1 = 1
    · have h := g_t _ c1 h
      refine lv_tableIn (off := 57) (tgt := 58) hx hb dX0_ofOne_1 (by rw [c1]; decide) (by rw [c1]; decide) (by rw [c1]; rfl) (by decide) ?_
      refine lv_lload_n hx hb dX0_ofOne_58 rfl (lv_at hl 3 rfl) ?_
      refine lv_iload_n hx hb dX0_ofOne_59 rfl (lv_at hl 2 rfl) ?_
      refine g_callS X hI (av := [.long a3, .int a2]) (c_X0_sizeOf a3 a2) gm_X0_sizeOf tw_2_125 tw_2_126 ⟨by decide, by decide⟩ hl.1 (rest := []) rfl (Nat.le_of_ble_eq_true rfl) dX0_ofOne_60 ⟨by decide, by decide⟩ (st1 := [.long (f_X0_sizeOf a3 a2)]) rfl (cells' := 0) (slots' := 0) rfl rfl (fun H locs hI => ?_)
      obtain ⟨h, h2⟩ := g_sp2 h
      subst h
      subst h2
      exact g_lret X hI dX0_ofOne_63
    · have h := g_f _ c1 h
      by_cases c2 : a1 = 2
      · have h := g_t _ c2 h
        refine lv_tableIn (off := 63) (tgt := 64) hx hb dX0_ofOne_1 (by rw [c2]; decide) (by rw [c2]; decide) (by rw [c2]; rfl) (by decide) ?_
        refine lv_lload_n hx hb dX0_ofOne_64 rfl (lv_at hl 3 rfl) ?_
        refine lv_iload_n hx hb dX0_ofOne_65 rfl (lv_at hl 2 rfl) ?_
        refine g_callS X hI (av := [.long a3, .int a2]) (c_X0_signOf a3 a2) gm_X0_signOf tw_2_228 tw_2_229 ⟨by decide, by decide⟩ hl.1 (rest := []) rfl (Nat.le_of_ble_eq_true rfl) dX0_ofOne_66 ⟨by decide, by decide⟩ (st1 := [.long (f_X0_signOf a3 a2)]) rfl (cells' := 0) (slots' := 0) rfl rfl (fun H locs hI => ?_)
        obtain ⟨h, h2⟩ := g_sp2 h
        subst h
        subst h2
        exact g_lret X hI dX0_ofOne_69
      · have h := g_f _ c2 h
        by_cases c3 : a1 = 3
        · have h := g_t _ c3 h
          refine lv_tableIn (off := 93) (tgt := 94) hx hb dX0_ofOne_1 (by rw [c3]; decide) (by rw [c3]; decide) (by rw [c3]; rfl) (by decide) ?_
          exact b_X0_ofOne_94 X hI h (lv_sub hl [0, 1, 2, 3] rfl)
        · have h := g_f _ c3 h
          by_cases c4 : a1 = 4
          · have h := g_t _ c4 h
            refine lv_tableIn (off := 93) (tgt := 94) hx hb dX0_ofOne_1 (by rw [c4]; decide) (by rw [c4]; decide) (by rw [c4]; rfl) (by decide) ?_
            exact b_X0_ofOne_94 X hI h (lv_sub hl [0, 1, 2, 3] rfl)
          · have h := g_f _ c4 h
            by_cases c5 : a1 = 5
            · have h := g_t _ c5 h
              refine lv_tableIn (off := 93) (tgt := 94) hx hb dX0_ofOne_1 (by rw [c5]; decide) (by rw [c5]; decide) (by rw [c5]; rfl) (by decide) ?_
              exact b_X0_ofOne_94 X hI h (lv_sub hl [0, 1, 2, 3] rfl)
            · have h := g_f _ c5 h
              by_cases c6 : a1 = 6
              · have h := g_t _ c6 h
                refine lv_tableIn (off := 93) (tgt := 94) hx hb dX0_ofOne_1 (by rw [c6]; decide) (by rw [c6]; decide) (by rw [c6]; rfl) (by decide) ?_
                exact b_X0_ofOne_94 X hI h (lv_sub hl [0, 1, 2, 3] rfl)
              · have h := g_f _ c6 h
                by_cases c7 : a1 = 7
                · have h := g_t _ c7 h
                  refine lv_tableIn (off := 69) (tgt := 70) hx hb dX0_ofOne_1 (by rw [c7]; decide) (by rw [c7]; decide) (by rw [c7]; rfl) (by decide) ?_
                  refine lv_lload_n hx hb dX0_ofOne_70 rfl (lv_at hl 3 rfl) ?_
                  refine lv_ldc2 (v := (-1)) hx hb X.2.2.2.1 (X.2.2.2.2.1 _ tw_2_233) dX0_ofOne_71 ?_
                  refine lv_lxor (x := a3) (y := (-1)) hx hb dX0_ofOne_74 ?_
                  refine lv_iload_n hx hb dX0_ofOne_75 rfl (lv_at hl 2 rfl) ?_
                  refine g_callS X hI (av := [.long (a3 ^^^ (-1)), .int a2]) (c_X1_lowestBits (a3 ^^^ (-1)) a2) gm_X1_lowestBits tw_2_49 tw_1_192 ⟨by decide, by decide⟩ hl.1 (rest := []) rfl (Nat.le_of_ble_eq_true rfl) dX0_ofOne_76 ⟨by decide, by decide⟩ (st1 := [.long (f_X1_lowestBits (a3 ^^^ (-1)) a2)]) rfl (cells' := 0) (slots' := 0) rfl rfl (fun H locs hI => ?_)
                  obtain ⟨h, h2⟩ := g_sp2 h
                  subst h
                  subst h2
                  exact g_lret X hI dX0_ofOne_79
                · have h := g_f _ c7 h
                  by_cases c8 : a1 = 8
                  · have h := g_t _ c8 h
                    refine lv_tableIn (off := 79) (tgt := 80) hx hb dX0_ofOne_1 (by rw [c8]; decide) (by rw [c8]; decide) (by rw [c8]; rfl) (by decide) ?_
                    refine lv_lload_n hx hb dX0_ofOne_80 rfl (lv_at hl 3 rfl) ?_
                    refine lv_iload_n hx hb dX0_ofOne_81 rfl (lv_at hl 2 rfl) ?_
                    refine g_callS X hI (av := [.long a3, .int a2]) (c_X1_isNoNumber a3 a2) gm_X1_isNoNumber tw_2_113 tw_2_114 ⟨by decide, by decide⟩ hl.1 (rest := []) rfl (Nat.le_of_ble_eq_true rfl) dX0_ofOne_82 ⟨by decide, by decide⟩ (st1 := [.int (f_X1_isNoNumber a3 a2)]) rfl (cells' := 0) (slots' := 0) rfl rfl (fun H locs hI => ?_)
                    refine lv_if_eq (tgt := 92) hx hb dX0_ofOne_85 (by decide) (fun c => ?_) (fun c => ?_)
                    · have h := g_t _ c h
                      refine lv_lconst (v := 0) hx hb dX0_ofOne_92 (by decide) ?_
                      obtain ⟨h, h2⟩ := g_sp2 h
                      subst h
                      subst h2
                      exact g_lret X hI dX0_ofOne_93
                    · have h := g_f _ c h
                      refine lv_lconst (v := 1) hx hb dX0_ofOne_88 (by decide) ?_
                      refine lv_goto (tgt := 93) hx hb dX0_ofOne_89 (by decide) ?_
                      obtain ⟨h, h2⟩ := g_sp2 h
                      subst h
                      subst h2
                      exact g_lret X hI dX0_ofOne_93
                  · have h := g_f _ c8 h
                    refine lv_tableOut (tgt := 94) hx hb dX0_ofOne_1 (by have q0 := lv_neT (a := 0) c0 (by decide); have q1 := lv_neT (a := 1) c1 (by decide); have q2 := lv_neT (a := 2) c2 (by decide); have q3 := lv_neT (a := 3) c3 (by decide); have q4 := lv_neT (a := 4) c4 (by decide); have q5 := lv_neT (a := 5) c5 (by decide); have q6 := lv_neT (a := 6) c6 (by decide); have q7 := lv_neT (a := 7) c7 (by decide); have q8 := lv_neT (a := 8) c8 (by decide); omega) (by decide) ?_
                    exact b_X0_ofOne_94 X hI h (lv_sub hl [0, 1, 2, 3] rfl)
