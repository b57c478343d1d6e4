abbrev rm_X0_isAct : Room := { frames := 0, cells := 0, slots := 0, locals := 0 }
def f_X0_isAct (a0 : Int32) : Int32 :=
  if a0 < 0 then
    0
  else
  if (22 : Int32) < a0 then
    0
  else
  1
theorem gm_X0_isAct : g_M yX0_isAct cX0_isAct 1 (some .boolean) 1 := ⟨tw_1_237, tw_1_2, by decide +kernel, Or.inl (by decide +kernel)⟩
set_option maxHeartbeats 4000000 in
set_option maxRecDepth 100000 in
theorem c_X0_isAct {l : Launch} {E : gE} {G : gG} {n : Nat} (a0 : Int32) : g_Met l yX0_isAct cX0_isAct 1 (some .boolean) rm_X0_isAct E G n [.int a0] (some (.int (f_X0_isAct a0))) G n := by
  generalize h : f_X0_isAct a0 = r
  refine g_ofW gm_X0_isAct (Nat.le_of_ble_eq_true rfl) ?_
  intro p e s m below meth c ls X hl hI
  have hx := X.1
  have hb := X.2.1
  have X : g_X E G n p s m _ meth c cX0_isAct 1 RX0 "isAct" (some .boolean) := X
  have hl : lv_has ls 1 [(0, .int a0)] := hl
  unfold f_X0_isAct at h
  refine lv_iload_n hx hb dX0_isAct_0 rfl (lv_at hl 0 rfl) ?_
  refine lv_if_lt (tgt := 14) hx hb dX0_isAct_1 (by decide) (fun c => ?_) (fun c => ?_)
  · have h := g_t _ c h
    refine lv_iconst (v := 0) hx hb dX0_isAct_14 (by decide) ?_
    subst h
    exact g_zret X hI (Or.inl rfl) dX0_isAct_15
  · have h := g_f _ c h
    refine lv_iload_n hx hb dX0_isAct_4 rfl (lv_at hl 0 rfl) ?_
    refine lv_bipush (v := 22) hx hb dX0_isAct_5 (by decide) ?_
    refine lv_icmp_gt (tgt := 14) hx hb dX0_isAct_7 (by decide) (fun c => ?_) (fun c => ?_)
    · have h := g_t _ c h
      refine lv_iconst (v := 0) hx hb dX0_isAct_14 (by decide) ?_
      subst h
      exact g_zret X hI (Or.inl rfl) dX0_isAct_15
    · have h := g_f _ c h
      refine lv_iconst (v := 1) hx hb dX0_isAct_10 (by decide) ?_
      refine lv_goto (tgt := 15) hx hb dX0_isAct_11 (by decide) ?_
      subst h
      exact g_zret X hI (Or.inr rfl) dX0_isAct_15
abbrev rm_X0_isOfOne : Room := { frames := 0, cells := 0, slots := 0, locals := 0 }
def f_X0_isOfOne (a0 : Int32) : Int32 :=
  if a0 < 0 then
    0
  else
  if (8 : Int32) < a0 then
    0
  else
  1
theorem gm_X0_isOfOne : g_M yX0_isOfOne cX0_isOfOne 1 (some .boolean) 1 := ⟨tw_2_220, tw_1_2, by decide +kernel, Or.inl (by decide +kernel)⟩
set_option maxHeartbeats 4000000 in
set_option maxRecDepth 100000 in
theorem c_X0_isOfOne {l : Launch} {E : gE} {G : gG} {n : Nat} (a0 : Int32) : g_Met l yX0_isOfOne cX0_isOfOne 1 (some .boolean) rm_X0_isOfOne E G n [.int a0] (some (.int (f_X0_isOfOne a0))) G n := by
  generalize h : f_X0_isOfOne a0 = r
  refine g_ofW gm_X0_isOfOne (Nat.le_of_ble_eq_true rfl) ?_
  intro p e s m below meth c ls X hl hI
  have hx := X.1
  have hb := X.2.1
  have X : g_X E G n p s m _ meth c cX0_isOfOne 1 RX0 "isOfOne" (some .boolean) := X
  have hl : lv_has ls 1 [(0, .int a0)] := hl
  unfold f_X0_isOfOne at h
  refine lv_iload_n hx hb dX0_isOfOne_0 rfl (lv_at hl 0 rfl) ?_
  refine lv_if_lt (tgt := 14) hx hb dX0_isOfOne_1 (by decide) (fun c => ?_) (fun c => ?_)
  · have h := g_t _ c h
    refine lv_iconst (v := 0) hx hb dX0_isOfOne_14 (by decide) ?_
    subst h
    exact g_zret X hI (Or.inl rfl) dX0_isOfOne_15
  · have h := g_f _ c h
    refine lv_iload_n hx hb dX0_isOfOne_4 rfl (lv_at hl 0 rfl) ?_
    refine lv_bipush (v := 8) hx hb dX0_isOfOne_5 (by decide) ?_
    refine lv_icmp_gt (tgt := 14) hx hb dX0_isOfOne_7 (by decide) (fun c => ?_) (fun c => ?_)
    · have h := g_t _ c h
      refine lv_iconst (v := 0) hx hb dX0_isOfOne_14 (by decide) ?_
      subst h
      exact g_zret X hI (Or.inl rfl) dX0_isOfOne_15
    · have h := g_f _ c h
      refine lv_iconst (v := 1) hx hb dX0_isOfOne_10 (by decide) ?_
      refine lv_goto (tgt := 15) hx hb dX0_isOfOne_11 (by decide) ?_
      subst h
      exact g_zret X hI (Or.inr rfl) dX0_isOfOne_15
abbrev rm_X0_isComparison : Room := { frames := 0, cells := 0, slots := 0, locals := 0 }
def f_X0_isComparison (a0 : Int32) : Int32 :=
  if a0 < 18 then
    0
  else
  if (21 : Int32) < a0 then
    0
  else
  1
theorem gm_X0_isComparison : g_M yX0_isComparison cX0_isComparison 1 (some .boolean) 1 := ⟨tw_2_15, tw_1_2, by decide +kernel, Or.inl (by decide +kernel)⟩
set_option maxHeartbeats 4000000 in
set_option maxRecDepth 100000 in
theorem c_X0_isComparison {l : Launch} {E : gE} {G : gG} {n : Nat} (a0 : Int32) : g_Met l yX0_isComparison cX0_isComparison 1 (some .boolean) rm_X0_isComparison E G n [.int a0] (some (.int (f_X0_isComparison a0))) G n := by
  generalize h : f_X0_isComparison a0 = r
  refine g_ofW gm_X0_isComparison (Nat.le_of_ble_eq_true rfl) ?_
  intro p e s m below meth c ls X hl hI
  have hx := X.1
  have hb := X.2.1
  have X : g_X E G n p s m _ meth c cX0_isComparison 1 RX0 "isComparison" (some .boolean) := X
  have hl : lv_has ls 1 [(0, .int a0)] := hl
  unfold f_X0_isComparison at h
  refine lv_iload_n hx hb dX0_isComparison_0 rfl (lv_at hl 0 rfl) ?_
  refine lv_bipush (v := 18) hx hb dX0_isComparison_1 (by decide) ?_
  refine lv_icmp_lt (tgt := 16) hx hb dX0_isComparison_3 (by decide) (fun c => ?_) (fun c => ?_)
  · have h := g_t _ c h
    refine lv_iconst (v := 0) hx hb dX0_isComparison_16 (by decide) ?_
    subst h
    exact g_zret X hI (Or.inl rfl) dX0_isComparison_17
  · have h := g_f _ c h
    refine lv_iload_n hx hb dX0_isComparison_6 rfl (lv_at hl 0 rfl) ?_
    refine lv_bipush (v := 21) hx hb dX0_isComparison_7 (by decide) ?_
    refine lv_icmp_gt (tgt := 16) hx hb dX0_isComparison_9 (by decide) (fun c => ?_) (fun c => ?_)
    · have h := g_t _ c h
      refine lv_iconst (v := 0) hx hb dX0_isComparison_16 (by decide) ?_
      subst h
      exact g_zret X hI (Or.inl rfl) dX0_isComparison_17
    · have h := g_f _ c h
      refine lv_iconst (v := 1) hx hb dX0_isComparison_12 (by decide) ?_
      refine lv_goto (tgt := 17) hx hb dX0_isComparison_13 (by decide) ?_
      subst h
      exact g_zret X hI (Or.inr rfl) dX0_isComparison_17
abbrev rm_X1_isReal : Room := { frames := 0, cells := 0, slots := 0, locals := 0 }
def f_X1_isReal (a0 : Int32) : Int32 :=
  if a0 = 4 then
    1
  else
  if a0 = 5 then
    1
  else
  0
theorem gm_X1_isReal : g_M yX1_isReal cX1_isReal 1 (some .boolean) 1 := ⟨tw_2_12, tw_1_6, by decide +kernel, Or.inl (by decide +kernel)⟩
set_option maxHeartbeats 4000000 in
set_option maxRecDepth 100000 in
theorem c_X1_isReal {l : Launch} {E : gE} {G : gG} {n : Nat} (a0 : Int32) : g_Met l yX1_isReal cX1_isReal 1 (some .boolean) rm_X1_isReal E G n [.int a0] (some (.int (f_X1_isReal a0))) G n := by
  generalize h : f_X1_isReal a0 = r
  refine g_ofW gm_X1_isReal (Nat.le_of_ble_eq_true rfl) ?_
  intro p e s m below meth c ls X hl hI
  have hx := X.1
  have hb := X.2.1
  have X : g_X E G n p s m _ meth c cX1_isReal 1 RX1 "isReal" (some .boolean) := X
  have hl : lv_has ls 1 [(0, .int a0)] := hl
  unfold f_X1_isReal at h
  refine lv_iload_n hx hb dX1_isReal_0 rfl (lv_at hl 0 rfl) ?_
  refine lv_iconst (v := 4) hx hb dX1_isReal_1 (by decide) ?_
  refine lv_icmp_eq (tgt := 10) hx hb dX1_isReal_2 (by decide) (fun c => ?_) (fun c => ?_)
  · have h := g_t _ c h
    refine lv_iconst (v := 1) hx hb dX1_isReal_10 (by decide) ?_
    refine lv_goto (tgt := 15) hx hb dX1_isReal_11 (by decide) ?_
    subst h
    exact g_zret X hI (Or.inr rfl) dX1_isReal_15
  · have h := g_f _ c h
    refine lv_iload_n hx hb dX1_isReal_5 rfl (lv_at hl 0 rfl) ?_
    refine lv_iconst (v := 5) hx hb dX1_isReal_6 (by decide) ?_
    refine lv_icmp_ne (tgt := 14) hx hb dX1_isReal_7 (by decide) (fun c => ?_) (fun c => ?_)
    · have h := g_f _ c h
      refine lv_iconst (v := 0) hx hb dX1_isReal_14 (by decide) ?_
      subst h
      exact g_zret X hI (Or.inl rfl) dX1_isReal_15
    · have h := g_t _ c h
      refine lv_iconst (v := 1) hx hb dX1_isReal_10 (by decide) ?_
      refine lv_goto (tgt := 15) hx hb dX1_isReal_11 (by decide) ?_
      subst h
      exact g_zret X hI (Or.inr rfl) dX1_isReal_15
abbrev rm_X1_isZero : Room := { frames := 0, cells := 0, slots := 0, locals := 0 }
def f_X1_isZero_19 (x0 : Int64) (x2 : Int32) : Int32 :=
  if x2 = 5 then
    if x0 = (-9223372036854775808) then
      1
    else
    0
  else
  0
set_option maxHeartbeats 4000000 in
set_option maxRecDepth 100000 in
theorem b_X1_isZero_19 {p : Program} {l : Launch} {e : Env} {s : State} {m : MethodId} {args : Array Value} {below : List Frame} {meth : Method} {c : Code} {E : gE} {G0 : gG} {n0 : Nat} (X : g_X E G0 n0 p s m args meth c cX1_isZero 3 RX1 "isZero" (some .boolean)) {G : gG} {n : Nat} {r : Int32} {H : Heap} {locs : List Loc} (hI : g_I E (g_A G0 n0) G n s.heap H locs) {x0 : Int64} {x2 : Int32} (h : f_X1_isZero_19 x0 x2 = r) {ls : Array Slot} (hl : lv_has ls 3 [(0, .long x0), (2, .int x2)]) : W p l e rm_X1_isZero s m args below meth c H locs 0 0 (MQ below (g_Q E G0 n0 (some (.int r)) G n) args s rm_X1_isZero.cells rm_X1_isZero.slots (g_A G0 n0)) (F0 m 19 ls []) := by
  have hx := X.1
  have hb := X.2.1
  unfold f_X1_isZero_19 at h
  refine lv_iload_n hx hb dX1_isZero_19 rfl (lv_at hl 1 rfl) ?_
  refine lv_iconst (v := 5) hx hb dX1_isZero_20 (by decide) ?_
  refine lv_icmp_ne (tgt := 36) hx hb dX1_isZero_21 (by decide) (fun c => ?_) (fun c => ?_)
  · have h := g_f _ c h
    refine lv_iconst (v := 0) hx hb dX1_isZero_36 (by decide) ?_
    subst h
    exact g_zret X hI (Or.inl rfl) dX1_isZero_37
  · have h := g_t _ c h
    refine lv_lload_n hx hb dX1_isZero_24 rfl (lv_at hl 0 rfl) ?_
    refine lv_ldc2 (v := (-9223372036854775808)) hx hb X.2.2.2.1 (X.2.2.2.2.1 _ tw_2_47) dX1_isZero_25 ?_
    refine W.lcmp hx hb dX1_isZero_28 ?_
    refine lv_if_ne (tgt := 36) hx hb dX1_isZero_29 (by decide) (fun c => ?_) (fun c => ?_)
    · have h := g_f _ ((not_congr (lg_cmp_eq _ _)).mp c) h
      refine lv_iconst (v := 0) hx hb dX1_isZero_36 (by decide) ?_
      subst h
      exact g_zret X hI (Or.inl rfl) dX1_isZero_37
    · have h := g_t _ ((lg_cmp_eq _ _).mp c) h
      refine lv_iconst (v := 1) hx hb dX1_isZero_32 (by decide) ?_
      refine lv_goto (tgt := 37) hx hb dX1_isZero_33 (by decide) ?_
      subst h
      exact g_zret X hI (Or.inr rfl) dX1_isZero_37
def f_X1_isZero (a0 : Int64) (a2 : Int32) : Int32 :=
  if a0 = 0 then
    1
  else
  if a2 = 4 then
    if a0 = (-2147483648) then
      1
    else
    f_X1_isZero_19 a0 a2
  else
  f_X1_isZero_19 a0 a2
theorem gm_X1_isZero : g_M yX1_isZero cX1_isZero 3 (some .boolean) 2 := ⟨tw_2_45, tw_1_6, by decide +kernel, Or.inl (by decide +kernel)⟩
set_option maxHeartbeats 4000000 in
set_option maxRecDepth 100000 in
theorem c_X1_isZero {l : Launch} {E : gE} {G : gG} {n : Nat} (a0 : Int64) (a2 : Int32) : g_Met l yX1_isZero cX1_isZero 3 (some .boolean) rm_X1_isZero E G n [.long a0, .int a2] (some (.int (f_X1_isZero a0 a2))) G n := by
  generalize h : f_X1_isZero a0 a2 = r
  refine g_ofW gm_X1_isZero (Nat.le_of_ble_eq_true rfl) ?_
  intro p e s m below meth c ls X hl hI
  have hx := X.1
  have hb := X.2.1
  have X : g_X E G n p s m _ meth c cX1_isZero 3 RX1 "isZero" (some .boolean) := X
  have hl : lv_has ls 3 [(0, .long a0), (2, .int a2)] := hl
  unfold f_X1_isZero at h
  refine lv_lload_n hx hb dX1_isZero_0 rfl (lv_at hl 0 rfl) ?_
  refine lv_lconst (v := 0) hx hb dX1_isZero_1 (by decide) ?_
  refine W.lcmp hx hb dX1_isZero_2 ?_
  refine lv_if_eq (tgt := 32) hx hb dX1_isZero_3 (by decide) (fun c => ?_) (fun c => ?_)
  · have h := g_t _ ((lg_cmp_eq _ _).mp c) h
    refine lv_iconst (v := 1) hx hb dX1_isZero_32 (by decide) ?_
    refine lv_goto (tgt := 37) hx hb dX1_isZero_33 (by decide) ?_
    subst h
    exact g_zret X hI (Or.inr rfl) dX1_isZero_37
  · have h := g_f _ (fun q => c ((lg_cmp_eq _ _).mpr q)) h
    refine lv_iload_n hx hb dX1_isZero_6 rfl (lv_at hl 1 rfl) ?_
    refine lv_iconst (v := 4) hx hb dX1_isZero_7 (by decide) ?_
    refine lv_icmp_ne (tgt := 19) hx hb dX1_isZero_8 (by decide) (fun c => ?_) (fun c => ?_)
    · have h := g_f _ c h
      exact b_X1_isZero_19 X hI h (lv_sub hl [0, 1] rfl)
    · have h := g_t _ c h
      refine lv_lload_n hx hb dX1_isZero_11 rfl (lv_at hl 0 rfl) ?_
      refine lv_ldc2 (v := (-2147483648)) hx hb X.2.2.2.1 (X.2.2.2.2.1 _ tw_2_46) dX1_isZero_12 ?_
      refine W.lcmp hx hb dX1_isZero_15 ?_
      refine lv_if_eq (tgt := 32) hx hb dX1_isZero_16 (by decide) (fun c => ?_) (fun c => ?_)
      · have h := g_t _ ((lg_cmp_eq _ _).mp c) h
        refine lv_iconst (v := 1) hx hb dX1_isZero_32 (by decide) ?_
        refine lv_goto (tgt := 37) hx hb dX1_isZero_33 (by decide) ?_
        subst h
        exact g_zret X hI (Or.inr rfl) dX1_isZero_37
      · have h := g_f _ (fun q => c ((lg_cmp_eq _ _).mpr q)) h
        exact b_X1_isZero_19 X hI h (lv_sub hl [0, 1] rfl)
abbrev rm_X1_lowestBits : Room := { frames := 0, cells := 0, slots := 0, locals := 0 }
def f_X1_lowestBits (a0 : Int64) (a2 : Int32) : Int64 :=
  if a2 = 0 then
    (a0 &&& 1)
  else
  if a2 = 1 then
    (Int32.toInt64 (Int8.toInt32 (Int32.toInt8 (Int64.toInt32 a0))))
  else
  if a2 = 2 then
    (Int32.toInt64 (Int64.toInt32 a0))
  else
  if a2 = 3 then
    a0
  else
  if a2 = 4 then
    if (a0 &&& 2147483647) ≤ 2139095040 then
      (Int32.toInt64 (Int64.toInt32 a0))
    else
    2143289344
  else
  if a2 = 5 then
    if (a0 &&& 9223372036854775807) ≤ 9218868437227405312 then
      a0
    else
    9221120237041090560
  else
  a0
theorem gm_X1_lowestBits : g_M yX1_lowestBits cX1_lowestBits 3 (some .long) 2 := ⟨tw_1_193, tw_1_6, by decide +kernel, Or.inl (by decide +kernel)⟩
set_option maxHeartbeats 4000000 in
set_option maxRecDepth 100000 in
theorem c_X1_lowestBits {l : Launch} {E : gE} {G : gG} {n : Nat} (a0 : Int64) (a2 : Int32) : g_Met l yX1_lowestBits cX1_lowestBits 3 (some .long) rm_X1_lowestBits E G n [.long a0, .int a2] (some (.long (f_X1_lowestBits a0 a2))) G n := by
  generalize h : f_X1_lowestBits a0 a2 = r
  refine g_ofW gm_X1_lowestBits (Nat.le_of_ble_eq_true rfl) ?_
  intro p e s m below meth c ls X hl hI
  have hx := X.1
  have hb := X.2.1
  have X : g_X E G n p s m _ meth c cX1_lowestBits 3 RX1 "lowestBits" (some .long) := X
  have hl : lv_has ls 3 [(0, .long a0), (2, .int a2)] := hl
  unfold f_X1_lowestBits at h
  refine lv_iload_n hx hb dX1_lowestBits_0 rfl (lv_at hl 1 rfl) ?_
  by_cases c0 : a2 = 0
  · have h := g_t _ c0 h
    refine lv_tableIn (off := 39) (tgt := 40) hx hb dX1_lowestBits_1 (by rw [c0]; decide) (by rw [c0]; decide) (by rw [c0]; rfl) (by decide) ?_
    refine lv_lload_n hx hb dX1_lowestBits_40 rfl (lv_at hl 0 rfl) ?_
    refine lv_lconst (v := 1) hx hb dX1_lowestBits_41 (by decide) ?_
    refine lv_land (x := a0) (y := 1) hx hb dX1_lowestBits_42 ?_
    subst h
    exact g_lret X hI dX1_lowestBits_43
  · have h := g_f _ c0 h
    by_cases c1 : a2 = 1
    · have h := g_t _ c1 h
      refine lv_tableIn (off := 43) (tgt := 44) hx hb dX1_lowestBits_1 (by rw [c1]; decide) (by rw [c1]; decide) (by rw [c1]; rfl) (by decide) ?_
      refine lv_lload_n hx hb dX1_lowestBits_44 rfl (lv_at hl 0 rfl) ?_
      refine lv_l2i (v := (Int64.toInt32 a0)) hx hb dX1_lowestBits_45 rfl ?_
      refine lv_i2b (v := (Int8.toInt32 (Int32.toInt8 (Int64.toInt32 a0)))) hx hb dX1_lowestBits_46 rfl ?_
      refine lv_i2l (v := (Int32.toInt64 (Int8.toInt32 (Int32.toInt8 (Int64.toInt32 a0))))) hx hb dX1_lowestBits_47 rfl ?_
      subst h
      exact g_lret X hI dX1_lowestBits_48
    · have h := g_f _ c1 h
      by_cases c2 : a2 = 2
      · have h := g_t _ c2 h
        refine lv_tableIn (off := 48) (tgt := 49) hx hb dX1_lowestBits_1 (by rw [c2]; decide) (by rw [c2]; decide) (by rw [c2]; rfl) (by decide) ?_
        refine lv_lload_n hx hb dX1_lowestBits_49 rfl (lv_at hl 0 rfl) ?_
        refine lv_l2i (v := (Int64.toInt32 a0)) hx hb dX1_lowestBits_50 rfl ?_
        refine lv_i2l (v := (Int32.toInt64 (Int64.toInt32 a0))) hx hb dX1_lowestBits_51 rfl ?_
        subst h
        exact g_lret X hI dX1_lowestBits_52
      · have h := g_f _ c2 h
        by_cases c3 : a2 = 3
        · have h := g_t _ c3 h
          refine lv_tableIn (off := 94) (tgt := 95) hx hb dX1_lowestBits_1 (by rw [c3]; decide) (by rw [c3]; decide) (by rw [c3]; rfl) (by decide) ?_
          refine lv_lload_n hx hb dX1_lowestBits_95 rfl (lv_at hl 0 rfl) ?_
          subst h
          exact g_lret X hI dX1_lowestBits_96
        · have h := g_f _ c3 h
          by_cases c4 : a2 = 4
          · have h := g_t _ c4 h
            refine lv_tableIn (off := 52) (tgt := 53) hx hb dX1_lowestBits_1 (by rw [c4]; decide) (by rw [c4]; decide) (by rw [c4]; rfl) (by decide) ?_
            refine lv_lload_n hx hb dX1_lowestBits_53 rfl (lv_at hl 0 rfl) ?_
            refine lv_ldc2 (v := 2147483647) hx hb X.2.2.2.1 (X.2.2.2.2.1 _ tw_1_194) dX1_lowestBits_54 ?_
            refine lv_land (x := a0) (y := 2147483647) hx hb dX1_lowestBits_57 ?_
            refine lv_ldc2 (v := 2139095040) hx hb X.2.2.2.1 (X.2.2.2.2.1 _ tw_1_195) dX1_lowestBits_58 ?_
            refine W.lcmp hx hb dX1_lowestBits_61 ?_
            refine lv_if_le (tgt := 71) hx hb dX1_lowestBits_62 (by decide) (fun c => ?_) (fun c => ?_)
            · have h := g_t _ ((lg_cmp_le _ _).mp c) h
              refine lv_lload_n hx hb dX1_lowestBits_71 rfl (lv_at hl 0 rfl) ?_
              refine lv_l2i (v := (Int64.toInt32 a0)) hx hb dX1_lowestBits_72 rfl ?_
              refine lv_i2l (v := (Int32.toInt64 (Int64.toInt32 a0))) hx hb dX1_lowestBits_73 rfl ?_
              subst h
              exact g_lret X hI dX1_lowestBits_74
            · have h := g_f _ (fun q => c ((lg_cmp_le _ _).mpr q)) h
              refine lv_ldc2 (v := 2143289344) hx hb X.2.2.2.1 (X.2.2.2.2.1 _ tw_1_196) dX1_lowestBits_65 ?_
              refine lv_goto (tgt := 74) hx hb dX1_lowestBits_68 (by decide) ?_
              subst h
              exact g_lret X hI dX1_lowestBits_74
          · have h := g_f _ c4 h
            by_cases c5 : a2 = 5
            · have h := g_t _ c5 h
              refine lv_tableIn (off := 74) (tgt := 75) hx hb dX1_lowestBits_1 (by rw [c5]; decide) (by rw [c5]; decide) (by rw [c5]; rfl) (by decide) ?_
              refine lv_lload_n hx hb dX1_lowestBits_75 rfl (lv_at hl 0 rfl) ?_
              refine lv_ldc2 (v := 9223372036854775807) hx hb X.2.2.2.1 (X.2.2.2.2.1 _ tw_1_197) dX1_lowestBits_76 ?_
              refine lv_land (x := a0) (y := 9223372036854775807) hx hb dX1_lowestBits_79 ?_
              refine lv_ldc2 (v := 9218868437227405312) hx hb X.2.2.2.1 (X.2.2.2.2.1 _ tw_1_198) dX1_lowestBits_80 ?_
              refine W.lcmp hx hb dX1_lowestBits_83 ?_
              refine lv_if_le (tgt := 93) hx hb dX1_lowestBits_84 (by decide) (fun c => ?_) (fun c => ?_)
              · have h := g_t _ ((lg_cmp_le _ _).mp c) h
                refine lv_lload_n hx hb dX1_lowestBits_93 rfl (lv_at hl 0 rfl) ?_
                subst h
                exact g_lret X hI dX1_lowestBits_94
              · have h := g_f _ (fun q => c ((lg_cmp_le _ _).mpr q)) h
                refine lv_ldc2 (v := 9221120237041090560) hx hb X.2.2.2.1 (X.2.2.2.2.1 _ tw_1_199) dX1_lowestBits_87 ?_
                refine lv_goto (tgt := 94) hx hb dX1_lowestBits_90 (by decide) ?_
                subst h
                exact g_lret X hI dX1_lowestBits_94
            · have h := g_f _ c5 h
              refine lv_tableOut (tgt := 95) hx hb dX1_lowestBits_1 (by have q0 := lv_neT (a := 0) c0 (by decide); have q1 := lv_neT (a := 1) c1 (by decide); have q2 := lv_neT (a := 2) c2 (by decide); have q3 := lv_neT (a := 3) c3 (by decide); have q4 := lv_neT (a := 4) c4 (by decide); have q5 := lv_neT (a := 5) c5 (by decide); omega) (by decide) ?_
              refine lv_lload_n hx hb dX1_lowestBits_95 rfl (lv_at hl 0 rfl) ?_
              subst h
              exact g_lret X hI dX1_lowestBits_96
abbrev rm_J9_abs_067f4 : Room := { frames := 0, cells := 0, slots := 0, locals := 0 }
def f_J9_abs_067f4 (a0 : Int64) : Int64 :=
  if (0 : Int64) ≤ a0 then
    a0
  else
  (-a0)
theorem gm_J9_abs_067f4 : g_M yJ9_abs_067f4 cJ9_abs_067f4 2 (some .long) 1 := ⟨tw_2_70, tw_1_9, by decide +kernel, Or.inr (by decide +kernel)⟩
set_option maxHeartbeats 4000000 in
set_option maxRecDepth 100000 in
theorem c_J9_abs_067f4 {l : Launch} {E : gE} {G : gG} {n : Nat} (a0 : Int64) : g_Met l yJ9_abs_067f4 cJ9_abs_067f4 2 (some .long) rm_J9_abs_067f4 E G n [.long a0] (some (.long (f_J9_abs_067f4 a0))) G n := by
  generalize h : f_J9_abs_067f4 a0 = r
  refine g_ofW gm_J9_abs_067f4 (Nat.le_of_ble_eq_true rfl) ?_
  intro p e s m below meth c ls X hl hI
  have hx := X.1
  have hb := X.2.1
  have X : g_X E G n p s m _ meth c cJ9_abs_067f4 2 RJ9 "abs" (some .long) := X
  have hl : lv_has ls 2 [(0, .long a0)] := hl
  unfold f_J9_abs_067f4 at h
  refine lv_lload_n hx hb dJ9_abs_067f4_0 rfl (lv_at hl 0 rfl) ?_
  refine lv_lconst (v := 0) hx hb dJ9_abs_067f4_1 (by decide) ?_
  refine W.lcmp hx hb dJ9_abs_067f4_2 ?_
  refine lv_if_ge (tgt := 11) hx hb dJ9_abs_067f4_3 (by decide) (fun c => ?_) (fun c => ?_)
  · have h := g_t _ ((lg_cmp_ge _ _).mp c) h
    refine lv_lload_n hx hb dJ9_abs_067f4_11 rfl (lv_at hl 0 rfl) ?_
    subst h
    exact g_lret X hI dJ9_abs_067f4_12
  · have h := g_f _ (fun q => c ((lg_cmp_ge _ _).mpr q)) h
    refine lv_lload_n hx hb dJ9_abs_067f4_6 rfl (lv_at hl 0 rfl) ?_
    refine lv_lneg hx hb dJ9_abs_067f4_7 ?_
    refine lv_goto (tgt := 12) hx hb dJ9_abs_067f4_8 (by decide) ?_
    subst h
    exact g_lret X hI dJ9_abs_067f4_12
abbrev rm_X1_noNumber : Room := { frames := 0, cells := 0, slots := 0, locals := 0 }
def f_X1_noNumber (a0 : Int32) : Int64 :=
  if a0 = 4 then
    2143289344
  else
  9221120237041090560
theorem gm_X1_noNumber : g_M yX1_noNumber cX1_noNumber 1 (some .long) 1 := ⟨tw_2_77, tw_1_6, by decide +kernel, Or.inl (by decide +kernel)⟩
set_option maxHeartbeats 4000000 in
set_option maxRecDepth 100000 in
theorem c_X1_noNumber {l : Launch} {E : gE} {G : gG} {n : Nat} (a0 : Int32) : g_Met l yX1_noNumber cX1_noNumber 1 (some .long) rm_X1_noNumber E G n [.int a0] (some (.long (f_X1_noNumber a0))) G n := by
  generalize h : f_X1_noNumber a0 = r
  refine g_ofW gm_X1_noNumber (Nat.le_of_ble_eq_true rfl) ?_
  intro p e s m below meth c ls X hl hI
  have hx := X.1
  have hb := X.2.1
  have X : g_X E G n p s m _ meth c cX1_noNumber 1 RX1 "noNumber" (some .long) := X
  have hl : lv_has ls 1 [(0, .int a0)] := hl
  unfold f_X1_noNumber at h
  refine lv_iload_n hx hb dX1_noNumber_0 rfl (lv_at hl 0 rfl) ?_
  refine lv_iconst (v := 4) hx hb dX1_noNumber_1 (by decide) ?_
  refine lv_icmp_ne (tgt := 11) hx hb dX1_noNumber_2 (by decide) (fun c => ?_) (fun c => ?_)
  · have h := g_f _ c h
    refine lv_ldc2 (v := 9221120237041090560) hx hb X.2.2.2.1 (X.2.2.2.2.1 _ tw_1_199) dX1_noNumber_11 ?_
    subst h
    exact g_lret X hI dX1_noNumber_14
  · have h := g_t _ c h
    refine lv_ldc2 (v := 2143289344) hx hb X.2.2.2.1 (X.2.2.2.2.1 _ tw_1_196) dX1_noNumber_5 ?_
    refine lv_goto (tgt := 14) hx hb dX1_noNumber_8 (by decide) ?_
    subst h
    exact g_lret X hI dX1_noNumber_14
abbrev rm_J9_min_f86c9 : Room := { frames := 0, cells := 0, slots := 0, locals := 0 }
def f_J9_min_f86c9 (a0 : Int64) (a2 : Int64) : Int64 :=
  if a2 < a0 then
    a2
  else
  a0
theorem gm_J9_min_f86c9 : g_M yJ9_min_f86c9 cJ9_min_f86c9 4 (some .long) 2 := ⟨tw_2_98, tw_1_9, by decide +kernel, Or.inr (by decide +kernel)⟩
set_option maxHeartbeats 4000000 in
set_option maxRecDepth 100000 in
theorem c_J9_min_f86c9 {l : Launch} {E : gE} {G : gG} {n : Nat} (a0 : Int64) (a2 : Int64) : g_Met l yJ9_min_f86c9 cJ9_min_f86c9 4 (some .long) rm_J9_min_f86c9 E G n [.long a0, .long a2] (some (.long (f_J9_min_f86c9 a0 a2))) G n := by
  generalize h : f_J9_min_f86c9 a0 a2 = r
  refine g_ofW gm_J9_min_f86c9 (Nat.le_of_ble_eq_true rfl) ?_
  intro p e s m below meth c ls X hl hI
  have hx := X.1
  have hb := X.2.1
  have X : g_X E G n p s m _ meth c cJ9_min_f86c9 4 RJ9 "min" (some .long) := X
  have hl : lv_has ls 4 [(0, .long a0), (2, .long a2)] := hl
  unfold f_J9_min_f86c9 at h
  refine lv_lload_n hx hb dJ9_min_f86c9_0 rfl (lv_at hl 0 rfl) ?_
  refine lv_lload_n hx hb dJ9_min_f86c9_1 rfl (lv_at hl 1 rfl) ?_
  refine W.lcmp hx hb dJ9_min_f86c9_2 ?_
  refine lv_if_gt (tgt := 10) hx hb dJ9_min_f86c9_3 (by decide) (fun c => ?_) (fun c => ?_)
  · have h := g_t _ ((lg_cmp_gt _ _).mp c) h
    refine lv_lload_n hx hb dJ9_min_f86c9_10 rfl (lv_at hl 1 rfl) ?_
    subst h
    exact g_lret X hI dJ9_min_f86c9_11
  · have h := g_f _ (fun q => c ((lg_cmp_gt _ _).mpr q)) h
    refine lv_lload_n hx hb dJ9_min_f86c9_6 rfl (lv_at hl 0 rfl) ?_
    refine lv_goto (tgt := 11) hx hb dJ9_min_f86c9_7 (by decide) ?_
    subst h
    exact g_lret X hI dJ9_min_f86c9_11
abbrev rm_J9_max_f86c9 : Room := { frames := 0, cells := 0, slots := 0, locals := 0 }
def f_J9_max_f86c9 (a0 : Int64) (a2 : Int64) : Int64 :=
  if a0 < a2 then
    a2
  else
  a0
theorem gm_J9_max_f86c9 : g_M yJ9_max_f86c9 cJ9_max_f86c9 4 (some .long) 2 := ⟨tw_2_101, tw_1_9, by decide +kernel, Or.inr (by decide +kernel)⟩
set_option maxHeartbeats 4000000 in
set_option maxRecDepth 100000 in
theorem c_J9_max_f86c9 {l : Launch} {E : gE} {G : gG} {n : Nat} (a0 : Int64) (a2 : Int64) : g_Met l yJ9_max_f86c9 cJ9_max_f86c9 4 (some .long) rm_J9_max_f86c9 E G n [.long a0, .long a2] (some (.long (f_J9_max_f86c9 a0 a2))) G n := by
  generalize h : f_J9_max_f86c9 a0 a2 = r
  refine g_ofW gm_J9_max_f86c9 (Nat.le_of_ble_eq_true rfl) ?_
  intro p e s m below meth c ls X hl hI
  have hx := X.1
  have hb := X.2.1
  have X : g_X E G n p s m _ meth c cJ9_max_f86c9 4 RJ9 "max" (some .long) := X
  have hl : lv_has ls 4 [(0, .long a0), (2, .long a2)] := hl
  unfold f_J9_max_f86c9 at h
  refine lv_lload_n hx hb dJ9_max_f86c9_0 rfl (lv_at hl 0 rfl) ?_
  refine lv_lload_n hx hb dJ9_max_f86c9_1 rfl (lv_at hl 1 rfl) ?_
  refine W.lcmp hx hb dJ9_max_f86c9_2 ?_
  refine lv_if_lt (tgt := 10) hx hb dJ9_max_f86c9_3 (by decide) (fun c => ?_) (fun c => ?_)
  · have h := g_t _ ((lg_cmp_lt _ _).mp c) h
    refine lv_lload_n hx hb dJ9_max_f86c9_10 rfl (lv_at hl 1 rfl) ?_
    subst h
    exact g_lret X hI dJ9_max_f86c9_11
  · have h := g_f _ (fun q => c ((lg_cmp_lt _ _).mpr q)) h
    refine lv_lload_n hx hb dJ9_max_f86c9_6 rfl (lv_at hl 0 rfl) ?_
    refine lv_goto (tgt := 11) hx hb dJ9_max_f86c9_7 (by decide) ?_
    subst h
    exact g_lret X hI dJ9_max_f86c9_11
abbrev rm_X1_isNoNumber : Room := { frames := 1, cells := 0, slots := 0, locals := 20 }
def f_X1_isNoNumber (a0 : Int64) (a2 : Int32) : Int32 :=
  if (f_X1_isReal a2) = 0 then
    0
  else
  if a0 = (f_X1_noNumber a2) then
    1
  else
  0
theorem gm_X1_isNoNumber : g_M yX1_isNoNumber cX1_isNoNumber 3 (some .boolean) 2 := ⟨tw_2_115, tw_1_6, by decide +kernel, Or.inl (by decide +kernel)⟩
set_option maxHeartbeats 4000000 in
set_option maxRecDepth 100000 in
theorem c_X1_isNoNumber {l : Launch} {E : gE} {G : gG} {n : Nat} (a0 : Int64) (a2 : Int32) : g_Met l yX1_isNoNumber cX1_isNoNumber 3 (some .boolean) rm_X1_isNoNumber E G n [.long a0, .int a2] (some (.int (f_X1_isNoNumber a0 a2))) G n := by
  generalize h : f_X1_isNoNumber a0 a2 = r
  refine g_ofW gm_X1_isNoNumber (Nat.le_of_ble_eq_true rfl) ?_
  intro p e s m below meth c ls X hl hI
  have hx := X.1
  have hb := X.2.1
  have X : g_X E G n p s m _ meth c cX1_isNoNumber 3 RX1 "isNoNumber" (some .boolean) := X
  have hl : lv_has ls 3 [(0, .long a0), (2, .int a2)] := hl
  unfold f_X1_isNoNumber at h
  refine lv_iload_n hx hb dX1_isNoNumber_0 rfl (lv_at hl 1 rfl) ?_
  refine g_callS X hI (av := [.int a2]) (c_X1_isReal a2) gm_X1_isReal tw_2_10 tw_2_11 ⟨by decide, by decide⟩ hl.1 (rest := []) rfl (Nat.le_of_ble_eq_true rfl) dX1_isNoNumber_1 ⟨by decide, by decide⟩ (st1 := [.int (f_X1_isReal a2)]) rfl (cells' := 0) (slots' := 0) rfl rfl (fun H locs hI => ?_)
  refine lv_if_eq (tgt := 20) hx hb dX1_isNoNumber_4 (by decide) (fun c => ?_) (fun c => ?_)
  · have h := g_t _ c h
    refine lv_iconst (v := 0) hx hb dX1_isNoNumber_20 (by decide) ?_
    subst h
    exact g_zret X hI (Or.inl rfl) dX1_isNoNumber_21
  · have h := g_f _ c h
    refine lv_lload_n hx hb dX1_isNoNumber_7 rfl (lv_at hl 0 rfl) ?_
    refine lv_iload_n hx hb dX1_isNoNumber_8 rfl (lv_at hl 1 rfl) ?_
    refine g_callS X hI (av := [.int a2]) (c_X1_noNumber a2) gm_X1_noNumber tw_2_116 tw_2_76 ⟨by decide, by decide⟩ hl.1 (rest := [.long a0]) rfl (Nat.le_of_ble_eq_true rfl) dX1_isNoNumber_9 ⟨by decide, by decide⟩ (st1 := [.long (f_X1_noNumber a2), .long a0]) rfl (cells' := 0) (slots' := 0) rfl rfl (fun H locs hI => ?_)
    refine W.lcmp hx hb dX1_isNoNumber_12 ?_
    refine lv_if_ne (tgt := 20) hx hb dX1_isNoNumber_13 (by decide) (fun c => ?_) (fun c => ?_)
    · have h := g_f _ ((not_congr (lg_cmp_eq _ _)).mp c) h
      refine lv_iconst (v := 0) hx hb dX1_isNoNumber_20 (by decide) ?_
      subst h
      exact g_zret X hI (Or.inl rfl) dX1_isNoNumber_21
    · have h := g_t _ ((lg_cmp_eq _ _).mp c) h
      refine lv_iconst (v := 1) hx hb dX1_isNoNumber_16 (by decide) ?_
      refine lv_goto (tgt := 21) hx hb dX1_isNoNumber_17 (by decide) ?_
      subst h
      exact g_zret X hI (Or.inr rfl) dX1_isNoNumber_21
abbrev rm_J9_min_7cf53 : Room := { frames := 0, cells := 0, slots := 0, locals := 0 }
def f_J9_min_7cf53 (a0 : Int32) (a1 : Int32) : Int32 :=
  if a1 < a0 then
    a1
  else
  a0
theorem gm_J9_min_7cf53 : g_M yJ9_min_7cf53 cJ9_min_7cf53 2 (some .int) 2 := ⟨tw_2_9, tw_1_9, by decide +kernel, Or.inr (by decide +kernel)⟩
set_option maxHeartbeats 4000000 in
set_option maxRecDepth 100000 in
theorem c_J9_min_7cf53 {l : Launch} {E : gE} {G : gG} {n : Nat} (a0 : Int32) (a1 : Int32) : g_Met l yJ9_min_7cf53 cJ9_min_7cf53 2 (some .int) rm_J9_min_7cf53 E G n [.int a0, .int a1] (some (.int (f_J9_min_7cf53 a0 a1))) G n := by
  generalize h : f_J9_min_7cf53 a0 a1 = r
  refine g_ofW gm_J9_min_7cf53 (Nat.le_of_ble_eq_true rfl) ?_
  intro p e s m below meth c ls X hl hI
  have hx := X.1
  have hb := X.2.1
  have X : g_X E G n p s m _ meth c cJ9_min_7cf53 2 RJ9 "min" (some .int) := X
  have hl : lv_has ls 2 [(0, .int a0), (1, .int a1)] := hl
  unfold f_J9_min_7cf53 at h
  refine lv_iload_n hx hb dJ9_min_7cf53_0 rfl (lv_at hl 0 rfl) ?_
  refine lv_iload_n hx hb dJ9_min_7cf53_1 rfl (lv_at hl 1 rfl) ?_
  refine lv_icmp_gt (tgt := 9) hx hb dJ9_min_7cf53_2 (by decide) (fun c => ?_) (fun c => ?_)
  · have h := g_t _ c h
    refine lv_iload_n hx hb dJ9_min_7cf53_9 rfl (lv_at hl 1 rfl) ?_
    subst h
    exact g_iret X hI dJ9_min_7cf53_10
  · have h := g_f _ c h
    refine lv_iload_n hx hb dJ9_min_7cf53_5 rfl (lv_at hl 0 rfl) ?_
    refine lv_goto (tgt := 10) hx hb dJ9_min_7cf53_6 (by decide) ?_
    subst h
    exact g_iret X hI dJ9_min_7cf53_10
abbrev rm_J9_floorDiv_f86c9 : Room := { frames := 0, cells := 0, slots := 0, locals := 0 }
def f_J9_floorDiv_f86c9 (a0 : Int64) (a2 : Int64) : Option Int64 :=
  gneL a2 <|
  gl ((a0 / a2) : Int64) fun v1 =>
  if (0 : Int64) ≤ (a0 ^^^ a2) then
    some v1
  else
  if (v1 * a2) = a0 then
    some v1
  else
  some (v1 - 1)
theorem gm_J9_floorDiv_f86c9 : g_M yJ9_floorDiv_f86c9 cJ9_floorDiv_f86c9 6 (some .long) 2 := ⟨tw_2_187, tw_1_9, by decide +kernel, Or.inr (by decide +kernel)⟩
set_option maxHeartbeats 4000000 in
set_option maxRecDepth 100000 in
theorem c_J9_floorDiv_f86c9 {l : Launch} {E : gE} {G : gG} {n : Nat} {a0 : Int64} {a2 : Int64} {r : Int64} (h : f_J9_floorDiv_f86c9 a0 a2 = some r) : g_Met l yJ9_floorDiv_f86c9 cJ9_floorDiv_f86c9 6 (some .long) rm_J9_floorDiv_f86c9 E G n [.long a0, .long a2] (some (.long r)) G n := by
  refine g_ofW gm_J9_floorDiv_f86c9 (Nat.le_of_ble_eq_true rfl) ?_
  intro p e s m below meth c ls X hl hI
  have hx := X.1
  have hb := X.2.1
  have X : g_X E G n p s m _ meth c cJ9_floorDiv_f86c9 6 RJ9 "floorDiv" (some .long) := X
  have hl : lv_has ls 6 [(0, .long a0), (2, .long a2)] := hl
  unfold f_J9_floorDiv_f86c9 at h
  refine lv_lload_n hx hb dJ9_floorDiv_f86c9_0 rfl (lv_at hl 0 rfl) ?_
  refine lv_lload_n hx hb dJ9_floorDiv_f86c9_1 rfl (lv_at hl 1 rfl) ?_
  obtain ⟨cz, h⟩ := gneL_s h
  refine lv_ldiv hx hb dJ9_floorDiv_f86c9_2 cz ?_
  obtain ⟨v1, ev1, h⟩ := gl_s h
  refine g_topl ev1 ?_
  refine lv_lstore (lv' := [(4, .long v1), (0, .long a0), (2, .long a2)]) hx hb dJ9_floorDiv_f86c9_3 hl (by decide) rfl (fun ls hl => ?_)
  refine lv_lload_n hx hb dJ9_floorDiv_f86c9_5 rfl (lv_at hl 1 rfl) ?_
  refine lv_lload_n hx hb dJ9_floorDiv_f86c9_6 rfl (lv_at hl 2 rfl) ?_
  refine lv_lxor (x := a0) (y := a2) hx hb dJ9_floorDiv_f86c9_7 ?_
  refine lv_lconst (v := 0) hx hb dJ9_floorDiv_f86c9_8 (by decide) ?_
  refine W.lcmp hx hb dJ9_floorDiv_f86c9_9 ?_
  refine lv_if_ge (tgt := 27) hx hb dJ9_floorDiv_f86c9_10 (by decide) (fun c => ?_) (fun c => ?_)
  · have h := g_t _ ((lg_cmp_ge _ _).mp c) h
    refine lv_lload hx hb dJ9_floorDiv_f86c9_27 (lv_at hl 0 rfl) ?_
    have h := Option.some.inj h
    subst h
    exact g_lret X hI dJ9_floorDiv_f86c9_29
  · have h := g_f _ (fun q => c ((lg_cmp_ge _ _).mpr q)) h
    refine lv_lload hx hb dJ9_floorDiv_f86c9_13 (lv_at hl 0 rfl) ?_
    refine lv_lload_n hx hb dJ9_floorDiv_f86c9_15 rfl (lv_at hl 2 rfl) ?_
    refine lv_lmul (x := v1) (y := a2) hx hb dJ9_floorDiv_f86c9_16 ?_
    refine lv_lload_n hx hb dJ9_floorDiv_f86c9_17 rfl (lv_at hl 1 rfl) ?_
    refine W.lcmp hx hb dJ9_floorDiv_f86c9_18 ?_
    refine lv_if_eq (tgt := 27) hx hb dJ9_floorDiv_f86c9_19 (by decide) (fun c => ?_) (fun c => ?_)
    · have h := g_t _ ((lg_cmp_eq _ _).mp c) h
      refine lv_lload hx hb dJ9_floorDiv_f86c9_27 (lv_at hl 0 rfl) ?_
      have h := Option.some.inj h
      subst h
      exact g_lret X hI dJ9_floorDiv_f86c9_29
    · have h := g_f _ (fun q => c ((lg_cmp_eq _ _).mpr q)) h
      refine lv_lload hx hb dJ9_floorDiv_f86c9_22 (lv_at hl 0 rfl) ?_
      refine lv_lconst (v := 1) hx hb dJ9_floorDiv_f86c9_24 (by decide) ?_
      refine lv_lsub (x := v1) (y := 1) hx hb dJ9_floorDiv_f86c9_25 ?_
      have h := Option.some.inj h
      subst h
      exact g_lret X hI dJ9_floorDiv_f86c9_26
abbrev rm_J9_floorMod_f86c9 : Room := { frames := 0, cells := 0, slots := 0, locals := 0 }
def f_J9_floorMod_f86c9 (a0 : Int64) (a2 : Int64) : Option Int64 :=
  gneL a2 <|
  gl ((g_lrem a0 a2) : Int64) fun v1 =>
  if (0 : Int64) ≤ (a0 ^^^ a2) then
    some v1
  else
  if v1 = 0 then
    some v1
  else
  some (v1 + a2)
theorem gm_J9_floorMod_f86c9 : g_M yJ9_floorMod_f86c9 cJ9_floorMod_f86c9 6 (some .long) 2 := ⟨tw_2_190, tw_1_9, by decide +kernel, Or.inr (by decide +kernel)⟩
set_option maxHeartbeats 4000000 in
set_option maxRecDepth 100000 in
theorem c_J9_floorMod_f86c9 {l : Launch} {E : gE} {G : gG} {n : Nat} {a0 : Int64} {a2 : Int64} {r : Int64} (h : f_J9_floorMod_f86c9 a0 a2 = some r) : g_Met l yJ9_floorMod_f86c9 cJ9_floorMod_f86c9 6 (some .long) rm_J9_floorMod_f86c9 E G n [.long a0, .long a2] (some (.long r)) G n := by
  refine g_ofW gm_J9_floorMod_f86c9 (Nat.le_of_ble_eq_true rfl) ?_
  intro p e s m below meth c ls X hl hI
  have hx := X.1
  have hb := X.2.1
  have X : g_X E G n p s m _ meth c cJ9_floorMod_f86c9 6 RJ9 "floorMod" (some .long) := X
  have hl : lv_has ls 6 [(0, .long a0), (2, .long a2)] := hl
  unfold f_J9_floorMod_f86c9 at h
  refine lv_lload_n hx hb dJ9_floorMod_f86c9_0 rfl (lv_at hl 0 rfl) ?_
  refine lv_lload_n hx hb dJ9_floorMod_f86c9_1 rfl (lv_at hl 1 rfl) ?_
  obtain ⟨cz, h⟩ := gneL_s h
  refine lv_lrem hx hb dJ9_floorMod_f86c9_2 cz ?_
  obtain ⟨v1, ev1, h⟩ := gl_s h
  refine g_topl ev1 ?_
  refine lv_lstore (lv' := [(4, .long v1), (0, .long a0), (2, .long a2)]) hx hb dJ9_floorMod_f86c9_3 hl (by decide) rfl (fun ls hl => ?_)
  refine lv_lload_n hx hb dJ9_floorMod_f86c9_5 rfl (lv_at hl 1 rfl) ?_
  refine lv_lload_n hx hb dJ9_floorMod_f86c9_6 rfl (lv_at hl 2 rfl) ?_
  refine lv_lxor (x := a0) (y := a2) hx hb dJ9_floorMod_f86c9_7 ?_
  refine lv_lconst (v := 0) hx hb dJ9_floorMod_f86c9_8 (by decide) ?_
  refine W.lcmp hx hb dJ9_floorMod_f86c9_9 ?_
  refine lv_if_ge (tgt := 25) hx hb dJ9_floorMod_f86c9_10 (by decide) (fun c => ?_) (fun c => ?_)
  · have h := g_t _ ((lg_cmp_ge _ _).mp c) h
    refine lv_lload hx hb dJ9_floorMod_f86c9_25 (lv_at hl 0 rfl) ?_
    have h := Option.some.inj h
    subst h
    exact g_lret X hI dJ9_floorMod_f86c9_27
  · have h := g_f _ (fun q => c ((lg_cmp_ge _ _).mpr q)) h
    refine lv_lload hx hb dJ9_floorMod_f86c9_13 (lv_at hl 0 rfl) ?_
    refine lv_lconst (v := 0) hx hb dJ9_floorMod_f86c9_15 (by decide) ?_
    refine W.lcmp hx hb dJ9_floorMod_f86c9_16 ?_
    refine lv_if_eq (tgt := 25) hx hb dJ9_floorMod_f86c9_17 (by decide) (fun c => ?_) (fun c => ?_)
    · have h := g_t _ ((lg_cmp_eq _ _).mp c) h
      refine lv_lload hx hb dJ9_floorMod_f86c9_25 (lv_at hl 0 rfl) ?_
      have h := Option.some.inj h
      subst h
      exact g_lret X hI dJ9_floorMod_f86c9_27
    · have h := g_f _ (fun q => c ((lg_cmp_eq _ _).mpr q)) h
      refine lv_lload hx hb dJ9_floorMod_f86c9_20 (lv_at hl 0 rfl) ?_
      refine lv_lload_n hx hb dJ9_floorMod_f86c9_22 rfl (lv_at hl 2 rfl) ?_
      refine lv_ladd (x := v1) (y := a2) hx hb dJ9_floorMod_f86c9_23 ?_
      have h := Option.some.inj h
      subst h
      exact g_lret X hI dJ9_floorMod_f86c9_24
abbrev rm_X1_isLane : Room := { frames := 0, cells := 0, slots := 0, locals := 0 }
def f_X1_isLane (a0 : Int32) : Int32 :=
  if a0 < 0 then
    0
  else
  if (5 : Int32) < a0 then
    0
  else
  1
theorem gm_X1_isLane : g_M yX1_isLane cX1_isLane 1 (some .boolean) 1 := ⟨tw_1_107, tw_1_6, by decide +kernel, Or.inl (by decide +kernel)⟩
set_option maxHeartbeats 4000000 in
set_option maxRecDepth 100000 in
theorem c_X1_isLane {l : Launch} {E : gE} {G : gG} {n : Nat} (a0 : Int32) : g_Met l yX1_isLane cX1_isLane 1 (some .boolean) rm_X1_isLane E G n [.int a0] (some (.int (f_X1_isLane a0))) G n := by
  generalize h : f_X1_isLane a0 = r
  refine g_ofW gm_X1_isLane (Nat.le_of_ble_eq_true rfl) ?_
  intro p e s m below meth c ls X hl hI
  have hx := X.1
  have hb := X.2.1
  have X : g_X E G n p s m _ meth c cX1_isLane 1 RX1 "isLane" (some .boolean) := X
  have hl : lv_has ls 1 [(0, .int a0)] := hl
  unfold f_X1_isLane at h
  refine lv_iload_n hx hb dX1_isLane_0 rfl (lv_at hl 0 rfl) ?_
  refine lv_if_lt (tgt := 13) hx hb dX1_isLane_1 (by decide) (fun c => ?_) (fun c => ?_)
  · have h := g_t _ c h
    refine lv_iconst (v := 0) hx hb dX1_isLane_13 (by decide) ?_
    subst h
    exact g_zret X hI (Or.inl rfl) dX1_isLane_14
  · have h := g_f _ c h
    refine lv_iload_n hx hb dX1_isLane_4 rfl (lv_at hl 0 rfl) ?_
    refine lv_iconst (v := 5) hx hb dX1_isLane_5 (by decide) ?_
    refine lv_icmp_gt (tgt := 13) hx hb dX1_isLane_6 (by decide) (fun c => ?_) (fun c => ?_)
    · have h := g_t _ c h
      refine lv_iconst (v := 0) hx hb dX1_isLane_13 (by decide) ?_
      subst h
      exact g_zret X hI (Or.inl rfl) dX1_isLane_14
    · have h := g_f _ c h
      refine lv_iconst (v := 1) hx hb dX1_isLane_9 (by decide) ?_
      refine lv_goto (tgt := 14) hx hb dX1_isLane_10 (by decide) ?_
      subst h
      exact g_zret X hI (Or.inr rfl) dX1_isLane_14
abbrev rm_J9_max_7cf53 : Room := { frames := 0, cells := 0, slots := 0, locals := 0 }
def f_J9_max_7cf53 (a0 : Int32) (a1 : Int32) : Int32 :=
  if a0 < a1 then
    a1
  else
  a0
theorem gm_J9_max_7cf53 : g_M yJ9_max_7cf53 cJ9_max_7cf53 2 (some .int) 2 := ⟨tw_2_6, tw_1_9, by decide +kernel, Or.inr (by decide +kernel)⟩
set_option maxHeartbeats 4000000 in
set_option maxRecDepth 100000 in
theorem c_J9_max_7cf53 {l : Launch} {E : gE} {G : gG} {n : Nat} (a0 : Int32) (a1 : Int32) : g_Met l yJ9_max_7cf53 cJ9_max_7cf53 2 (some .int) rm_J9_max_7cf53 E G n [.int a0, .int a1] (some (.int (f_J9_max_7cf53 a0 a1))) G n := by
  generalize h : f_J9_max_7cf53 a0 a1 = r
  refine g_ofW gm_J9_max_7cf53 (Nat.le_of_ble_eq_true rfl) ?_
  intro p e s m below meth c ls X hl hI
  have hx := X.1
  have hb := X.2.1
  have X : g_X E G n p s m _ meth c cJ9_max_7cf53 2 RJ9 "max" (some .int) := X
  have hl : lv_has ls 2 [(0, .int a0), (1, .int a1)] := hl
  unfold f_J9_max_7cf53 at h
  refine lv_iload_n hx hb dJ9_max_7cf53_0 rfl (lv_at hl 0 rfl) ?_
  refine lv_iload_n hx hb dJ9_max_7cf53_1 rfl (lv_at hl 1 rfl) ?_
  refine lv_icmp_lt (tgt := 9) hx hb dJ9_max_7cf53_2 (by decide) (fun c => ?_) (fun c => ?_)
  · have h := g_t _ c h
    refine lv_iload_n hx hb dJ9_max_7cf53_9 rfl (lv_at hl 1 rfl) ?_
    subst h
    exact g_iret X hI dJ9_max_7cf53_10
  · have h := g_f _ c h
    refine lv_iload_n hx hb dJ9_max_7cf53_5 rfl (lv_at hl 0 rfl) ?_
    refine lv_goto (tgt := 10) hx hb dJ9_max_7cf53_6 (by decide) ?_
    subst h
    exact g_iret X hI dJ9_max_7cf53_10
abbrev rm_X1_joined : Room := { frames := 1, cells := 0, slots := 0, locals := 21 }
def f_X1_joined (a0 : Int32) (a1 : Int32) : Int32 :=
  gl ((f_J9_max_7cf53 a0 a1) : Int32) fun v1 =>
  gl ((f_J9_min_7cf53 a0 a1) : Int32) fun v2 =>
  if v1 = 4 then
    if v2 = 2 then
      5
    else
    if v2 = 3 then
      5
    else
    v1
  else
  v1
theorem gm_X1_joined : g_M yX1_joined cX1_joined 4 (some .int) 2 := ⟨tw_2_3, tw_1_6, by decide +kernel, Or.inl (by decide +kernel)⟩
set_option maxHeartbeats 4000000 in
set_option maxRecDepth 100000 in
theorem c_X1_joined {l : Launch} {E : gE} {G : gG} {n : Nat} (a0 : Int32) (a1 : Int32) : g_Met l yX1_joined cX1_joined 4 (some .int) rm_X1_joined E G n [.int a0, .int a1] (some (.int (f_X1_joined a0 a1))) G n := by
  generalize h : f_X1_joined a0 a1 = r
  refine g_ofW gm_X1_joined (Nat.le_of_ble_eq_true rfl) ?_
  intro p e s m below meth c ls X hl hI
  have hx := X.1
  have hb := X.2.1
  have X : g_X E G n p s m _ meth c cX1_joined 4 RX1 "joined" (some .int) := X
  have hl : lv_has ls 4 [(0, .int a0), (1, .int a1)] := hl
  unfold f_X1_joined at h
  refine lv_iload_n hx hb dX1_joined_0 rfl (lv_at hl 0 rfl) ?_
  refine lv_iload_n hx hb dX1_joined_1 rfl (lv_at hl 1 rfl) ?_
  refine g_callS X hI (av := [.int a0, .int a1]) (c_J9_max_7cf53 a0 a1) gm_J9_max_7cf53 tw_2_4 tw_2_5 ⟨by decide, by decide⟩ hl.1 (rest := []) rfl (Nat.le_of_ble_eq_true rfl) dX1_joined_2 ⟨by decide, by decide⟩ (st1 := [.int (f_J9_max_7cf53 a0 a1)]) rfl (cells' := 0) (slots' := 0) rfl rfl (fun H locs hI => ?_)
  obtain ⟨v1, ev1, h⟩ := gl_s h
  refine g_topi ev1 ?_
  refine lv_istore_n (lv' := [(2, .int v1), (0, .int a0), (1, .int a1)]) hx hb dX1_joined_5 rfl hl (by decide) rfl (fun ls hl => ?_)
  refine lv_iload_n hx hb dX1_joined_6 rfl (lv_at hl 1 rfl) ?_
  refine lv_iload_n hx hb dX1_joined_7 rfl (lv_at hl 2 rfl) ?_
  refine g_callS X hI (av := [.int a0, .int a1]) (c_J9_min_7cf53 a0 a1) gm_J9_min_7cf53 tw_2_7 tw_2_8 ⟨by decide, by decide⟩ hl.1 (rest := []) rfl (Nat.le_of_ble_eq_true rfl) dX1_joined_8 ⟨by decide, by decide⟩ (st1 := [.int (f_J9_min_7cf53 a0 a1)]) rfl (cells' := 0) (slots' := 0) rfl rfl (fun H locs hI => ?_)
  obtain ⟨v2, ev2, h⟩ := gl_s h
  refine g_topi ev2 ?_
  refine lv_istore_n (lv' := [(3, .int v2), (2, .int v1), (0, .int a0), (1, .int a1)]) hx hb dX1_joined_11 rfl hl (by decide) rfl (fun ls hl => ?_)
  refine lv_iload_n hx hb dX1_joined_12 rfl (lv_at hl 1 rfl) ?_
  refine lv_iconst (v := 4) hx hb dX1_joined_13 (by decide) ?_
  refine lv_icmp_ne (tgt := 31) hx hb dX1_joined_14 (by decide) (fun c => ?_) (fun c => ?_)
  · have h := g_f _ c h
    refine lv_iload_n hx hb dX1_joined_31 rfl (lv_at hl 1 rfl) ?_
    subst h
    exact g_iret X hI dX1_joined_32
  · have h := g_t _ c h
    refine lv_iload_n hx hb dX1_joined_17 rfl (lv_at hl 0 rfl) ?_
    refine lv_iconst (v := 2) hx hb dX1_joined_18 (by decide) ?_
    refine lv_icmp_eq (tgt := 27) hx hb dX1_joined_19 (by decide) (fun c => ?_) (fun c => ?_)
    · have h := g_t _ c h
      refine lv_iconst (v := 5) hx hb dX1_joined_27 (by decide) ?_
      refine lv_goto (tgt := 32) hx hb dX1_joined_28 (by decide) ?_
      subst h
      exact g_iret X hI dX1_joined_32
    · have h := g_f _ c h
      refine lv_iload_n hx hb dX1_joined_22 rfl (lv_at hl 0 rfl) ?_
      refine lv_iconst (v := 3) hx hb dX1_joined_23 (by decide) ?_
      refine lv_icmp_ne (tgt := 31) hx hb dX1_joined_24 (by decide) (fun c => ?_) (fun c => ?_)
      · have h := g_f _ c h
        refine lv_iload_n hx hb dX1_joined_31 rfl (lv_at hl 1 rfl) ?_
        subst h
        exact g_iret X hI dX1_joined_32
      · have h := g_t _ c h
        refine lv_iconst (v := 5) hx hb dX1_joined_27 (by decide) ?_
        refine lv_goto (tgt := 32) hx hb dX1_joined_28 (by decide) ?_
        subst h
        exact g_iret X hI dX1_joined_32
abbrev rm_X1_mayHold : Room := { frames := 2, cells := 0, slots := 0, locals := 44 }
def f_X1_mayHold (a0 : Int32) (a1 : Int32) : Int32 :=
  if (f_X1_joined a0 a1) = a0 then
    1
  else
  0
theorem gm_X1_mayHold : g_M yX1_mayHold cX1_mayHold 2 (some .boolean) 2 := ⟨tw_2_209, tw_1_6, by decide +kernel, Or.inl (by decide +kernel)⟩
set_option maxHeartbeats 4000000 in
set_option maxRecDepth 100000 in
theorem c_X1_mayHold {l : Launch} {E : gE} {G : gG} {n : Nat} (a0 : Int32) (a1 : Int32) : g_Met l yX1_mayHold cX1_mayHold 2 (some .boolean) rm_X1_mayHold E G n [.int a0, .int a1] (some (.int (f_X1_mayHold a0 a1))) G n := by
  generalize h : f_X1_mayHold a0 a1 = r
  refine g_ofW gm_X1_mayHold (Nat.le_of_ble_eq_true rfl) ?_
  intro p e s m below meth c ls X hl hI
  have hx := X.1
  have hb := X.2.1
  have X : g_X E G n p s m _ meth c cX1_mayHold 2 RX1 "mayHold" (some .boolean) := X
  have hl : lv_has ls 2 [(0, .int a0), (1, .int a1)] := hl
  unfold f_X1_mayHold at h
  refine lv_iload_n hx hb dX1_mayHold_0 rfl (lv_at hl 0 rfl) ?_
  refine lv_iload_n hx hb dX1_mayHold_1 rfl (lv_at hl 1 rfl) ?_
  refine g_callS X hI (av := [.int a0, .int a1]) (c_X1_joined a0 a1) gm_X1_joined tw_2_1 tw_2_2 ⟨by decide, by decide⟩ hl.1 (rest := []) rfl (Nat.le_of_ble_eq_true rfl) dX1_mayHold_2 ⟨by decide, by decide⟩ (st1 := [.int (f_X1_joined a0 a1)]) rfl (cells' := 0) (slots' := 0) rfl rfl (fun H locs hI => ?_)
  refine lv_iload_n hx hb dX1_mayHold_5 rfl (lv_at hl 0 rfl) ?_
  refine lv_icmp_ne (tgt := 13) hx hb dX1_mayHold_6 (by decide) (fun c => ?_) (fun c => ?_)
  · have h := g_f _ c h
    refine lv_iconst (v := 0) hx hb dX1_mayHold_13 (by decide) ?_
    subst h
    exact g_zret X hI (Or.inl rfl) dX1_mayHold_14
  · have h := g_t _ c h
    refine lv_iconst (v := 1) hx hb dX1_mayHold_9 (by decide) ?_
    refine lv_goto (tgt := 14) hx hb dX1_mayHold_10 (by decide) ?_
    subst h
    exact g_zret X hI (Or.inr rfl) dX1_mayHold_14
abbrev rm_X1_ofAct : Room := { frames := 2, cells := 0, slots := 0, locals := 44 }
def f_X1_ofAct_63 (x3 : Int32) (s0 : Int32) : Int32 :=
  if x3 = 0 then
    if s0 = 0 then
      2
    else
    x3
  else
  x3
set_option maxHeartbeats 4000000 in
set_option maxRecDepth 100000 in
theorem b_X1_ofAct_63 {p : Program} {l : Launch} {e : Env} {s : State} {m : MethodId} {args : Array Value} {below : List Frame} {meth : Method} {c : Code} {E : gE} {G0 : gG} {n0 : Nat} (X : g_X E G0 n0 p s m args meth c cX1_ofAct 5 RX1 "ofAct" (some .int)) {G : gG} {n : Nat} {r : Int32} {H : Heap} {locs : List Loc} (hI : g_I E (g_A G0 n0) G n s.heap H locs) {x3 : Int32} {s0 : Int32} (h : f_X1_ofAct_63 x3 s0 = r) {ls : Array Slot} (hl : lv_has ls 5 [(3, .int x3)]) : W p l e rm_X1_ofAct s m args below meth c H locs 0 0 (MQ below (g_Q E G0 n0 (some (.int r)) G n) args s rm_X1_ofAct.cells rm_X1_ofAct.slots (g_A G0 n0)) (F0 m 63 ls [.int s0]) := by
  have hx := X.1
  have hb := X.2.1
  unfold f_X1_ofAct_63 at h
  refine lv_istore (lv' := [(4, .int s0), (3, .int x3)]) hx hb dX1_ofAct_63 hl (by decide) rfl (fun ls hl => ?_)
  refine lv_iload_n hx hb dX1_ofAct_65 rfl (lv_at hl 1 rfl) ?_
  refine lv_if_ne (tgt := 78) hx hb dX1_ofAct_66 (by decide) (fun c => ?_) (fun c => ?_)
  · have h := g_f _ c h
    refine lv_iload_n hx hb dX1_ofAct_78 rfl (lv_at hl 1 rfl) ?_
    subst h
    exact g_iret X hI dX1_ofAct_79
  · have h := g_t _ c h
    refine lv_iload hx hb dX1_ofAct_69 (lv_at hl 0 rfl) ?_
    refine lv_if_ne (tgt := 78) hx hb dX1_ofAct_71 (by decide) (fun c => ?_) (fun c => ?_)
    · have h := g_f _ c h
      refine lv_iload_n hx hb dX1_ofAct_78 rfl (lv_at hl 1 rfl) ?_
      subst h
      exact g_iret X hI dX1_ofAct_79
    · have h := g_t _ c h
      refine lv_iconst (v := 2) hx hb dX1_ofAct_74 (by decide) ?_
      refine lv_goto (tgt := 79) hx hb dX1_ofAct_75 (by decide) ?_
      subst h
      exact g_iret X hI dX1_ofAct_79
def f_X1_ofAct_58 (x3 : Int32) : Int32 :=
  f_X1_ofAct_63 x3 1
set_option maxHeartbeats 4000000 in
set_option maxRecDepth 100000 in
theorem b_X1_ofAct_58 {p : Program} {l : Launch} {e : Env} {s : State} {m : MethodId} {args : Array Value} {below : List Frame} {meth : Method} {c : Code} {E : gE} {G0 : gG} {n0 : Nat} (X : g_X E G0 n0 p s m args meth c cX1_ofAct 5 RX1 "ofAct" (some .int)) {G : gG} {n : Nat} {r : Int32} {H : Heap} {locs : List Loc} (hI : g_I E (g_A G0 n0) G n s.heap H locs) {x3 : Int32} (h : f_X1_ofAct_58 x3 = r) {ls : Array Slot} (hl : lv_has ls 5 [(3, .int x3)]) : W p l e rm_X1_ofAct s m args below meth c H locs 0 0 (MQ below (g_Q E G0 n0 (some (.int r)) G n) args s rm_X1_ofAct.cells rm_X1_ofAct.slots (g_A G0 n0)) (F0 m 58 ls []) := by
  have hx := X.1
  have hb := X.2.1
  unfold f_X1_ofAct_58 at h
  refine lv_iconst (v := 1) hx hb dX1_ofAct_58 (by decide) ?_
  refine lv_goto (tgt := 63) hx hb dX1_ofAct_59 (by decide) ?_
  exact b_X1_ofAct_63 X hI h (lv_sub hl [0] rfl)
def f_X1_ofAct_51 (x0 : Int32) (x3 : Int32) : Int32 :=
  if (f_X0_isComparison x0) = 0 then
    f_X1_ofAct_63 x3 0
  else
  f_X1_ofAct_58 x3
set_option maxHeartbeats 4000000 in
set_option maxRecDepth 100000 in
theorem b_X1_ofAct_51 {p : Program} {l : Launch} {e : Env} {s : State} {m : MethodId} {args : Array Value} {below : List Frame} {meth : Method} {c : Code} {E : gE} {G0 : gG} {n0 : Nat} (X : g_X E G0 n0 p s m args meth c cX1_ofAct 5 RX1 "ofAct" (some .int)) {G : gG} {n : Nat} {r : Int32} {H : Heap} {locs : List Loc} (hI : g_I E (g_A G0 n0) G n s.heap H locs) {x0 : Int32} {x3 : Int32} (h : f_X1_ofAct_51 x0 x3 = r) {ls : Array Slot} (hl : lv_has ls 5 [(0, .int x0), (3, .int x3)]) : W p l e rm_X1_ofAct s m args below meth c H locs 0 0 (MQ below (g_Q E G0 n0 (some (.int r)) G n) args s rm_X1_ofAct.cells rm_X1_ofAct.slots (g_A G0 n0)) (F0 m 51 ls []) := by
  have hx := X.1
  have hb := X.2.1
  unfold f_X1_ofAct_51 at h
  refine lv_iload_n hx hb dX1_ofAct_51 rfl (lv_at hl 0 rfl) ?_
  refine g_callS X hI (av := [.int x0]) (c_X0_isComparison x0) gm_X0_isComparison tw_2_13 tw_2_14 ⟨by decide, by decide⟩ hl.1 (rest := []) rfl (Nat.le_of_ble_eq_true rfl) dX1_ofAct_52 ⟨by decide, by decide⟩ (st1 := [.int (f_X0_isComparison x0)]) rfl (cells' := 0) (slots' := 0) rfl rfl (fun H locs hI => ?_)
  refine lv_if_eq (tgt := 62) hx hb dX1_ofAct_55 (by decide) (fun c => ?_) (fun c => ?_)
  · have h := g_t _ c h
    refine lv_iconst (v := 0) hx hb dX1_ofAct_62 (by decide) ?_
    exact b_X1_ofAct_63 X hI h (lv_sub hl [1] rfl)
  · have h := g_f _ c h
    exact b_X1_ofAct_58 X hI h (lv_sub hl [1] rfl)
def f_X1_ofAct (a0 : Int32) (a1 : Int32) (a2 : Int32) : Int32 :=
  gl ((f_X1_joined a1 a2) : Int32) fun v1 =>
  if (f_X1_isReal v1) = 0 then
    if a0 = 3 then
      5
    else
    if a0 < 8 then
      f_X1_ofAct_51 a0 v1
    else
    if a0 ≤ 14 then
      f_X1_ofAct_58 v1
    else
    f_X1_ofAct_51 a0 v1
  else
  if a0 < 12 then
    v1
  else
  if (17 : Int32) < a0 then
    v1
  else
  (-3)
theorem gm_X1_ofAct : g_M yX1_ofAct cX1_ofAct 5 (some .int) 3 := ⟨tw_2_0, tw_1_6, by decide +kernel, Or.inl (by decide +kernel)⟩
set_option maxHeartbeats 4000000 in
set_option maxRecDepth 100000 in
theorem c_X1_ofAct {l : Launch} {E : gE} {G : gG} {n : Nat} (a0 : Int32) (a1 : Int32) (a2 : Int32) : g_Met l yX1_ofAct cX1_ofAct 5 (some .int) rm_X1_ofAct E G n [.int a0, .int a1, .int a2] (some (.int (f_X1_ofAct a0 a1 a2))) G n := by
  generalize h : f_X1_ofAct a0 a1 a2 = r
  refine g_ofW gm_X1_ofAct (Nat.le_of_ble_eq_true rfl) ?_
  intro p e s m below meth c ls X hl hI
  have hx := X.1
  have hb := X.2.1
  have X : g_X E G n p s m _ meth c cX1_ofAct 5 RX1 "ofAct" (some .int) := X
  have hl : lv_has ls 5 [(0, .int a0), (1, .int a1), (2, .int a2)] := hl
  unfold f_X1_ofAct at h
  refine lv_iload_n hx hb dX1_ofAct_0 rfl (lv_at hl 1 rfl) ?_
  refine lv_iload_n hx hb dX1_ofAct_1 rfl (lv_at hl 2 rfl) ?_
  refine g_callS X hI (av := [.int a1, .int a2]) (c_X1_joined a1 a2) gm_X1_joined tw_2_1 tw_2_2 ⟨by decide, by decide⟩ hl.1 (rest := []) rfl (Nat.le_of_ble_eq_true rfl) dX1_ofAct_2 ⟨by decide, by decide⟩ (st1 := [.int (f_X1_joined a1 a2)]) rfl (cells' := 0) (slots' := 0) rfl rfl (fun H locs hI => ?_)
  obtain ⟨v1, ev1, h⟩ := gl_s h
  refine g_topi ev1 ?_
  refine lv_istore_n (lv' := [(3, .int v1), (0, .int a0), (1, .int a1), (2, .int a2)]) hx hb dX1_ofAct_5 rfl hl (by decide) rfl (fun ls hl => ?_)
  refine lv_iload_n hx hb dX1_ofAct_6 rfl (lv_at hl 0 rfl) ?_
  refine g_callS X hI (av := [.int v1]) (c_X1_isReal v1) gm_X1_isReal tw_2_10 tw_2_11 ⟨by decide, by decide⟩ hl.1 (rest := []) rfl (Nat.le_of_ble_eq_true rfl) dX1_ofAct_7 ⟨by decide, by decide⟩ (st1 := [.int (f_X1_isReal v1)]) rfl (cells' := 0) (slots' := 0) rfl rfl (fun H locs hI => ?_)
  refine lv_if_eq (tgt := 32) hx hb dX1_ofAct_10 (by decide) (fun c => ?_) (fun c => ?_)
  · have h := g_t _ c h
    refine lv_iload_n hx hb dX1_ofAct_32 rfl (lv_at hl 1 rfl) ?_
    refine lv_iconst (v := 3) hx hb dX1_ofAct_33 (by decide) ?_
    refine lv_icmp_ne (tgt := 39) hx hb dX1_ofAct_34 (by decide) (fun c => ?_) (fun c => ?_)
    · have h := g_f _ c h
      refine lv_iload_n hx hb dX1_ofAct_39 rfl (lv_at hl 1 rfl) ?_
      refine lv_bipush (v := 8) hx hb dX1_ofAct_40 (by decide) ?_
      refine lv_icmp_lt (tgt := 51) hx hb dX1_ofAct_42 (by decide) (fun c => ?_) (fun c => ?_)
      · have h := g_t _ c h
        exact b_X1_ofAct_51 X hI h (lv_sub hl [1, 0] rfl)
      · have h := g_f _ c h
        refine lv_iload_n hx hb dX1_ofAct_45 rfl (lv_at hl 1 rfl) ?_
        refine lv_bipush (v := 14) hx hb dX1_ofAct_46 (by decide) ?_
        refine lv_icmp_le (tgt := 58) hx hb dX1_ofAct_48 (by decide) (fun c => ?_) (fun c => ?_)
        · have h := g_t _ c h
          exact b_X1_ofAct_58 X hI h (lv_sub hl [0] rfl)
        · have h := g_f _ c h
          exact b_X1_ofAct_51 X hI h (lv_sub hl [1, 0] rfl)
    · have h := g_t _ c h
      refine lv_iconst (v := 5) hx hb dX1_ofAct_37 (by decide) ?_
      subst h
      exact g_iret X hI dX1_ofAct_38
  · have h := g_f _ c h
    refine lv_iload_n hx hb dX1_ofAct_13 rfl (lv_at hl 1 rfl) ?_
    refine lv_bipush (v := 12) hx hb dX1_ofAct_14 (by decide) ?_
    refine lv_icmp_lt (tgt := 30) hx hb dX1_ofAct_16 (by decide) (fun c => ?_) (fun c => ?_)
    · have h := g_t _ c h
      refine lv_iload_n hx hb dX1_ofAct_30 rfl (lv_at hl 0 rfl) ?_
      subst h
      exact g_iret X hI dX1_ofAct_31
    · have h := g_f _ c h
      refine lv_iload_n hx hb dX1_ofAct_19 rfl (lv_at hl 1 rfl) ?_
      refine lv_bipush (v := 17) hx hb dX1_ofAct_20 (by decide) ?_
      refine lv_icmp_gt (tgt := 30) hx hb dX1_ofAct_22 (by decide) (fun c => ?_) (fun c => ?_)
      · have h := g_t _ c h
        refine lv_iload_n hx hb dX1_ofAct_30 rfl (lv_at hl 0 rfl) ?_
        subst h
        exact g_iret X hI dX1_ofAct_31
      · have h := g_f _ c h
        refine lv_bipush (v := (-3)) hx hb dX1_ofAct_25 (by decide) ?_
        refine lv_goto (tgt := 31) hx hb dX1_ofAct_27 (by decide) ?_
        subst h
        exact g_iret X hI dX1_ofAct_31
abbrev rm_X1_ofResult : Room := { frames := 1, cells := 0, slots := 0, locals := 20 }
def f_X1_ofResult (a0 : Int32) (a1 : Int32) : Int32 :=
  if (f_X0_isComparison a0) = 0 then
    a1
  else
  0
theorem gm_X1_ofResult : g_M yX1_ofResult cX1_ofResult 2 (some .int) 2 := ⟨tw_2_198, tw_1_6, by decide +kernel, Or.inl (by decide +kernel)⟩
set_option maxHeartbeats 4000000 in
set_option maxRecDepth 100000 in
theorem c_X1_ofResult {l : Launch} {E : gE} {G : gG} {n : Nat} (a0 : Int32) (a1 : Int32) : g_Met l yX1_ofResult cX1_ofResult 2 (some .int) rm_X1_ofResult E G n [.int a0, .int a1] (some (.int (f_X1_ofResult a0 a1))) G n := by
  generalize h : f_X1_ofResult a0 a1 = r
  refine g_ofW gm_X1_ofResult (Nat.le_of_ble_eq_true rfl) ?_
  intro p e s m below meth c ls X hl hI
  have hx := X.1
  have hb := X.2.1
  have X : g_X E G n p s m _ meth c cX1_ofResult 2 RX1 "ofResult" (some .int) := X
  have hl : lv_has ls 2 [(0, .int a0), (1, .int a1)] := hl
  unfold f_X1_ofResult at h
  refine lv_iload_n hx hb dX1_ofResult_0 rfl (lv_at hl 0 rfl) ?_
  refine g_callS X hI (av := [.int a0]) (c_X0_isComparison a0) gm_X0_isComparison tw_2_13 tw_2_14 ⟨by decide, by decide⟩ hl.1 (rest := []) rfl (Nat.le_of_ble_eq_true rfl) dX1_ofResult_1 ⟨by decide, by decide⟩ (st1 := [.int (f_X0_isComparison a0)]) rfl (cells' := 0) (slots' := 0) rfl rfl (fun H locs hI => ?_)
  refine lv_if_eq (tgt := 11) hx hb dX1_ofResult_4 (by decide) (fun c => ?_) (fun c => ?_)
  · have h := g_t _ c h
    refine lv_iload_n hx hb dX1_ofResult_11 rfl (lv_at hl 1 rfl) ?_
    subst h
    exact g_iret X hI dX1_ofResult_12
  · have h := g_f _ c h
    refine lv_iconst (v := 0) hx hb dX1_ofResult_7 (by decide) ?_
    refine lv_goto (tgt := 12) hx hb dX1_ofResult_8 (by decide) ?_
    subst h
    exact g_iret X hI dX1_ofResult_12
abbrev rm_X1_ofOne : Room := { frames := 1, cells := 0, slots := 0, locals := 20 }
def f_X1_ofOne_16 (x0 : Int32) (x1 : Int32) : Int32 :=
  if x1 = 0 then
    if (2 : Int32) < x0 then
      x1
    else
    2
  else
  x1
set_option maxHeartbeats 4000000 in
set_option maxRecDepth 100000 in
theorem b_X1_ofOne_16 {p : Program} {l : Launch} {e : Env} {s : State} {m : MethodId} {args : Array Value} {below : List Frame} {meth : Method} {c : Code} {E : gE} {G0 : gG} {n0 : Nat} (X : g_X E G0 n0 p s m args meth c cX1_ofOne 2 RX1 "ofOne" (some .int)) {G : gG} {n : Nat} {r : Int32} {H : Heap} {locs : List Loc} (hI : g_I E (g_A G0 n0) G n s.heap H locs) {x0 : Int32} {x1 : Int32} (h : f_X1_ofOne_16 x0 x1 = r) {ls : Array Slot} (hl : lv_has ls 2 [(0, .int x0), (1, .int x1)]) : W p l e rm_X1_ofOne s m args below meth c H locs 0 0 (MQ below (g_Q E G0 n0 (some (.int r)) G n) args s rm_X1_ofOne.cells rm_X1_ofOne.slots (g_A G0 n0)) (F0 m 16 ls []) := by
  have hx := X.1
  have hb := X.2.1
  unfold f_X1_ofOne_16 at h
  refine lv_iload_n hx hb dX1_ofOne_16 rfl (lv_at hl 1 rfl) ?_
  refine lv_if_ne (tgt := 29) hx hb dX1_ofOne_17 (by decide) (fun c => ?_) (fun c => ?_)
  · have h := g_f _ c h
    refine lv_iload_n hx hb dX1_ofOne_29 rfl (lv_at hl 1 rfl) ?_
    subst h
    exact g_iret X hI dX1_ofOne_30
  · have h := g_t _ c h
    refine lv_iload_n hx hb dX1_ofOne_20 rfl (lv_at hl 0 rfl) ?_
    refine lv_iconst (v := 2) hx hb dX1_ofOne_21 (by decide) ?_
    refine lv_icmp_gt (tgt := 29) hx hb dX1_ofOne_22 (by decide) (fun c => ?_) (fun c => ?_)
    · have h := g_t _ c h
      refine lv_iload_n hx hb dX1_ofOne_29 rfl (lv_at hl 1 rfl) ?_
      subst h
      exact g_iret X hI dX1_ofOne_30
    · have h := g_f _ c h
      refine lv_iconst (v := 2) hx hb dX1_ofOne_25 (by decide) ?_
      refine lv_goto (tgt := 30) hx hb dX1_ofOne_26 (by decide) ?_
      subst h
      exact g_iret X hI dX1_ofOne_30
def f_X1_ofOne (a0 : Int32) (a1 : Int32) : Int32 :=
  if a0 = 7 then
    if (f_X1_isReal a1) = 0 then
      f_X1_ofOne_16 a0 a1
    else
    (-3)
  else
  f_X1_ofOne_16 a0 a1
theorem gm_X1_ofOne : g_M yX1_ofOne cX1_ofOne 2 (some .int) 2 := ⟨tw_2_223, tw_1_6, by decide +kernel, Or.inl (by decide +kernel)⟩
set_option maxHeartbeats 4000000 in
set_option maxRecDepth 100000 in
theorem c_X1_ofOne {l : Launch} {E : gE} {G : gG} {n : Nat} (a0 : Int32) (a1 : Int32) : g_Met l yX1_ofOne cX1_ofOne 2 (some .int) rm_X1_ofOne E G n [.int a0, .int a1] (some (.int (f_X1_ofOne a0 a1))) G n := by
  generalize h : f_X1_ofOne a0 a1 = r
  refine g_ofW gm_X1_ofOne (Nat.le_of_ble_eq_true rfl) ?_
  intro p e s m below meth c ls X hl hI
  have hx := X.1
  have hb := X.2.1
  have X : g_X E G n p s m _ meth c cX1_ofOne 2 RX1 "ofOne" (some .int) := X
  have hl : lv_has ls 2 [(0, .int a0), (1, .int a1)] := hl
  unfold f_X1_ofOne at h
  refine lv_iload_n hx hb dX1_ofOne_0 rfl (lv_at hl 0 rfl) ?_
  refine lv_bipush (v := 7) hx hb dX1_ofOne_1 (by decide) ?_
  refine lv_icmp_ne (tgt := 16) hx hb dX1_ofOne_3 (by decide) (fun c => ?_) (fun c => ?_)
  · have h := g_f _ c h
    exact b_X1_ofOne_16 X hI h (lv_sub hl [0, 1] rfl)
  · have h := g_t _ c h
    refine lv_iload_n hx hb dX1_ofOne_6 rfl (lv_at hl 1 rfl) ?_
    refine g_callS X hI (av := [.int a1]) (c_X1_isReal a1) gm_X1_isReal tw_2_10 tw_2_11 ⟨by decide, by decide⟩ hl.1 (rest := []) rfl (Nat.le_of_ble_eq_true rfl) dX1_ofOne_7 ⟨by decide, by decide⟩ (st1 := [.int (f_X1_isReal a1)]) rfl (cells' := 0) (slots' := 0) rfl rfl (fun H locs hI => ?_)
    refine lv_if_eq (tgt := 16) hx hb dX1_ofOne_10 (by decide) (fun c => ?_) (fun c => ?_)
    · have h := g_t _ c h
      exact b_X1_ofOne_16 X hI h (lv_sub hl [0, 1] rfl)
    · have h := g_f _ c h
      refine lv_bipush (v := (-3)) hx hb dX1_ofOne_13 (by decide) ?_
      subst h
      exact g_iret X hI dX1_ofOne_15
