abbrev rm_X6_in : Room := { frames := 0, cells := 0, slots := 0, locals := 0 }
def f_X6_in (a0 : Int64) (a2 : Int64) (a4 : Int64) : Int32 :=
  if a0 < a2 then
    0
  else
  if a4 < a0 then
    0
  else
  1
theorem gm_X6_in : g_M yX6_in cX6_in 6 (some .boolean) 3 := ⟨tw_3_102, tw_1_5, by decide +kernel, Or.inl (by decide +kernel)⟩
set_option maxHeartbeats 4000000 in
set_option maxRecDepth 100000 in
theorem c_X6_in {l : Launch} {E : gE} {G : gG} {n : Nat} (a0 : Int64) (a2 : Int64) (a4 : Int64) : g_Met l yX6_in cX6_in 6 (some .boolean) rm_X6_in E G n [.long a0, .long a2, .long a4] (some (.int (f_X6_in a0 a2 a4))) G n := by
  generalize h : f_X6_in a0 a2 a4 = r
  refine g_ofW gm_X6_in (Nat.le_of_ble_eq_true rfl) ?_
  intro p e s m below meth c ls X hl hI
  have hx := X.1
  have hb := X.2.1
  have X : g_X E G n p s m _ meth c cX6_in 6 RX6 "in" (some .boolean) := X
  have hl : lv_has ls 6 [(0, .long a0), (2, .long a2), (4, .long a4)] := hl
  unfold f_X6_in at h
  refine lv_lload_n hx hb dX6_in_0 rfl (lv_at hl 0 rfl) ?_
  refine lv_lload_n hx hb dX6_in_1 rfl (lv_at hl 1 rfl) ?_
  refine W.lcmp hx hb dX6_in_2 ?_
  refine lv_if_lt (tgt := 17) hx hb dX6_in_3 (by decide) (fun c => ?_) (fun c => ?_)
  · have h := g_t _ ((lg_cmp_lt _ _).mp c) h
    refine lv_iconst (v := 0) hx hb dX6_in_17 (by decide) ?_
    subst h
    exact g_zret X hI (Or.inl rfl) dX6_in_18
  · have h := g_f _ (fun q => c ((lg_cmp_lt _ _).mpr q)) h
    refine lv_lload_n hx hb dX6_in_6 rfl (lv_at hl 0 rfl) ?_
    refine lv_lload hx hb dX6_in_7 (lv_at hl 2 rfl) ?_
    refine W.lcmp hx hb dX6_in_9 ?_
    refine lv_if_gt (tgt := 17) hx hb dX6_in_10 (by decide) (fun c => ?_) (fun c => ?_)
    · have h := g_t _ ((lg_cmp_gt _ _).mp c) h
      refine lv_iconst (v := 0) hx hb dX6_in_17 (by decide) ?_
      subst h
      exact g_zret X hI (Or.inl rfl) dX6_in_18
    · have h := g_f _ (fun q => c ((lg_cmp_gt _ _).mpr q)) h
      refine lv_iconst (v := 1) hx hb dX6_in_13 (by decide) ?_
      refine lv_goto (tgt := 18) hx hb dX6_in_14 (by decide) ?_
      subst h
      exact g_zret X hI (Or.inr rfl) dX6_in_18
abbrev rm_X6_digitsOf : Room := { frames := 0, cells := 0, slots := 0, locals := 0 }
def f_X6_digitsOf (a0 : Int32) : Int32 :=
  if a0 = 4 then
    24
  else
  53
theorem gm_X6_digitsOf : g_M yX6_digitsOf cX6_digitsOf 1 (some .int) 1 := ⟨tw_3_213, tw_1_5, by decide +kernel, Or.inl (by decide +kernel)⟩
set_option maxHeartbeats 4000000 in
set_option maxRecDepth 100000 in
theorem c_X6_digitsOf {l : Launch} {E : gE} {G : gG} {n : Nat} (a0 : Int32) : g_Met l yX6_digitsOf cX6_digitsOf 1 (some .int) rm_X6_digitsOf E G n [.int a0] (some (.int (f_X6_digitsOf a0))) G n := by
  generalize h : f_X6_digitsOf a0 = r
  refine g_ofW gm_X6_digitsOf (Nat.le_of_ble_eq_true rfl) ?_
  intro p e s m below meth c ls X hl hI
  have hx := X.1
  have hb := X.2.1
  have X : g_X E G n p s m _ meth c cX6_digitsOf 1 RX6 "digitsOf" (some .int) := X
  have hl : lv_has ls 1 [(0, .int a0)] := hl
  unfold f_X6_digitsOf at h
  refine lv_iload_n hx hb dX6_digitsOf_0 rfl (lv_at hl 0 rfl) ?_
  refine lv_iconst (v := 4) hx hb dX6_digitsOf_1 (by decide) ?_
  refine lv_icmp_ne (tgt := 10) hx hb dX6_digitsOf_2 (by decide) (fun c => ?_) (fun c => ?_)
  · have h := g_f _ c h
    refine lv_bipush (v := 53) hx hb dX6_digitsOf_10 (by decide) ?_
    subst h
    exact g_iret X hI dX6_digitsOf_12
  · have h := g_t _ c h
    refine lv_bipush (v := 24) hx hb dX6_digitsOf_5 (by decide) ?_
    refine lv_goto (tgt := 12) hx hb dX6_digitsOf_7 (by decide) ?_
    subst h
    exact g_iret X hI dX6_digitsOf_12
abbrev rm_X6_leastOf : Room := { frames := 0, cells := 0, slots := 0, locals := 0 }
def f_X6_leastOf (a0 : Int32) : Int32 :=
  if a0 = 4 then
    (-149)
  else
  (-1074)
theorem gm_X6_leastOf : g_M yX6_leastOf cX6_leastOf 1 (some .int) 1 := ⟨tw_3_216, tw_1_5, by decide +kernel, Or.inl (by decide +kernel)⟩
set_option maxHeartbeats 4000000 in
set_option maxRecDepth 100000 in
theorem c_X6_leastOf {l : Launch} {E : gE} {G : gG} {n : Nat} (a0 : Int32) : g_Met l yX6_leastOf cX6_leastOf 1 (some .int) rm_X6_leastOf E G n [.int a0] (some (.int (f_X6_leastOf a0))) G n := by
  generalize h : f_X6_leastOf a0 = r
  refine g_ofW gm_X6_leastOf (Nat.le_of_ble_eq_true rfl) ?_
  intro p e s m below meth c ls X hl hI
  have hx := X.1
  have hb := X.2.1
  have X : g_X E G n p s m _ meth c cX6_leastOf 1 RX6 "leastOf" (some .int) := X
  have hl : lv_has ls 1 [(0, .int a0)] := hl
  unfold f_X6_leastOf at h
  refine lv_iload_n hx hb dX6_leastOf_0 rfl (lv_at hl 0 rfl) ?_
  refine lv_iconst (v := 4) hx hb dX6_leastOf_1 (by decide) ?_
  refine lv_icmp_ne (tgt := 11) hx hb dX6_leastOf_2 (by decide) (fun c => ?_) (fun c => ?_)
  · have h := g_f _ c h
    refine lv_sipush (v := (-1074)) hx hb dX6_leastOf_11 (by decide) ?_
    subst h
    exact g_iret X hI dX6_leastOf_14
  · have h := g_t _ c h
    refine lv_sipush (v := (-149)) hx hb dX6_leastOf_5 (by decide) ?_
    refine lv_goto (tgt := 14) hx hb dX6_leastOf_8 (by decide) ?_
    subst h
    exact g_iret X hI dX6_leastOf_14
abbrev rm_X6_topOf : Room := { frames := 0, cells := 0, slots := 0, locals := 0 }
def f_X6_topOf (a0 : Int32) : Int32 :=
  if a0 = 4 then
    127
  else
  1023
theorem gm_X6_topOf : g_M yX6_topOf cX6_topOf 1 (some .int) 1 := ⟨tw_3_219, tw_1_5, by decide +kernel, Or.inl (by decide +kernel)⟩
set_option maxHeartbeats 4000000 in
set_option maxRecDepth 100000 in
theorem c_X6_topOf {l : Launch} {E : gE} {G : gG} {n : Nat} (a0 : Int32) : g_Met l yX6_topOf cX6_topOf 1 (some .int) rm_X6_topOf E G n [.int a0] (some (.int (f_X6_topOf a0))) G n := by
  generalize h : f_X6_topOf a0 = r
  refine g_ofW gm_X6_topOf (Nat.le_of_ble_eq_true rfl) ?_
  intro p e s m below meth c ls X hl hI
  have hx := X.1
  have hb := X.2.1
  have X : g_X E G n p s m _ meth c cX6_topOf 1 RX6 "topOf" (some .int) := X
  have hl : lv_has ls 1 [(0, .int a0)] := hl
  unfold f_X6_topOf at h
  refine lv_iload_n hx hb dX6_topOf_0 rfl (lv_at hl 0 rfl) ?_
  refine lv_iconst (v := 4) hx hb dX6_topOf_1 (by decide) ?_
  refine lv_icmp_ne (tgt := 10) hx hb dX6_topOf_2 (by decide) (fun c => ?_) (fun c => ?_)
  · have h := g_f _ c h
    refine lv_sipush (v := 1023) hx hb dX6_topOf_10 (by decide) ?_
    subst h
    exact g_iret X hI dX6_topOf_13
  · have h := g_t _ c h
    refine lv_bipush (v := 127) hx hb dX6_topOf_5 (by decide) ?_
    refine lv_goto (tgt := 13) hx hb dX6_topOf_7 (by decide) ?_
    subst h
    exact g_iret X hI dX6_topOf_13
abbrev rm_X6_isNan : Room := { frames := 0, cells := 0, slots := 0, locals := 0 }
def f_X6_isNan (a0 : Int64) : Int32 :=
  if (a0 &&& 9223372036854775807) ≤ 9218868437227405312 then
    0
  else
  1
theorem gm_X6_isNan : g_M yX6_isNan cX6_isNan 2 (some .boolean) 1 := ⟨tw_3_139, tw_1_5, by decide +kernel, Or.inl (by decide +kernel)⟩
set_option maxHeartbeats 4000000 in
set_option maxRecDepth 100000 in
theorem c_X6_isNan {l : Launch} {E : gE} {G : gG} {n : Nat} (a0 : Int64) : g_Met l yX6_isNan cX6_isNan 2 (some .boolean) rm_X6_isNan E G n [.long a0] (some (.int (f_X6_isNan a0))) G n := by
  generalize h : f_X6_isNan a0 = r
  refine g_ofW gm_X6_isNan (Nat.le_of_ble_eq_true rfl) ?_
  intro p e s m below meth c ls X hl hI
  have hx := X.1
  have hb := X.2.1
  have X : g_X E G n p s m _ meth c cX6_isNan 2 RX6 "isNan" (some .boolean) := X
  have hl : lv_has ls 2 [(0, .long a0)] := hl
  unfold f_X6_isNan at h
  refine lv_lload_n hx hb dX6_isNan_0 rfl (lv_at hl 0 rfl) ?_
  refine lv_ldc2 (v := 9223372036854775807) hx hb X.2.2.2.1 (X.2.2.2.2.1 _ tw_3_140) dX6_isNan_1 ?_
  refine lv_land (x := a0) (y := 9223372036854775807) hx hb dX6_isNan_4 ?_
  refine lv_ldc2 (v := 9218868437227405312) hx hb X.2.2.2.1 (X.2.2.2.2.1 _ tw_3_141) dX6_isNan_5 ?_
  refine W.lcmp hx hb dX6_isNan_8 ?_
  refine lv_if_le (tgt := 16) hx hb dX6_isNan_9 (by decide) (fun c => ?_) (fun c => ?_)
  · have h := g_t _ ((lg_cmp_le _ _).mp c) h
    refine lv_iconst (v := 0) hx hb dX6_isNan_16 (by decide) ?_
    subst h
    exact g_zret X hI (Or.inl rfl) dX6_isNan_17
  · have h := g_f _ (fun q => c ((lg_cmp_le _ _).mpr q)) h
    refine lv_iconst (v := 1) hx hb dX6_isNan_12 (by decide) ?_
    refine lv_goto (tgt := 17) hx hb dX6_isNan_13 (by decide) ?_
    subst h
    exact g_zret X hI (Or.inr rfl) dX6_isNan_17
abbrev rm_X6_isInfinite : Room := { frames := 0, cells := 0, slots := 0, locals := 0 }
def f_X6_isInfinite (a0 : Int64) : Int32 :=
  if (a0 &&& 9223372036854775807) = 9218868437227405312 then
    1
  else
  0
theorem gm_X6_isInfinite : g_M yX6_isInfinite cX6_isInfinite 2 (some .boolean) 1 := ⟨tw_3_231, tw_1_5, by decide +kernel, Or.inl (by decide +kernel)⟩
set_option maxHeartbeats 4000000 in
set_option maxRecDepth 100000 in
theorem c_X6_isInfinite {l : Launch} {E : gE} {G : gG} {n : Nat} (a0 : Int64) : g_Met l yX6_isInfinite cX6_isInfinite 2 (some .boolean) rm_X6_isInfinite E G n [.long a0] (some (.int (f_X6_isInfinite a0))) G n := by
  generalize h : f_X6_isInfinite a0 = r
  refine g_ofW gm_X6_isInfinite (Nat.le_of_ble_eq_true rfl) ?_
  intro p e s m below meth c ls X hl hI
  have hx := X.1
  have hb := X.2.1
  have X : g_X E G n p s m _ meth c cX6_isInfinite 2 RX6 "isInfinite" (some .boolean) := X
  have hl : lv_has ls 2 [(0, .long a0)] := hl
  unfold f_X6_isInfinite at h
  refine lv_lload_n hx hb dX6_isInfinite_0 rfl (lv_at hl 0 rfl) ?_
  refine lv_ldc2 (v := 9223372036854775807) hx hb X.2.2.2.1 (X.2.2.2.2.1 _ tw_3_140) dX6_isInfinite_1 ?_
  refine lv_land (x := a0) (y := 9223372036854775807) hx hb dX6_isInfinite_4 ?_
  refine lv_ldc2 (v := 9218868437227405312) hx hb X.2.2.2.1 (X.2.2.2.2.1 _ tw_3_141) dX6_isInfinite_5 ?_
  refine W.lcmp hx hb dX6_isInfinite_8 ?_
  refine lv_if_ne (tgt := 16) hx hb dX6_isInfinite_9 (by decide) (fun c => ?_) (fun c => ?_)
  · have h := g_f _ ((not_congr (lg_cmp_eq _ _)).mp c) h
    refine lv_iconst (v := 0) hx hb dX6_isInfinite_16 (by decide) ?_
    subst h
    exact g_zret X hI (Or.inl rfl) dX6_isInfinite_17
  · have h := g_t _ ((lg_cmp_eq _ _).mp c) h
    refine lv_iconst (v := 1) hx hb dX6_isInfinite_12 (by decide) ?_
    refine lv_goto (tgt := 17) hx hb dX6_isInfinite_13 (by decide) ?_
    subst h
    exact g_zret X hI (Or.inr rfl) dX6_isInfinite_17
abbrev rm_X6_isZero : Room := { frames := 0, cells := 0, slots := 0, locals := 0 }
def f_X6_isZero (a0 : Int64) : Int32 :=
  if (a0 &&& 9223372036854775807) = 0 then
    1
  else
  0
theorem gm_X6_isZero : g_M yX6_isZero cX6_isZero 2 (some .boolean) 1 := ⟨tw_4_3, tw_1_5, by decide +kernel, Or.inl (by decide +kernel)⟩
set_option maxHeartbeats 4000000 in
set_option maxRecDepth 100000 in
theorem c_X6_isZero {l : Launch} {E : gE} {G : gG} {n : Nat} (a0 : Int64) : g_Met l yX6_isZero cX6_isZero 2 (some .boolean) rm_X6_isZero E G n [.long a0] (some (.int (f_X6_isZero a0))) G n := by
  generalize h : f_X6_isZero a0 = r
  refine g_ofW gm_X6_isZero (Nat.le_of_ble_eq_true rfl) ?_
  intro p e s m below meth c ls X hl hI
  have hx := X.1
  have hb := X.2.1
  have X : g_X E G n p s m _ meth c cX6_isZero 2 RX6 "isZero" (some .boolean) := X
  have hl : lv_has ls 2 [(0, .long a0)] := hl
  unfold f_X6_isZero at h
  refine lv_lload_n hx hb dX6_isZero_0 rfl (lv_at hl 0 rfl) ?_
  refine lv_ldc2 (v := 9223372036854775807) hx hb X.2.2.2.1 (X.2.2.2.2.1 _ tw_3_140) dX6_isZero_1 ?_
  refine lv_land (x := a0) (y := 9223372036854775807) hx hb dX6_isZero_4 ?_
  refine lv_lconst (v := 0) hx hb dX6_isZero_5 (by decide) ?_
  refine W.lcmp hx hb dX6_isZero_6 ?_
  refine lv_if_ne (tgt := 14) hx hb dX6_isZero_7 (by decide) (fun c => ?_) (fun c => ?_)
  · have h := g_f _ ((not_congr (lg_cmp_eq _ _)).mp c) h
    refine lv_iconst (v := 0) hx hb dX6_isZero_14 (by decide) ?_
    subst h
    exact g_zret X hI (Or.inl rfl) dX6_isZero_15
  · have h := g_t _ ((lg_cmp_eq _ _).mp c) h
    refine lv_iconst (v := 1) hx hb dX6_isZero_10 (by decide) ?_
    refine lv_goto (tgt := 15) hx hb dX6_isZero_11 (by decide) ?_
    subst h
    exact g_zret X hI (Or.inr rfl) dX6_isZero_15
abbrev rm_X6_mantissa : Room := { frames := 0, cells := 0, slots := 0, locals := 0 }
def f_X6_mantissa (a0 : Int64) : Int64 :=
  gl ((a0 &&& 4503599627370495) : Int64) fun v1 =>
  if ((g_lushr a0 52) &&& 2047) = 0 then
    v1
  else
  (v1 ||| 4503599627370496)
theorem gm_X6_mantissa : g_M yX6_mantissa cX6_mantissa 4 (some .long) 1 := ⟨tw_3_235, tw_1_5, by decide +kernel, Or.inl (by decide +kernel)⟩
set_option maxHeartbeats 4000000 in
set_option maxRecDepth 100000 in
theorem c_X6_mantissa {l : Launch} {E : gE} {G : gG} {n : Nat} (a0 : Int64) : g_Met l yX6_mantissa cX6_mantissa 4 (some .long) rm_X6_mantissa E G n [.long a0] (some (.long (f_X6_mantissa a0))) G n := by
  generalize h : f_X6_mantissa a0 = r
  refine g_ofW gm_X6_mantissa (Nat.le_of_ble_eq_true rfl) ?_
  intro p e s m below meth c ls X hl hI
  have hx := X.1
  have hb := X.2.1
  have X : g_X E G n p s m _ meth c cX6_mantissa 4 RX6 "mantissa" (some .long) := X
  have hl : lv_has ls 4 [(0, .long a0)] := hl
  unfold f_X6_mantissa at h
  refine lv_lload_n hx hb dX6_mantissa_0 rfl (lv_at hl 0 rfl) ?_
  refine lv_ldc2 (v := 4503599627370495) hx hb X.2.2.2.1 (X.2.2.2.2.1 _ tw_3_223) dX6_mantissa_1 ?_
  refine lv_land (x := a0) (y := 4503599627370495) hx hb dX6_mantissa_4 ?_
  obtain ⟨v1, ev1, h⟩ := gl_s h
  refine g_topl ev1 ?_
  refine lv_lstore_n (lv' := [(2, .long v1), (0, .long a0)]) hx hb dX6_mantissa_5 rfl hl (by decide) rfl (fun ls hl => ?_)
  refine lv_lload_n hx hb dX6_mantissa_6 rfl (lv_at hl 1 rfl) ?_
  refine lv_bipush (v := 52) hx hb dX6_mantissa_7 (by decide) ?_
  refine lv_lushr (v := (g_lushr a0 52)) hx hb dX6_mantissa_9 rfl ?_
  refine lv_ldc2 (v := 2047) hx hb X.2.2.2.1 (X.2.2.2.2.1 _ tw_3_236) dX6_mantissa_10 ?_
  refine lv_land (x := (g_lushr a0 52)) (y := 2047) hx hb dX6_mantissa_13 ?_
  refine lv_lconst (v := 0) hx hb dX6_mantissa_14 (by decide) ?_
  refine W.lcmp hx hb dX6_mantissa_15 ?_
  refine lv_if_ne (tgt := 23) hx hb dX6_mantissa_16 (by decide) (fun c => ?_) (fun c => ?_)
  · have h := g_f _ ((not_congr (lg_cmp_eq _ _)).mp c) h
    refine lv_lload_n hx hb dX6_mantissa_23 rfl (lv_at hl 0 rfl) ?_
    refine lv_ldc2 (v := 4503599627370496) hx hb X.2.2.2.1 (X.2.2.2.2.1 _ tw_3_237) dX6_mantissa_24 ?_
    refine lv_lor (x := v1) (y := 4503599627370496) hx hb dX6_mantissa_27 ?_
    subst h
    exact g_lret X hI dX6_mantissa_28
  · have h := g_t _ ((lg_cmp_eq _ _).mp c) h
    refine lv_lload_n hx hb dX6_mantissa_19 rfl (lv_at hl 0 rfl) ?_
    refine lv_goto (tgt := 28) hx hb dX6_mantissa_20 (by decide) ?_
    subst h
    exact g_lret X hI dX6_mantissa_28
abbrev rm_X6_exponent : Room := { frames := 0, cells := 0, slots := 0, locals := 0 }
def f_X6_exponent (a0 : Int64) : Int32 :=
  gl ((Int64.toInt32 ((g_lushr a0 52) &&& 2047)) : Int32) fun v1 =>
  if v1 = 0 then
    (-1074)
  else
  (v1 - 1075)
theorem gm_X6_exponent : g_M yX6_exponent cX6_exponent 3 (some .int) 1 := ⟨tw_4_0, tw_1_5, by decide +kernel, Or.inl (by decide +kernel)⟩
set_option maxHeartbeats 4000000 in
set_option maxRecDepth 100000 in
theorem c_X6_exponent {l : Launch} {E : gE} {G : gG} {n : Nat} (a0 : Int64) : g_Met l yX6_exponent cX6_exponent 3 (some .int) rm_X6_exponent E G n [.long a0] (some (.int (f_X6_exponent a0))) G n := by
  generalize h : f_X6_exponent a0 = r
  refine g_ofW gm_X6_exponent (Nat.le_of_ble_eq_true rfl) ?_
  intro p e s m below meth c ls X hl hI
  have hx := X.1
  have hb := X.2.1
  have X : g_X E G n p s m _ meth c cX6_exponent 3 RX6 "exponent" (some .int) := X
  have hl : lv_has ls 3 [(0, .long a0)] := hl
  unfold f_X6_exponent at h
  refine lv_lload_n hx hb dX6_exponent_0 rfl (lv_at hl 0 rfl) ?_
  refine lv_bipush (v := 52) hx hb dX6_exponent_1 (by decide) ?_
  refine lv_lushr (v := (g_lushr a0 52)) hx hb dX6_exponent_3 rfl ?_
  refine lv_ldc2 (v := 2047) hx hb X.2.2.2.1 (X.2.2.2.2.1 _ tw_3_236) dX6_exponent_4 ?_
  refine lv_land (x := (g_lushr a0 52)) (y := 2047) hx hb dX6_exponent_7 ?_
  refine lv_l2i (v := (Int64.toInt32 ((g_lushr a0 52) &&& 2047))) hx hb dX6_exponent_8 rfl ?_
  obtain ⟨v1, ev1, h⟩ := gl_s h
  refine g_topi ev1 ?_
  refine lv_istore_n (lv' := [(2, .int v1), (0, .long a0)]) hx hb dX6_exponent_9 rfl hl (by decide) rfl (fun ls hl => ?_)
  refine lv_iload_n hx hb dX6_exponent_10 rfl (lv_at hl 0 rfl) ?_
  refine lv_if_ne (tgt := 20) hx hb dX6_exponent_11 (by decide) (fun c => ?_) (fun c => ?_)
  · have h := g_f _ c h
    refine lv_iload_n hx hb dX6_exponent_20 rfl (lv_at hl 0 rfl) ?_
    refine lv_sipush (v := 1075) hx hb dX6_exponent_21 (by decide) ?_
    refine lv_isub (x := v1) (y := 1075) hx hb dX6_exponent_24 ?_
    subst h
    exact g_iret X hI dX6_exponent_25
  · have h := g_t _ c h
    refine lv_sipush (v := (-1074)) hx hb dX6_exponent_14 (by decide) ?_
    refine lv_goto (tgt := 25) hx hb dX6_exponent_17 (by decide) ?_
    subst h
    exact g_iret X hI dX6_exponent_25
abbrev rm_X6_length : Room := { frames := 0, cells := 0, slots := 0, locals := 0 }
def f_X6_length_4 : Nat → Int32 → Int64 → Option Int32
  | 0, _, _ => none
  | fu + 1, x2, x3 =>
    if x3 = 0 then
      some x2
    else
    gl ((g_lushr x3 1) : Int64) fun v1 =>
    gl (x2 + 1 : Int32) fun v2 =>
    f_X6_length_4 fu v2 v1
set_option maxHeartbeats 4000000 in
set_option maxRecDepth 100000 in
theorem b_X6_length_4 {p : Program} {l : Launch} {e : Env} {s : State} {m : MethodId} {args : Array Value} {below : List Frame} {meth : Method} {c : Code} {E : gE} {G0 : gG} {n0 : Nat} (X : g_X E G0 n0 p s m args meth c cX6_length 5 RX6 "length" (some .int)) {G : gG} {n : Nat} {r : Int32} (fu : Nat) : ∀ {H : Heap} {locs : List Loc} (_ : g_I E (g_A G0 n0) G n s.heap H locs) {x2 : Int32} {x3 : Int64} (_ : f_X6_length_4 fu x2 x3 = some r) {ls : Array Slot} (_ : lv_has ls 5 [(2, .int x2), (3, .long x3)]), W p l e rm_X6_length s m args below meth c H locs 0 0 (MQ below (g_Q E G0 n0 (some (.int r)) G n) args s rm_X6_length.cells rm_X6_length.slots (g_A G0 n0)) (F0 m 4 ls []) := by
  have hx := X.1
  have hb := X.2.1
  induction fu with
  | zero =>
    intro H locs hI x2 x3 h ls hl
    rw [f_X6_length_4] at h
    cases h
  | succ fu ih =>
    intro H locs hI x2 x3 h ls hl
    rw [f_X6_length_4] at h
    refine lv_lload_n hx hb dX6_length_4 rfl (lv_at hl 1 rfl) ?_
    refine lv_lconst (v := 0) hx hb dX6_length_5 (by decide) ?_
    refine W.lcmp hx hb dX6_length_6 ?_
    refine lv_if_eq (tgt := 20) hx hb dX6_length_7 (by decide) (fun c => ?_) (fun c => ?_)
    · have h := g_t _ ((lg_cmp_eq _ _).mp c) h
      refine lv_iload_n hx hb dX6_length_20 rfl (lv_at hl 0 rfl) ?_
      have h := Option.some.inj h
      subst h
      exact g_iret X hI dX6_length_21
    · have h := g_f _ (fun q => c ((lg_cmp_eq _ _).mpr q)) h
      refine lv_lload_n hx hb dX6_length_10 rfl (lv_at hl 1 rfl) ?_
      refine lv_iconst (v := 1) hx hb dX6_length_11 (by decide) ?_
      refine lv_lushr (v := (g_lushr x3 1)) hx hb dX6_length_12 rfl ?_
      obtain ⟨v1, ev1, h⟩ := gl_s h
      refine g_topl ev1 ?_
      refine lv_lstore_n (lv' := [(3, .long v1), (2, .int x2)]) hx hb dX6_length_13 rfl hl (by decide) rfl (fun ls hl => ?_)
      obtain ⟨v2, ev2, h⟩ := gl_s h
      refine lv_iinc (v := v2) (lv' := [(2, .int v2), (3, .long v1)]) hx hb dX6_length_14 hl (k := 1) rfl (by rw [← ev2]; rfl) (by decide) rfl (fun ls hl => ?_)
      refine lv_goto (tgt := 4) hx hb dX6_length_17 (by decide) ?_
      exact ih hI h (lv_sub hl [0, 1] rfl)
def f_X6_length (a0 : Int64) : Option Int32 :=
  f_X6_length_4 5000 0 a0
theorem gm_X6_length : g_M yX6_length cX6_length 5 (some .int) 1 := ⟨tw_3_203, tw_1_5, by decide +kernel, Or.inl (by decide +kernel)⟩
set_option maxHeartbeats 4000000 in
set_option maxRecDepth 100000 in
theorem c_X6_length {l : Launch} {E : gE} {G : gG} {n : Nat} {a0 : Int64} {r : Int32} (h : f_X6_length a0 = some r) : g_Met l yX6_length cX6_length 5 (some .int) rm_X6_length E G n [.long a0] (some (.int r)) G n := by
  refine g_ofW gm_X6_length (Nat.le_of_ble_eq_true rfl) ?_
  intro p e s m below meth c ls X hl hI
  have hx := X.1
  have hb := X.2.1
  have X : g_X E G n p s m _ meth c cX6_length 5 RX6 "length" (some .int) := X
  have hl : lv_has ls 5 [(0, .long a0)] := hl
  unfold f_X6_length at h
  refine lv_iconst (v := 0) hx hb dX6_length_0 (by decide) ?_
  refine lv_istore_n (lv' := [(2, .int 0), (0, .long a0)]) hx hb dX6_length_1 rfl hl (by decide) rfl (fun ls hl => ?_)
  refine lv_lload_n hx hb dX6_length_2 rfl (lv_at hl 1 rfl) ?_
  refine lv_lstore_n (lv' := [(3, .long a0), (2, .int 0), (0, .long a0)]) hx hb dX6_length_3 rfl hl (by decide) rfl (fun ls hl => ?_)
  exact b_X6_length_4 X 5000 hI h (lv_sub hl [1, 0] rfl)
abbrev rm_X6_signed : Room := { frames := 0, cells := 0, slots := 0, locals := 0 }
def f_X6_signed (a0 : Int32) (a1 : Int64) : Int64 :=
  if a0 = 0 then
    a1
  else
  (a1 ||| (-9223372036854775808))
theorem gm_X6_signed : g_M yX6_signed cX6_signed 3 (some .long) 2 := ⟨tw_3_209, tw_1_5, by decide +kernel, Or.inl (by decide +kernel)⟩
set_option maxHeartbeats 4000000 in
set_option maxRecDepth 100000 in
theorem c_X6_signed {l : Launch} {E : gE} {G : gG} {n : Nat} (a0 : Int32) (a1 : Int64) : g_Met l yX6_signed cX6_signed 3 (some .long) rm_X6_signed E G n [.int a0, .long a1] (some (.long (f_X6_signed a0 a1))) G n := by
  generalize h : f_X6_signed a0 a1 = r
  refine g_ofW gm_X6_signed (Nat.le_of_ble_eq_true rfl) ?_
  intro p e s m below meth c ls X hl hI
  have hx := X.1
  have hb := X.2.1
  have X : g_X E G n p s m _ meth c cX6_signed 3 RX6 "signed" (some .long) := X
  have hl : lv_has ls 3 [(0, .int a0), (1, .long a1)] := hl
  unfold f_X6_signed at h
  refine lv_iload_n hx hb dX6_signed_0 rfl (lv_at hl 0 rfl) ?_
  refine lv_if_eq (tgt := 12) hx hb dX6_signed_1 (by decide) (fun c => ?_) (fun c => ?_)
  · have h := g_t _ c h
    refine lv_lload_n hx hb dX6_signed_12 rfl (lv_at hl 1 rfl) ?_
    subst h
    exact g_lret X hI dX6_signed_13
  · have h := g_f _ c h
    refine lv_lload_n hx hb dX6_signed_4 rfl (lv_at hl 1 rfl) ?_
    refine lv_ldc2 (v := (-9223372036854775808)) hx hb X.2.2.2.1 (X.2.2.2.2.1 _ tw_3_210) dX6_signed_5 ?_
    refine lv_lor (x := a1) (y := (-9223372036854775808)) hx hb dX6_signed_8 ?_
    refine lv_goto (tgt := 13) hx hb dX6_signed_9 (by decide) ?_
    subst h
    exact g_lret X hI dX6_signed_13
abbrev rm_X6_pack : Room := { frames := 1, cells := 0, slots := 0, locals := 24 }
def f_X6_pack_87 (x0 : Int32) (x5 : Int32) (s0 : Int64) : Option Int64 :=
  some (f_X6_signed x0 ((g_lshl (Int32.toInt64 (x5 + 1023)) 52) ||| (s0 &&& 4503599627370495)))
set_option maxHeartbeats 4000000 in
set_option maxRecDepth 100000 in
theorem b_X6_pack_87 {p : Program} {l : Launch} {e : Env} {s : State} {m : MethodId} {args : Array Value} {below : List Frame} {meth : Method} {c : Code} {E : gE} {G0 : gG} {n0 : Nat} (X : g_X E G0 n0 p s m args meth c cX6_pack 8 RX6 "pack" (some .long)) {G : gG} {n : Nat} {r : Int64} {H : Heap} {locs : List Loc} (hI : g_I E (g_A G0 n0) G n s.heap H locs) {x0 : Int32} {x5 : Int32} {s0 : Int64} (h : f_X6_pack_87 x0 x5 s0 = some r) {ls : Array Slot} (hl : lv_has ls 8 [(0, .int x0), (5, .int x5)]) : W p l e rm_X6_pack s m args below meth c H locs 0 0 (MQ below (g_Q E G0 n0 (some (.long r)) G n) args s rm_X6_pack.cells rm_X6_pack.slots (g_A G0 n0)) (F0 m 87 ls [.long s0]) := by
  have hx := X.1
  have hb := X.2.1
  unfold f_X6_pack_87 at h
  refine lv_lstore (lv' := [(6, .long s0), (0, .int x0), (5, .int x5)]) hx hb dX6_pack_87 hl (by decide) rfl (fun ls hl => ?_)
  refine lv_iload_n hx hb dX6_pack_89 rfl (lv_at hl 1 rfl) ?_
  refine lv_iload hx hb dX6_pack_90 (lv_at hl 2 rfl) ?_
  refine lv_sipush (v := 1023) hx hb dX6_pack_92 (by decide) ?_
  refine lv_iadd (x := x5) (y := 1023) hx hb dX6_pack_95 ?_
  refine lv_i2l (v := (Int32.toInt64 (x5 + 1023))) hx hb dX6_pack_96 rfl ?_
  refine lv_bipush (v := 52) hx hb dX6_pack_97 (by decide) ?_
  refine lv_lshl (v := (g_lshl (Int32.toInt64 (x5 + 1023)) 52)) hx hb dX6_pack_99 rfl ?_
  refine lv_lload hx hb dX6_pack_100 (lv_at hl 0 rfl) ?_
  refine lv_ldc2 (v := 4503599627370495) hx hb X.2.2.2.1 (X.2.2.2.2.1 _ tw_3_223) dX6_pack_102 ?_
  refine lv_land (x := s0) (y := 4503599627370495) hx hb dX6_pack_105 ?_
  refine lv_lor (x := (g_lshl (Int32.toInt64 (x5 + 1023)) 52)) (y := (s0 &&& 4503599627370495)) hx hb dX6_pack_106 ?_
  refine g_callS X hI (av := [.int x0, .long ((g_lshl (Int32.toInt64 (x5 + 1023)) 52) ||| (s0 &&& 4503599627370495))]) (c_X6_signed x0 ((g_lshl (Int32.toInt64 (x5 + 1023)) 52) ||| (s0 &&& 4503599627370495))) gm_X6_signed tw_3_207 tw_3_208 ⟨by decide, by decide⟩ hl.1 (rest := []) rfl (Nat.le_of_ble_eq_true rfl) dX6_pack_107 ⟨by decide, by decide⟩ (st1 := [.long (f_X6_signed x0 ((g_lshl (Int32.toInt64 (x5 + 1023)) 52) ||| (s0 &&& 4503599627370495)))]) rfl (cells' := 0) (slots' := 0) rfl rfl (fun H locs hI => ?_)
  have h := Option.some.inj h
  subst h
  exact g_lret X hI dX6_pack_110
def f_X6_pack_59 (s0 : Int64) (s1 : Int32) : Option Int64 :=
  some (f_X6_signed s1 s0)
set_option maxHeartbeats 4000000 in
set_option maxRecDepth 100000 in
theorem b_X6_pack_59 {p : Program} {l : Launch} {e : Env} {s : State} {m : MethodId} {args : Array Value} {below : List Frame} {meth : Method} {c : Code} {E : gE} {G0 : gG} {n0 : Nat} (X : g_X E G0 n0 p s m args meth c cX6_pack 8 RX6 "pack" (some .long)) {G : gG} {n : Nat} {r : Int64} {H : Heap} {locs : List Loc} (hI : g_I E (g_A G0 n0) G n s.heap H locs) {s0 : Int64} {s1 : Int32} (h : f_X6_pack_59 s0 s1 = some r) {ls : Array Slot} (hl : lv_has ls 8 []) : W p l e rm_X6_pack s m args below meth c H locs 0 0 (MQ below (g_Q E G0 n0 (some (.long r)) G n) args s rm_X6_pack.cells rm_X6_pack.slots (g_A G0 n0)) (F0 m 59 ls [.long s0, .int s1]) := by
  have hx := X.1
  have hb := X.2.1
  unfold f_X6_pack_59 at h
  refine g_callS X hI (av := [.int s1, .long s0]) (c_X6_signed s1 s0) gm_X6_signed tw_3_207 tw_3_208 ⟨by decide, by decide⟩ hl.1 (rest := []) rfl (Nat.le_of_ble_eq_true rfl) dX6_pack_59 ⟨by decide, by decide⟩ (st1 := [.long (f_X6_signed s1 s0)]) rfl (cells' := 0) (slots' := 0) rfl rfl (fun H locs hI => ?_)
  have h := Option.some.inj h
  subst h
  exact g_lret X hI dX6_pack_62
def f_X6_pack (a0 : Int32) (a1 : Int64) (a3 : Int32) : Option Int64 :=
  if a1 = 0 then
    some (f_X6_signed a0 (0 : Int64))
  else
  gb (f_X6_length a1) fun r1 =>
  gl (((r1 + a3) - 1) : Int32) fun v2 =>
  if (-1022 : Int32) ≤ v2 then
    if (53 : Int32) < r1 then
      f_X6_pack_87 a0 v2 (g_lshr a1 (r1 - 53))
    else
    f_X6_pack_87 a0 v2 (g_lshl a1 ((53 : Int32) - r1))
  else
  if a3 < (-1074) then
    f_X6_pack_59 (g_lshr a1 ((-1074 : Int32) - a3)) a0
  else
  f_X6_pack_59 (g_lshl a1 (a3 + 1074)) a0
theorem gm_X6_pack : g_M yX6_pack cX6_pack 8 (some .long) 3 := ⟨tw_3_222, tw_1_5, by decide +kernel, Or.inl (by decide +kernel)⟩
set_option maxHeartbeats 4000000 in
set_option maxRecDepth 100000 in
theorem c_X6_pack {l : Launch} {E : gE} {G : gG} {n : Nat} {a0 : Int32} {a1 : Int64} {a3 : Int32} {r : Int64} (h : f_X6_pack a0 a1 a3 = some r) : g_Met l yX6_pack cX6_pack 8 (some .long) rm_X6_pack E G n [.int a0, .long a1, .int a3] (some (.long r)) G n := by
  refine g_ofW gm_X6_pack (Nat.le_of_ble_eq_true rfl) ?_
  intro p e s m below meth c ls X hl hI
  have hx := X.1
  have hb := X.2.1
  have X : g_X E G n p s m _ meth c cX6_pack 8 RX6 "pack" (some .long) := X
  have hl : lv_has ls 8 [(0, .int a0), (1, .long a1), (3, .int a3)] := hl
  unfold f_X6_pack at h
  refine lv_lload_n hx hb dX6_pack_0 rfl (lv_at hl 1 rfl) ?_
  refine lv_lconst (v := 0) hx hb dX6_pack_1 (by decide) ?_
  refine W.lcmp hx hb dX6_pack_2 ?_
  refine lv_if_ne (tgt := 12) hx hb dX6_pack_3 (by decide) (fun c => ?_) (fun c => ?_)
  · have h := g_f _ ((not_congr (lg_cmp_eq _ _)).mp c) h
    refine lv_lload_n hx hb dX6_pack_12 rfl (lv_at hl 1 rfl) ?_
    obtain ⟨r1, er1, h⟩ := gb_s h
    refine g_callS X hI (av := [.long a1]) (c_X6_length er1) gm_X6_length tw_3_201 tw_3_202 ⟨by decide, by decide⟩ hl.1 (rest := []) rfl (Nat.le_of_ble_eq_true rfl) dX6_pack_13 ⟨by decide, by decide⟩ (st1 := [.int r1]) rfl (cells' := 0) (slots' := 0) rfl rfl (fun H locs hI => ?_)
    refine lv_istore (lv' := [(4, .int r1), (0, .int a0), (1, .long a1), (3, .int a3)]) hx hb dX6_pack_16 hl (by decide) rfl (fun ls hl => ?_)
    refine lv_iload hx hb dX6_pack_18 (lv_at hl 0 rfl) ?_
    refine lv_iload_n hx hb dX6_pack_20 rfl (lv_at hl 3 rfl) ?_
    refine lv_iadd (x := r1) (y := a3) hx hb dX6_pack_21 ?_
    refine lv_iconst (v := 1) hx hb dX6_pack_22 (by decide) ?_
    refine lv_isub (x := (r1 + a3)) (y := 1) hx hb dX6_pack_23 ?_
    obtain ⟨v2, ev2, h⟩ := gl_s h
    refine g_topi ev2 ?_
    refine lv_istore (lv' := [(5, .int v2), (4, .int r1), (0, .int a0), (1, .long a1), (3, .int a3)]) hx hb dX6_pack_24 hl (by decide) rfl (fun ls hl => ?_)
    refine lv_iload hx hb dX6_pack_26 (lv_at hl 0 rfl) ?_
    refine lv_sipush (v := (-1022)) hx hb dX6_pack_28 (by decide) ?_
    refine lv_icmp_ge (tgt := 63) hx hb dX6_pack_31 (by decide) (fun c => ?_) (fun c => ?_)
    · have h := g_t _ c h
      refine lv_iload hx hb dX6_pack_63 (lv_at hl 1 rfl) ?_
      refine lv_bipush (v := 53) hx hb dX6_pack_65 (by decide) ?_
      refine lv_icmp_gt (tgt := 80) hx hb dX6_pack_67 (by decide) (fun c => ?_) (fun c => ?_)
      · have h := g_t _ c h
        refine lv_lload_n hx hb dX6_pack_80 rfl (lv_at hl 3 rfl) ?_
        refine lv_iload hx hb dX6_pack_81 (lv_at hl 1 rfl) ?_
        refine lv_bipush (v := 53) hx hb dX6_pack_83 (by decide) ?_
        refine lv_isub (x := r1) (y := 53) hx hb dX6_pack_85 ?_
        refine lv_lshr (v := (g_lshr a1 (r1 - 53))) hx hb dX6_pack_86 rfl ?_
        exact b_X6_pack_87 X hI h (lv_sub hl [2, 0] rfl)
      · have h := g_f _ c h
        refine lv_lload_n hx hb dX6_pack_70 rfl (lv_at hl 3 rfl) ?_
        refine lv_bipush (v := 53) hx hb dX6_pack_71 (by decide) ?_
        refine lv_iload hx hb dX6_pack_73 (lv_at hl 1 rfl) ?_
        refine lv_isub (x := 53) (y := r1) hx hb dX6_pack_75 ?_
        refine lv_lshl (v := (g_lshl a1 ((53 : Int32) - r1))) hx hb dX6_pack_76 rfl ?_
        refine lv_goto (tgt := 87) hx hb dX6_pack_77 (by decide) ?_
        exact b_X6_pack_87 X hI h (lv_sub hl [2, 0] rfl)
    · have h := g_f _ c h
      refine lv_iload_n hx hb dX6_pack_34 rfl (lv_at hl 2 rfl) ?_
      refine lv_iload_n hx hb dX6_pack_35 rfl (lv_at hl 4 rfl) ?_
      refine lv_sipush (v := (-1074)) hx hb dX6_pack_36 (by decide) ?_
      refine lv_icmp_lt (tgt := 52) hx hb dX6_pack_39 (by decide) (fun c => ?_) (fun c => ?_)
      · have h := g_t _ c h
        refine lv_lload_n hx hb dX6_pack_52 rfl (lv_at hl 3 rfl) ?_
        refine lv_sipush (v := (-1074)) hx hb dX6_pack_53 (by decide) ?_
        refine lv_iload_n hx hb dX6_pack_56 rfl (lv_at hl 4 rfl) ?_
        refine lv_isub (x := (-1074)) (y := a3) hx hb dX6_pack_57 ?_
        refine lv_lshr (v := (g_lshr a1 ((-1074 : Int32) - a3))) hx hb dX6_pack_58 rfl ?_
        exact b_X6_pack_59 X hI h (lv_sub hl [] rfl)
      · have h := g_f _ c h
        refine lv_lload_n hx hb dX6_pack_42 rfl (lv_at hl 3 rfl) ?_
        refine lv_iload_n hx hb dX6_pack_43 rfl (lv_at hl 4 rfl) ?_
        refine lv_sipush (v := 1074) hx hb dX6_pack_44 (by decide) ?_
        refine lv_iadd (x := a3) (y := 1074) hx hb dX6_pack_47 ?_
        refine lv_lshl (v := (g_lshl a1 (a3 + 1074))) hx hb dX6_pack_48 rfl ?_
        refine lv_goto (tgt := 59) hx hb dX6_pack_49 (by decide) ?_
        exact b_X6_pack_59 X hI h (lv_sub hl [] rfl)
  · have h := g_t _ ((lg_cmp_eq _ _).mp c) h
    refine lv_iload_n hx hb dX6_pack_6 rfl (lv_at hl 0 rfl) ?_
    refine lv_lconst (v := 0) hx hb dX6_pack_7 (by decide) ?_
    refine g_callS X hI (av := [.int a0, .long 0]) (c_X6_signed a0 (0 : Int64)) gm_X6_signed tw_3_207 tw_3_208 ⟨by decide, by decide⟩ hl.1 (rest := []) rfl (Nat.le_of_ble_eq_true rfl) dX6_pack_8 ⟨by decide, by decide⟩ (st1 := [.long (f_X6_signed a0 (0 : Int64))]) rfl (cells' := 0) (slots' := 0) rfl rfl (fun H locs hI => ?_)
    have h := Option.some.inj h
    subst h
    exact g_lret X hI dX6_pack_11
abbrev rm_X6_fit : Room := { frames := 2, cells := 0, slots := 0, locals := 51 }
def f_X6_fit_142 (x0 : Int32) (x5 : Int32) (x8 : Int64) (x10 : Int32) : Option Int64 :=
  gb (f_X6_length x8) fun r1 =>
  if ((r1 + x10) - 1) ≤ (f_X6_topOf x5) then
    gb (f_X6_pack x0 x8 x10) fun r2 =>
    some r2
  else
  some (f_X6_signed x0 (9218868437227405312 : Int64))
set_option maxHeartbeats 4000000 in
set_option maxRecDepth 100000 in
theorem b_X6_fit_142 {p : Program} {l : Launch} {e : Env} {s : State} {m : MethodId} {args : Array Value} {below : List Frame} {meth : Method} {c : Code} {E : gE} {G0 : gG} {n0 : Nat} (X : g_X E G0 n0 p s m args meth c cX6_fit 15 RX6 "fit" (some .long)) {G : gG} {n : Nat} {r : Int64} {H : Heap} {locs : List Loc} (hI : g_I E (g_A G0 n0) G n s.heap H locs) {x0 : Int32} {x5 : Int32} {x8 : Int64} {x10 : Int32} (h : f_X6_fit_142 x0 x5 x8 x10 = some r) {ls : Array Slot} (hl : lv_has ls 15 [(0, .int x0), (5, .int x5), (8, .long x8), (10, .int x10)]) : W p l e rm_X6_fit s m args below meth c H locs 0 0 (MQ below (g_Q E G0 n0 (some (.long r)) G n) args s rm_X6_fit.cells rm_X6_fit.slots (g_A G0 n0)) (F0 m 142 ls []) := by
  have hx := X.1
  have hb := X.2.1
  unfold f_X6_fit_142 at h
  refine lv_lload hx hb dX6_fit_142 (lv_at hl 2 rfl) ?_
  obtain ⟨r1, er1, h⟩ := gb_s h
  refine g_callS X hI (av := [.long x8]) (c_X6_length er1) gm_X6_length tw_3_201 tw_3_202 ⟨by decide, by decide⟩ hl.1 (rest := []) rfl (Nat.le_of_ble_eq_true rfl) dX6_fit_144 ⟨by decide, by decide⟩ (st1 := [.int r1]) rfl (cells' := 0) (slots' := 0) rfl rfl (fun H locs hI => ?_)
  refine lv_iload hx hb dX6_fit_147 (lv_at hl 3 rfl) ?_
  refine lv_iadd (x := r1) (y := x10) hx hb dX6_fit_149 ?_
  refine lv_iconst (v := 1) hx hb dX6_fit_150 (by decide) ?_
  refine lv_isub (x := (r1 + x10)) (y := 1) hx hb dX6_fit_151 ?_
  refine lv_iload hx hb dX6_fit_152 (lv_at hl 1 rfl) ?_
  refine g_callS X hI (av := [.int x5]) (c_X6_topOf x5) gm_X6_topOf tw_3_217 tw_3_218 ⟨by decide, by decide⟩ hl.1 (rest := [.int ((r1 + x10) - 1)]) rfl (Nat.le_of_ble_eq_true rfl) dX6_fit_154 ⟨by decide, by decide⟩ (st1 := [.int (f_X6_topOf x5), .int ((r1 + x10) - 1)]) rfl (cells' := 0) (slots' := 0) rfl rfl (fun H locs hI => ?_)
  refine lv_icmp_le (tgt := 170) hx hb dX6_fit_157 (by decide) (fun c => ?_) (fun c => ?_)
  · have h := g_t _ c h
    refine lv_iload_n hx hb dX6_fit_170 rfl (lv_at hl 0 rfl) ?_
    refine lv_lload hx hb dX6_fit_171 (lv_at hl 2 rfl) ?_
    refine lv_iload hx hb dX6_fit_173 (lv_at hl 3 rfl) ?_
    obtain ⟨r2, er2, h⟩ := gb_s h
    refine g_callS X hI (av := [.int x0, .long x8, .int x10]) (c_X6_pack er2) gm_X6_pack tw_3_220 tw_3_221 ⟨by decide, by decide⟩ hl.1 (rest := []) rfl (Nat.le_of_ble_eq_true rfl) dX6_fit_175 ⟨by decide, by decide⟩ (st1 := [.long r2]) rfl (cells' := 0) (slots' := 0) rfl rfl (fun H locs hI => ?_)
    have h := Option.some.inj h
    subst h
    exact g_lret X hI dX6_fit_178
  · have h := g_f _ c h
    refine lv_iload_n hx hb dX6_fit_160 rfl (lv_at hl 0 rfl) ?_
    refine lv_ldc2 (v := 9218868437227405312) hx hb X.2.2.2.1 (X.2.2.2.2.1 _ tw_3_141) dX6_fit_161 ?_
    refine g_callS X hI (av := [.int x0, .long 9218868437227405312]) (c_X6_signed x0 (9218868437227405312 : Int64)) gm_X6_signed tw_3_207 tw_3_208 ⟨by decide, by decide⟩ hl.1 (rest := []) rfl (Nat.le_of_ble_eq_true rfl) dX6_fit_164 ⟨by decide, by decide⟩ (st1 := [.long (f_X6_signed x0 (9218868437227405312 : Int64))]) rfl (cells' := 0) (slots' := 0) rfl rfl (fun H locs hI => ?_)
    refine lv_goto (tgt := 178) hx hb dX6_fit_167 (by decide) ?_
    have h := Option.some.inj h
    subst h
    exact g_lret X hI dX6_fit_178
def f_X6_fit_136 (x0 : Int32) (x5 : Int32) (x8 : Int64) (x10 : Int32) : Option Int64 :=
  gl ((x8 + 1) : Int64) fun v1 =>
  f_X6_fit_142 x0 x5 v1 x10
set_option maxHeartbeats 4000000 in
set_option maxRecDepth 100000 in
theorem b_X6_fit_136 {p : Program} {l : Launch} {e : Env} {s : State} {m : MethodId} {args : Array Value} {below : List Frame} {meth : Method} {c : Code} {E : gE} {G0 : gG} {n0 : Nat} (X : g_X E G0 n0 p s m args meth c cX6_fit 15 RX6 "fit" (some .long)) {G : gG} {n : Nat} {r : Int64} {H : Heap} {locs : List Loc} (hI : g_I E (g_A G0 n0) G n s.heap H locs) {x0 : Int32} {x5 : Int32} {x8 : Int64} {x10 : Int32} (h : f_X6_fit_136 x0 x5 x8 x10 = some r) {ls : Array Slot} (hl : lv_has ls 15 [(0, .int x0), (5, .int x5), (8, .long x8), (10, .int x10)]) : W p l e rm_X6_fit s m args below meth c H locs 0 0 (MQ below (g_Q E G0 n0 (some (.long r)) G n) args s rm_X6_fit.cells rm_X6_fit.slots (g_A G0 n0)) (F0 m 136 ls []) := by
  have hx := X.1
  have hb := X.2.1
  unfold f_X6_fit_136 at h
  refine lv_lload hx hb dX6_fit_136 (lv_at hl 2 rfl) ?_
  refine lv_lconst (v := 1) hx hb dX6_fit_138 (by decide) ?_
  refine lv_ladd (x := x8) (y := 1) hx hb dX6_fit_139 ?_
  obtain ⟨v1, ev1, h⟩ := gl_s h
  refine g_topl ev1 ?_
  refine lv_lstore (lv' := [(8, .long v1), (0, .int x0), (5, .int x5), (10, .int x10)]) hx hb dX6_fit_140 hl (by decide) rfl (fun ls hl => ?_)
  exact b_X6_fit_142 X hI h (lv_sub hl [1, 2, 0, 3] rfl)
def f_X6_fit_46 (x0 : Int32) (x1 : Int64) (x3 : Int32) (x4 : Int32) (x5 : Int32) (s0 : Int32) : Option Int64 :=
  gl ((s0 - x3) : Int32) fun v1 =>
  if v1 ≤ 62 then
    if v1 ≤ 0 then
      f_X6_fit_142 x0 x5 x1 x3
    else
    gl ((g_lshr x1 v1) : Int64) fun v2 =>
    gl ((x1 &&& ((g_lshl 1 v1) - 1)) : Int64) fun v3 =>
    gl ((g_lshl 1 (v1 - 1)) : Int64) fun v4 =>
    if v4 < v3 then
      f_X6_fit_136 x0 x5 v2 s0
    else
    if v3 = v4 then
      if x4 = 0 then
        if (v2 &&& 1) = 1 then
          f_X6_fit_136 x0 x5 v2 s0
        else
        f_X6_fit_142 x0 x5 v2 s0
      else
      f_X6_fit_136 x0 x5 v2 s0
    else
    f_X6_fit_142 x0 x5 v2 s0
  else
  some (f_X6_signed x0 (0 : Int64))
set_option maxHeartbeats 4000000 in
set_option maxRecDepth 100000 in
theorem b_X6_fit_46 {p : Program} {l : Launch} {e : Env} {s : State} {m : MethodId} {args : Array Value} {below : List Frame} {meth : Method} {c : Code} {E : gE} {G0 : gG} {n0 : Nat} (X : g_X E G0 n0 p s m args meth c cX6_fit 15 RX6 "fit" (some .long)) {G : gG} {n : Nat} {r : Int64} {H : Heap} {locs : List Loc} (hI : g_I E (g_A G0 n0) G n s.heap H locs) {x0 : Int32} {x1 : Int64} {x3 : Int32} {x4 : Int32} {x5 : Int32} {s0 : Int32} (h : f_X6_fit_46 x0 x1 x3 x4 x5 s0 = some r) {ls : Array Slot} (hl : lv_has ls 15 [(0, .int x0), (1, .long x1), (3, .int x3), (4, .int x4), (5, .int x5)]) : W p l e rm_X6_fit s m args below meth c H locs 0 0 (MQ below (g_Q E G0 n0 (some (.long r)) G n) args s rm_X6_fit.cells rm_X6_fit.slots (g_A G0 n0)) (F0 m 46 ls [.int s0]) := by
  have hx := X.1
  have hb := X.2.1
  unfold f_X6_fit_46 at h
  refine lv_istore (lv' := [(6, .int s0), (0, .int x0), (1, .long x1), (3, .int x3), (4, .int x4), (5, .int x5)]) hx hb dX6_fit_46 hl (by decide) rfl (fun ls hl => ?_)
  refine lv_iload hx hb dX6_fit_48 (lv_at hl 0 rfl) ?_
  refine lv_iload_n hx hb dX6_fit_50 rfl (lv_at hl 3 rfl) ?_
  refine lv_isub (x := s0) (y := x3) hx hb dX6_fit_51 ?_
  obtain ⟨v1, ev1, h⟩ := gl_s h
  refine g_topi ev1 ?_
  refine lv_istore (lv' := [(7, .int v1), (6, .int s0), (0, .int x0), (1, .long x1), (3, .int x3), (4, .int x4), (5, .int x5)]) hx hb dX6_fit_52 hl (by decide) rfl (fun ls hl => ?_)
  refine lv_iload hx hb dX6_fit_54 (lv_at hl 0 rfl) ?_
  refine lv_bipush (v := 62) hx hb dX6_fit_56 (by decide) ?_
  refine lv_icmp_le (tgt := 67) hx hb dX6_fit_58 (by decide) (fun c => ?_) (fun c => ?_)
  · have h := g_t _ c h
    refine lv_lload_n hx hb dX6_fit_67 rfl (lv_at hl 3 rfl) ?_
    refine lv_lstore (lv' := [(8, .long x1), (7, .int v1), (6, .int s0), (0, .int x0), (1, .long x1), (3, .int x3), (4, .int x4), (5, .int x5)]) hx hb dX6_fit_68 hl (by decide) rfl (fun ls hl => ?_)
    refine lv_iload_n hx hb dX6_fit_70 rfl (lv_at hl 5 rfl) ?_
    refine lv_istore (lv' := [(10, .int x3), (8, .long x1), (7, .int v1), (6, .int s0), (0, .int x0), (1, .long x1), (3, .int x3), (4, .int x4), (5, .int x5)]) hx hb dX6_fit_71 hl (by decide) rfl (fun ls hl => ?_)
    refine lv_iload hx hb dX6_fit_73 (lv_at hl 2 rfl) ?_
    refine lv_if_le (tgt := 142) hx hb dX6_fit_75 (by decide) (fun c => ?_) (fun c => ?_)
    · have h := g_t _ c h
      exact b_X6_fit_142 X hI h (lv_sub hl [4, 8, 1, 0] rfl)
    · have h := g_f _ c h
      refine lv_lload_n hx hb dX6_fit_78 rfl (lv_at hl 5 rfl) ?_
      refine lv_iload hx hb dX6_fit_79 (lv_at hl 2 rfl) ?_
      refine lv_lshr (v := (g_lshr x1 v1)) hx hb dX6_fit_81 rfl ?_
      obtain ⟨v2, ev2, h⟩ := gl_s h
      refine g_topl ev2 ?_
      refine lv_lstore (lv' := [(8, .long v2), (10, .int x3), (7, .int v1), (6, .int s0), (0, .int x0), (1, .long x1), (3, .int x3), (4, .int x4), (5, .int x5)]) hx hb dX6_fit_82 hl (by decide) rfl (fun ls hl => ?_)
      refine lv_iload hx hb dX6_fit_84 (lv_at hl 3 rfl) ?_
      refine lv_istore (lv' := [(10, .int s0), (8, .long v2), (7, .int v1), (6, .int s0), (0, .int x0), (1, .long x1), (3, .int x3), (4, .int x4), (5, .int x5)]) hx hb dX6_fit_86 hl (by decide) rfl (fun ls hl => ?_)
      refine lv_lload_n hx hb dX6_fit_88 rfl (lv_at hl 5 rfl) ?_
      refine lv_lconst (v := 1) hx hb dX6_fit_89 (by decide) ?_
      refine lv_iload hx hb dX6_fit_90 (lv_at hl 2 rfl) ?_
      refine lv_lshl (v := (g_lshl 1 v1)) hx hb dX6_fit_92 rfl ?_
      refine lv_lconst (v := 1) hx hb dX6_fit_93 (by decide) ?_
      refine lv_lsub (x := (g_lshl 1 v1)) (y := 1) hx hb dX6_fit_94 ?_
      refine lv_land (x := x1) (y := ((g_lshl 1 v1) - 1)) hx hb dX6_fit_95 ?_
      obtain ⟨v3, ev3, h⟩ := gl_s h
      refine g_topl ev3 ?_
      refine lv_lstore (lv' := [(11, .long v3), (10, .int s0), (8, .long v2), (7, .int v1), (6, .int s0), (0, .int x0), (1, .long x1), (3, .int x3), (4, .int x4), (5, .int x5)]) hx hb dX6_fit_96 hl (by decide) rfl (fun ls hl => ?_)
      refine lv_lconst (v := 1) hx hb dX6_fit_98 (by decide) ?_
      refine lv_iload hx hb dX6_fit_99 (lv_at hl 3 rfl) ?_
      refine lv_iconst (v := 1) hx hb dX6_fit_101 (by decide) ?_
      refine lv_isub (x := v1) (y := 1) hx hb dX6_fit_102 ?_
      refine lv_lshl (v := (g_lshl 1 (v1 - 1))) hx hb dX6_fit_103 rfl ?_
      obtain ⟨v4, ev4, h⟩ := gl_s h
      refine g_topl ev4 ?_
      refine lv_lstore (lv' := [(13, .long v4), (11, .long v3), (10, .int s0), (8, .long v2), (7, .int v1), (6, .int s0), (0, .int x0), (1, .long x1), (3, .int x3), (4, .int x4), (5, .int x5)]) hx hb dX6_fit_104 hl (by decide) rfl (fun ls hl => ?_)
      refine lv_lload hx hb dX6_fit_106 (lv_at hl 1 rfl) ?_
      refine lv_lload hx hb dX6_fit_108 (lv_at hl 0 rfl) ?_
      refine W.lcmp hx hb dX6_fit_110 ?_
      refine lv_if_gt (tgt := 136) hx hb dX6_fit_111 (by decide) (fun c => ?_) (fun c => ?_)
      · have h := g_t _ ((lg_cmp_gt _ _).mp c) h
        exact b_X6_fit_136 X hI h (lv_sub hl [6, 10, 3, 2] rfl)
      · have h := g_f _ (fun q => c ((lg_cmp_gt _ _).mpr q)) h
        refine lv_lload hx hb dX6_fit_114 (lv_at hl 1 rfl) ?_
        refine lv_lload hx hb dX6_fit_116 (lv_at hl 0 rfl) ?_
        refine W.lcmp hx hb dX6_fit_118 ?_
        refine lv_if_ne (tgt := 142) hx hb dX6_fit_119 (by decide) (fun c => ?_) (fun c => ?_)
        · have h := g_f _ ((not_congr (lg_cmp_eq _ _)).mp c) h
          exact b_X6_fit_142 X hI h (lv_sub hl [6, 10, 3, 2] rfl)
        · have h := g_t _ ((lg_cmp_eq _ _).mp c) h
          refine lv_iload hx hb dX6_fit_122 (lv_at hl 9 rfl) ?_
          refine lv_if_ne (tgt := 136) hx hb dX6_fit_124 (by decide) (fun c => ?_) (fun c => ?_)
          · have h := g_f _ c h
            exact b_X6_fit_136 X hI h (lv_sub hl [6, 10, 3, 2] rfl)
          · have h := g_t _ c h
            refine lv_lload hx hb dX6_fit_127 (lv_at hl 3 rfl) ?_
            refine lv_lconst (v := 1) hx hb dX6_fit_129 (by decide) ?_
            refine lv_land (x := v2) (y := 1) hx hb dX6_fit_130 ?_
            refine lv_lconst (v := 1) hx hb dX6_fit_131 (by decide) ?_
            refine W.lcmp hx hb dX6_fit_132 ?_
            refine lv_if_ne (tgt := 142) hx hb dX6_fit_133 (by decide) (fun c => ?_) (fun c => ?_)
            · have h := g_f _ ((not_congr (lg_cmp_eq _ _)).mp c) h
              exact b_X6_fit_142 X hI h (lv_sub hl [6, 10, 3, 2] rfl)
            · have h := g_t _ ((lg_cmp_eq _ _).mp c) h
              exact b_X6_fit_136 X hI h (lv_sub hl [6, 10, 3, 2] rfl)
  · have h := g_f _ c h
    refine lv_iload_n hx hb dX6_fit_61 rfl (lv_at hl 2 rfl) ?_
    refine lv_lconst (v := 0) hx hb dX6_fit_62 (by decide) ?_
    refine g_callS X hI (av := [.int x0, .long 0]) (c_X6_signed x0 (0 : Int64)) gm_X6_signed tw_3_207 tw_3_208 ⟨by decide, by decide⟩ hl.1 (rest := []) rfl (Nat.le_of_ble_eq_true rfl) dX6_fit_63 ⟨by decide, by decide⟩ (st1 := [.long (f_X6_signed x0 (0 : Int64))]) rfl (cells' := 0) (slots' := 0) rfl rfl (fun H locs hI => ?_)
    have h := Option.some.inj h
    subst h
    exact g_lret X hI dX6_fit_66
def f_X6_fit (a0 : Int32) (a1 : Int64) (a3 : Int32) (a4 : Int32) (a5 : Int32) : Option Int64 :=
  if a1 = 0 then
    some (f_X6_signed a0 (0 : Int64))
  else
  gb (f_X6_length a1) fun r1 =>
  gl (((a3 + r1) - (f_X6_digitsOf a5)) : Int32) fun v2 =>
  if (f_X6_leastOf a5) ≤ v2 then
    f_X6_fit_46 a0 a1 a3 a4 a5 v2
  else
  f_X6_fit_46 a0 a1 a3 a4 a5 (f_X6_leastOf a5)
theorem gm_X6_fit : g_M yX6_fit cX6_fit 15 (some .long) 5 := ⟨tw_3_206, tw_1_5, by decide +kernel, Or.inl (by decide +kernel)⟩
set_option maxHeartbeats 4000000 in
set_option maxRecDepth 100000 in
theorem c_X6_fit {l : Launch} {E : gE} {G : gG} {n : Nat} {a0 : Int32} {a1 : Int64} {a3 : Int32} {a4 : Int32} {a5 : Int32} {r : Int64} (h : f_X6_fit a0 a1 a3 a4 a5 = some r) : g_Met l yX6_fit cX6_fit 15 (some .long) rm_X6_fit E G n [.int a0, .long a1, .int a3, .int a4, .int a5] (some (.long r)) G n := by
  refine g_ofW gm_X6_fit (Nat.le_of_ble_eq_true rfl) ?_
  intro p e s m below meth c ls X hl hI
  have hx := X.1
  have hb := X.2.1
  have X : g_X E G n p s m _ meth c cX6_fit 15 RX6 "fit" (some .long) := X
  have hl : lv_has ls 15 [(0, .int a0), (1, .long a1), (3, .int a3), (4, .int a4), (5, .int a5)] := hl
  unfold f_X6_fit at h
  refine lv_lload_n hx hb dX6_fit_0 rfl (lv_at hl 1 rfl) ?_
  refine lv_lconst (v := 0) hx hb dX6_fit_1 (by decide) ?_
  refine W.lcmp hx hb dX6_fit_2 ?_
  refine lv_if_ne (tgt := 12) hx hb dX6_fit_3 (by decide) (fun c => ?_) (fun c => ?_)
  · have h := g_f _ ((not_congr (lg_cmp_eq _ _)).mp c) h
    refine lv_iload_n hx hb dX6_fit_12 rfl (lv_at hl 2 rfl) ?_
    refine lv_lload_n hx hb dX6_fit_13 rfl (lv_at hl 1 rfl) ?_
    obtain ⟨r1, er1, h⟩ := gb_s h
    refine g_callS X hI (av := [.long a1]) (c_X6_length er1) gm_X6_length tw_3_201 tw_3_202 ⟨by decide, by decide⟩ hl.1 (rest := [.int a3]) rfl (Nat.le_of_ble_eq_true rfl) dX6_fit_14 ⟨by decide, by decide⟩ (st1 := [.int r1, .int a3]) rfl (cells' := 0) (slots' := 0) rfl rfl (fun H locs hI => ?_)
    refine lv_iadd (x := a3) (y := r1) hx hb dX6_fit_17 ?_
    refine lv_iload hx hb dX6_fit_18 (lv_at hl 4 rfl) ?_
    refine g_callS X hI (av := [.int a5]) (c_X6_digitsOf a5) gm_X6_digitsOf tw_3_211 tw_3_212 ⟨by decide, by decide⟩ hl.1 (rest := [.int (a3 + r1)]) rfl (Nat.le_of_ble_eq_true rfl) dX6_fit_20 ⟨by decide, by decide⟩ (st1 := [.int (f_X6_digitsOf a5), .int (a3 + r1)]) rfl (cells' := 0) (slots' := 0) rfl rfl (fun H locs hI => ?_)
    refine lv_isub (x := (a3 + r1)) (y := (f_X6_digitsOf a5)) hx hb dX6_fit_23 ?_
    obtain ⟨v2, ev2, h⟩ := gl_s h
    refine g_topi ev2 ?_
    refine lv_istore (lv' := [(6, .int v2), (0, .int a0), (1, .long a1), (3, .int a3), (4, .int a4), (5, .int a5)]) hx hb dX6_fit_24 hl (by decide) rfl (fun ls hl => ?_)
    refine lv_iload hx hb dX6_fit_26 (lv_at hl 0 rfl) ?_
    refine lv_iload hx hb dX6_fit_28 (lv_at hl 5 rfl) ?_
    refine g_callS X hI (av := [.int a5]) (c_X6_leastOf a5) gm_X6_leastOf tw_3_214 tw_3_215 ⟨by decide, by decide⟩ hl.1 (rest := [.int v2]) rfl (Nat.le_of_ble_eq_true rfl) dX6_fit_30 ⟨by decide, by decide⟩ (st1 := [.int (f_X6_leastOf a5), .int v2]) rfl (cells' := 0) (slots' := 0) rfl rfl (fun H locs hI => ?_)
    refine lv_icmp_ge (tgt := 44) hx hb dX6_fit_33 (by decide) (fun c => ?_) (fun c => ?_)
    · have h := g_t _ c h
      refine lv_iload hx hb dX6_fit_44 (lv_at hl 0 rfl) ?_
      exact b_X6_fit_46 X hI h (lv_sub hl [1, 2, 3, 4, 5] rfl)
    · have h := g_f _ c h
      refine lv_iload hx hb dX6_fit_36 (lv_at hl 5 rfl) ?_
      refine g_callS X hI (av := [.int a5]) (c_X6_leastOf a5) gm_X6_leastOf tw_3_214 tw_3_215 ⟨by decide, by decide⟩ hl.1 (rest := []) rfl (Nat.le_of_ble_eq_true rfl) dX6_fit_38 ⟨by decide, by decide⟩ (st1 := [.int (f_X6_leastOf a5)]) rfl (cells' := 0) (slots' := 0) rfl rfl (fun H locs hI => ?_)
      refine lv_goto (tgt := 46) hx hb dX6_fit_41 (by decide) ?_
      exact b_X6_fit_46 X hI h (lv_sub hl [1, 2, 3, 4, 5] rfl)
  · have h := g_t _ ((lg_cmp_eq _ _).mp c) h
    refine lv_iload_n hx hb dX6_fit_6 rfl (lv_at hl 0 rfl) ?_
    refine lv_lconst (v := 0) hx hb dX6_fit_7 (by decide) ?_
    refine g_callS X hI (av := [.int a0, .long 0]) (c_X6_signed a0 (0 : Int64)) gm_X6_signed tw_3_207 tw_3_208 ⟨by decide, by decide⟩ hl.1 (rest := []) rfl (Nat.le_of_ble_eq_true rfl) dX6_fit_8 ⟨by decide, by decide⟩ (st1 := [.long (f_X6_signed a0 (0 : Int64))]) rfl (cells' := 0) (slots' := 0) rfl rfl (fun H locs hI => ?_)
    have h := Option.some.inj h
    subst h
    exact g_lret X hI dX6_fit_11
abbrev rm_X6_nearest : Room := { frames := 3, cells := 0, slots := 0, locals := 85 }
def f_X6_nearest_33 (x0 : Int64) (x2 : Int32) (s0 : Int32) : Option Int64 :=
  gb (f_X6_fit s0 (f_X6_mantissa x0) (f_X6_exponent x0) (0 : Int32) x2) fun r1 =>
  some r1
set_option maxHeartbeats 4000000 in
set_option maxRecDepth 100000 in
theorem b_X6_nearest_33 {p : Program} {l : Launch} {e : Env} {s : State} {m : MethodId} {args : Array Value} {below : List Frame} {meth : Method} {c : Code} {E : gE} {G0 : gG} {n0 : Nat} (X : g_X E G0 n0 p s m args meth c cX6_nearest 3 RX6 "nearest" (some .long)) {G : gG} {n : Nat} {r : Int64} {H : Heap} {locs : List Loc} (hI : g_I E (g_A G0 n0) G n s.heap H locs) {x0 : Int64} {x2 : Int32} {s0 : Int32} (h : f_X6_nearest_33 x0 x2 s0 = some r) {ls : Array Slot} (hl : lv_has ls 3 [(0, .long x0), (2, .int x2)]) : W p l e rm_X6_nearest s m args below meth c H locs 0 0 (MQ below (g_Q E G0 n0 (some (.long r)) G n) args s rm_X6_nearest.cells rm_X6_nearest.slots (g_A G0 n0)) (F0 m 33 ls [.int s0]) := by
  have hx := X.1
  have hb := X.2.1
  unfold f_X6_nearest_33 at h
  refine lv_lload_n hx hb dX6_nearest_33 rfl (lv_at hl 0 rfl) ?_
  refine g_callS X hI (av := [.long x0]) (c_X6_mantissa x0) gm_X6_mantissa tw_3_233 tw_3_234 ⟨by decide, by decide⟩ hl.1 (rest := [.int s0]) rfl (Nat.le_of_ble_eq_true rfl) dX6_nearest_34 ⟨by decide, by decide⟩ (st1 := [.long (f_X6_mantissa x0), .int s0]) rfl (cells' := 0) (slots' := 0) rfl rfl (fun H locs hI => ?_)
  refine lv_lload_n hx hb dX6_nearest_37 rfl (lv_at hl 0 rfl) ?_
  refine g_callS X hI (av := [.long x0]) (c_X6_exponent x0) gm_X6_exponent tw_3_238 tw_3_239 ⟨by decide, by decide⟩ hl.1 (rest := [.long (f_X6_mantissa x0), .int s0]) rfl (Nat.le_of_ble_eq_true rfl) dX6_nearest_38 ⟨by decide, by decide⟩ (st1 := [.int (f_X6_exponent x0), .long (f_X6_mantissa x0), .int s0]) rfl (cells' := 0) (slots' := 0) rfl rfl (fun H locs hI => ?_)
  refine lv_iconst (v := 0) hx hb dX6_nearest_41 (by decide) ?_
  refine lv_iload_n hx hb dX6_nearest_42 rfl (lv_at hl 1 rfl) ?_
  obtain ⟨r1, er1, h⟩ := gb_s h
  refine g_callS X hI (av := [.int s0, .long (f_X6_mantissa x0), .int (f_X6_exponent x0), .int 0, .int x2]) (c_X6_fit er1) gm_X6_fit tw_3_204 tw_3_205 ⟨by decide, by decide⟩ hl.1 (rest := []) rfl (Nat.le_of_ble_eq_true rfl) dX6_nearest_43 ⟨by decide, by decide⟩ (st1 := [.long r1]) rfl (cells' := 0) (slots' := 0) rfl rfl (fun H locs hI => ?_)
  have h := Option.some.inj h
  subst h
  exact g_lret X hI dX6_nearest_46
def f_X6_nearest (a0 : Int64) (a2 : Int32) : Option Int64 :=
  if (f_X6_isNan a0) = 0 then
    if (f_X6_isInfinite a0) = 0 then
      if (0 : Int64) ≤ a0 then
        f_X6_nearest_33 a0 a2 0
      else
      f_X6_nearest_33 a0 a2 1
    else
    some a0
  else
  some 9221120237041090560
theorem gm_X6_nearest : g_M yX6_nearest cX6_nearest 3 (some .long) 2 := ⟨tw_4_16, tw_1_5, by decide +kernel, Or.inl (by decide +kernel)⟩
set_option maxHeartbeats 4000000 in
set_option maxRecDepth 100000 in
theorem c_X6_nearest {l : Launch} {E : gE} {G : gG} {n : Nat} {a0 : Int64} {a2 : Int32} {r : Int64} (h : f_X6_nearest a0 a2 = some r) : g_Met l yX6_nearest cX6_nearest 3 (some .long) rm_X6_nearest E G n [.long a0, .int a2] (some (.long r)) G n := by
  refine g_ofW gm_X6_nearest (Nat.le_of_ble_eq_true rfl) ?_
  intro p e s m below meth c ls X hl hI
  have hx := X.1
  have hb := X.2.1
  have X : g_X E G n p s m _ meth c cX6_nearest 3 RX6 "nearest" (some .long) := X
  have hl : lv_has ls 3 [(0, .long a0), (2, .int a2)] := hl
  unfold f_X6_nearest at h
  refine lv_lload_n hx hb dX6_nearest_0 rfl (lv_at hl 0 rfl) ?_
  refine g_callS X hI (av := [.long a0]) (c_X6_isNan a0) gm_X6_isNan tw_3_137 tw_3_138 ⟨by decide, by decide⟩ hl.1 (rest := []) rfl (Nat.le_of_ble_eq_true rfl) dX6_nearest_1 ⟨by decide, by decide⟩ (st1 := [.int (f_X6_isNan a0)]) rfl (cells' := 0) (slots' := 0) rfl rfl (fun H locs hI => ?_)
  refine lv_if_eq (tgt := 11) hx hb dX6_nearest_4 (by decide) (fun c => ?_) (fun c => ?_)
  · have h := g_t _ c h
    refine lv_lload_n hx hb dX6_nearest_11 rfl (lv_at hl 0 rfl) ?_
    refine g_callS X hI (av := [.long a0]) (c_X6_isInfinite a0) gm_X6_isInfinite tw_3_229 tw_3_230 ⟨by decide, by decide⟩ hl.1 (rest := []) rfl (Nat.le_of_ble_eq_true rfl) dX6_nearest_12 ⟨by decide, by decide⟩ (st1 := [.int (f_X6_isInfinite a0)]) rfl (cells' := 0) (slots' := 0) rfl rfl (fun H locs hI => ?_)
    refine lv_if_eq (tgt := 22) hx hb dX6_nearest_15 (by decide) (fun c => ?_) (fun c => ?_)
    · have h := g_t _ c h
      refine lv_lload_n hx hb dX6_nearest_22 rfl (lv_at hl 0 rfl) ?_
      refine lv_lconst (v := 0) hx hb dX6_nearest_23 (by decide) ?_
      refine W.lcmp hx hb dX6_nearest_24 ?_
      refine lv_if_ge (tgt := 32) hx hb dX6_nearest_25 (by decide) (fun c => ?_) (fun c => ?_)
      · have h := g_t _ ((lg_cmp_ge _ _).mp c) h
        refine lv_iconst (v := 0) hx hb dX6_nearest_32 (by decide) ?_
        exact b_X6_nearest_33 X hI h (lv_sub hl [0, 1] rfl)
      · have h := g_f _ (fun q => c ((lg_cmp_ge _ _).mpr q)) h
        refine lv_iconst (v := 1) hx hb dX6_nearest_28 (by decide) ?_
        refine lv_goto (tgt := 33) hx hb dX6_nearest_29 (by decide) ?_
        exact b_X6_nearest_33 X hI h (lv_sub hl [0, 1] rfl)
    · have h := g_f _ c h
      refine lv_lload_n hx hb dX6_nearest_18 rfl (lv_at hl 0 rfl) ?_
      refine lv_goto (tgt := 46) hx hb dX6_nearest_19 (by decide) ?_
      have h := Option.some.inj h
      subst h
      exact g_lret X hI dX6_nearest_46
  · have h := g_f _ c h
    refine lv_ldc2 (v := 9221120237041090560) hx hb X.2.2.2.1 (X.2.2.2.2.1 _ tw_3_142) dX6_nearest_7 ?_
    have h := Option.some.inj h
    subst h
    exact g_lret X hI dX6_nearest_10
abbrev rm_X6_ofWhole : Room := { frames := 3, cells := 0, slots := 0, locals := 85 }
def f_X6_ofWhole_66 (x2 : Int32) (s0 : Int32) (s1 : Int32) (s2 : Int64) (s3 : Int32) : Option Int64 :=
  gb (f_X6_fit s3 s2 s1 s0 x2) fun r1 =>
  some r1
set_option maxHeartbeats 4000000 in
set_option maxRecDepth 100000 in
theorem b_X6_ofWhole_66 {p : Program} {l : Launch} {e : Env} {s : State} {m : MethodId} {args : Array Value} {below : List Frame} {meth : Method} {c : Code} {E : gE} {G0 : gG} {n0 : Nat} (X : g_X E G0 n0 p s m args meth c cX6_ofWhole 6 RX6 "ofWhole" (some .long)) {G : gG} {n : Nat} {r : Int64} {H : Heap} {locs : List Loc} (hI : g_I E (g_A G0 n0) G n s.heap H locs) {x2 : Int32} {s0 : Int32} {s1 : Int32} {s2 : Int64} {s3 : Int32} (h : f_X6_ofWhole_66 x2 s0 s1 s2 s3 = some r) {ls : Array Slot} (hl : lv_has ls 6 [(2, .int x2)]) : W p l e rm_X6_ofWhole s m args below meth c H locs 0 0 (MQ below (g_Q E G0 n0 (some (.long r)) G n) args s rm_X6_ofWhole.cells rm_X6_ofWhole.slots (g_A G0 n0)) (F0 m 66 ls [.int s0, .int s1, .long s2, .int s3]) := by
  have hx := X.1
  have hb := X.2.1
  unfold f_X6_ofWhole_66 at h
  refine lv_iload_n hx hb dX6_ofWhole_66 rfl (lv_at hl 0 rfl) ?_
  obtain ⟨r1, er1, h⟩ := gb_s h
  refine g_callS X hI (av := [.int s3, .long s2, .int s1, .int s0, .int x2]) (c_X6_fit er1) gm_X6_fit tw_3_204 tw_3_205 ⟨by decide, by decide⟩ hl.1 (rest := []) rfl (Nat.le_of_ble_eq_true rfl) dX6_ofWhole_67 ⟨by decide, by decide⟩ (st1 := [.long r1]) rfl (cells' := 0) (slots' := 0) rfl rfl (fun H locs hI => ?_)
  have h := Option.some.inj h
  subst h
  exact g_lret X hI dX6_ofWhole_70
def f_X6_ofWhole_22 (x2 : Int32) (x3 : Int32) (s0 : Int64) : Option Int64 :=
  gb (f_X6_length s0) fun r1 =>
  if (63 : Int32) ≤ r1 then
    if (s0 &&& 3) = 0 then
      f_X6_ofWhole_66 x2 0 2 (g_lushr s0 2) x3
    else
    f_X6_ofWhole_66 x2 1 2 (g_lushr s0 2) x3
  else
  gb (f_X6_fit x3 s0 (0 : Int32) (0 : Int32) x2) fun r2 =>
  some r2
set_option maxHeartbeats 4000000 in
set_option maxRecDepth 100000 in
theorem b_X6_ofWhole_22 {p : Program} {l : Launch} {e : Env} {s : State} {m : MethodId} {args : Array Value} {below : List Frame} {meth : Method} {c : Code} {E : gE} {G0 : gG} {n0 : Nat} (X : g_X E G0 n0 p s m args meth c cX6_ofWhole 6 RX6 "ofWhole" (some .long)) {G : gG} {n : Nat} {r : Int64} {H : Heap} {locs : List Loc} (hI : g_I E (g_A G0 n0) G n s.heap H locs) {x2 : Int32} {x3 : Int32} {s0 : Int64} (h : f_X6_ofWhole_22 x2 x3 s0 = some r) {ls : Array Slot} (hl : lv_has ls 6 [(2, .int x2), (3, .int x3)]) : W p l e rm_X6_ofWhole s m args below meth c H locs 0 0 (MQ below (g_Q E G0 n0 (some (.long r)) G n) args s rm_X6_ofWhole.cells rm_X6_ofWhole.slots (g_A G0 n0)) (F0 m 22 ls [.long s0]) := by
  have hx := X.1
  have hb := X.2.1
  unfold f_X6_ofWhole_22 at h
  refine lv_lstore (lv' := [(4, .long s0), (2, .int x2), (3, .int x3)]) hx hb dX6_ofWhole_22 hl (by decide) rfl (fun ls hl => ?_)
  refine lv_lload hx hb dX6_ofWhole_24 (lv_at hl 0 rfl) ?_
  obtain ⟨r1, er1, h⟩ := gb_s h
  refine g_callS X hI (av := [.long s0]) (c_X6_length er1) gm_X6_length tw_3_201 tw_3_202 ⟨by decide, by decide⟩ hl.1 (rest := []) rfl (Nat.le_of_ble_eq_true rfl) dX6_ofWhole_26 ⟨by decide, by decide⟩ (st1 := [.int r1]) rfl (cells' := 0) (slots' := 0) rfl rfl (fun H locs hI => ?_)
  refine lv_bipush (v := 63) hx hb dX6_ofWhole_29 (by decide) ?_
  refine lv_icmp_ge (tgt := 44) hx hb dX6_ofWhole_31 (by decide) (fun c => ?_) (fun c => ?_)
  · have h := g_t _ c h
    refine lv_iload_n hx hb dX6_ofWhole_44 rfl (lv_at hl 2 rfl) ?_
    refine lv_lload hx hb dX6_ofWhole_45 (lv_at hl 0 rfl) ?_
    refine lv_iconst (v := 2) hx hb dX6_ofWhole_47 (by decide) ?_
    refine lv_lushr (v := (g_lushr s0 2)) hx hb dX6_ofWhole_48 rfl ?_
    refine lv_iconst (v := 2) hx hb dX6_ofWhole_49 (by decide) ?_
    refine lv_lload hx hb dX6_ofWhole_50 (lv_at hl 0 rfl) ?_
    refine lv_ldc2 (v := 3) hx hb X.2.2.2.1 (X.2.2.2.2.1 _ tw_3_224) dX6_ofWhole_52 ?_
    refine lv_land (x := s0) (y := 3) hx hb dX6_ofWhole_55 ?_
    refine lv_lconst (v := 0) hx hb dX6_ofWhole_56 (by decide) ?_
    refine W.lcmp hx hb dX6_ofWhole_57 ?_
    refine lv_if_eq (tgt := 65) hx hb dX6_ofWhole_58 (by decide) (fun c => ?_) (fun c => ?_)
    · have h := g_t _ ((lg_cmp_eq _ _).mp c) h
      refine lv_iconst (v := 0) hx hb dX6_ofWhole_65 (by decide) ?_
      exact b_X6_ofWhole_66 X hI h (lv_sub hl [1] rfl)
    · have h := g_f _ (fun q => c ((lg_cmp_eq _ _).mpr q)) h
      refine lv_iconst (v := 1) hx hb dX6_ofWhole_61 (by decide) ?_
      refine lv_goto (tgt := 66) hx hb dX6_ofWhole_62 (by decide) ?_
      exact b_X6_ofWhole_66 X hI h (lv_sub hl [1] rfl)
  · have h := g_f _ c h
    refine lv_iload_n hx hb dX6_ofWhole_34 rfl (lv_at hl 2 rfl) ?_
    refine lv_lload hx hb dX6_ofWhole_35 (lv_at hl 0 rfl) ?_
    refine lv_iconst (v := 0) hx hb dX6_ofWhole_37 (by decide) ?_
    refine lv_iconst (v := 0) hx hb dX6_ofWhole_38 (by decide) ?_
    refine lv_iload_n hx hb dX6_ofWhole_39 rfl (lv_at hl 1 rfl) ?_
    obtain ⟨r2, er2, h⟩ := gb_s h
    refine g_callS X hI (av := [.int x3, .long s0, .int 0, .int 0, .int x2]) (c_X6_fit er2) gm_X6_fit tw_3_204 tw_3_205 ⟨by decide, by decide⟩ hl.1 (rest := []) rfl (Nat.le_of_ble_eq_true rfl) dX6_ofWhole_40 ⟨by decide, by decide⟩ (st1 := [.long r2]) rfl (cells' := 0) (slots' := 0) rfl rfl (fun H locs hI => ?_)
    have h := Option.some.inj h
    subst h
    exact g_lret X hI dX6_ofWhole_43
def f_X6_ofWhole_11 (x0 : Int64) (x2 : Int32) (s0 : Int32) : Option Int64 :=
  if s0 = 0 then
    f_X6_ofWhole_22 x2 s0 x0
  else
  f_X6_ofWhole_22 x2 s0 (-x0)
set_option maxHeartbeats 4000000 in
set_option maxRecDepth 100000 in
theorem b_X6_ofWhole_11 {p : Program} {l : Launch} {e : Env} {s : State} {m : MethodId} {args : Array Value} {below : List Frame} {meth : Method} {c : Code} {E : gE} {G0 : gG} {n0 : Nat} (X : g_X E G0 n0 p s m args meth c cX6_ofWhole 6 RX6 "ofWhole" (some .long)) {G : gG} {n : Nat} {r : Int64} {H : Heap} {locs : List Loc} (hI : g_I E (g_A G0 n0) G n s.heap H locs) {x0 : Int64} {x2 : Int32} {s0 : Int32} (h : f_X6_ofWhole_11 x0 x2 s0 = some r) {ls : Array Slot} (hl : lv_has ls 6 [(0, .long x0), (2, .int x2)]) : W p l e rm_X6_ofWhole s m args below meth c H locs 0 0 (MQ below (g_Q E G0 n0 (some (.long r)) G n) args s rm_X6_ofWhole.cells rm_X6_ofWhole.slots (g_A G0 n0)) (F0 m 11 ls [.int s0]) := by
  have hx := X.1
  have hb := X.2.1
  unfold f_X6_ofWhole_11 at h
  refine lv_istore_n (lv' := [(3, .int s0), (0, .long x0), (2, .int x2)]) hx hb dX6_ofWhole_11 rfl hl (by decide) rfl (fun ls hl => ?_)
  refine lv_iload_n hx hb dX6_ofWhole_12 rfl (lv_at hl 0 rfl) ?_
  refine lv_if_eq (tgt := 21) hx hb dX6_ofWhole_13 (by decide) (fun c => ?_) (fun c => ?_)
  · have h := g_t _ c h
    refine lv_lload_n hx hb dX6_ofWhole_21 rfl (lv_at hl 1 rfl) ?_
    exact b_X6_ofWhole_22 X hI h (lv_sub hl [2, 0] rfl)
  · have h := g_f _ c h
    refine lv_lload_n hx hb dX6_ofWhole_16 rfl (lv_at hl 1 rfl) ?_
    refine lv_lneg hx hb dX6_ofWhole_17 ?_
    refine lv_goto (tgt := 22) hx hb dX6_ofWhole_18 (by decide) ?_
    exact b_X6_ofWhole_22 X hI h (lv_sub hl [2, 0] rfl)
def f_X6_ofWhole (a0 : Int64) (a2 : Int32) : Option Int64 :=
  if (0 : Int64) ≤ a0 then
    f_X6_ofWhole_11 a0 a2 0
  else
  f_X6_ofWhole_11 a0 a2 1
theorem gm_X6_ofWhole : g_M yX6_ofWhole cX6_ofWhole 6 (some .long) 2 := ⟨tw_3_200, tw_1_5, by decide +kernel, Or.inl (by decide +kernel)⟩
set_option maxHeartbeats 4000000 in
set_option maxRecDepth 100000 in
theorem c_X6_ofWhole {l : Launch} {E : gE} {G : gG} {n : Nat} {a0 : Int64} {a2 : Int32} {r : Int64} (h : f_X6_ofWhole a0 a2 = some r) : g_Met l yX6_ofWhole cX6_ofWhole 6 (some .long) rm_X6_ofWhole E G n [.long a0, .int a2] (some (.long r)) G n := by
  refine g_ofW gm_X6_ofWhole (Nat.le_of_ble_eq_true rfl) ?_
  intro p e s m below meth c ls X hl hI
  have hx := X.1
  have hb := X.2.1
  have X : g_X E G n p s m _ meth c cX6_ofWhole 6 RX6 "ofWhole" (some .long) := X
  have hl : lv_has ls 6 [(0, .long a0), (2, .int a2)] := hl
  unfold f_X6_ofWhole at h
  refine lv_lload_n hx hb dX6_ofWhole_0 rfl (lv_at hl 0 rfl) ?_
  refine lv_lconst (v := 0) hx hb dX6_ofWhole_1 (by decide) ?_
  refine W.lcmp hx hb dX6_ofWhole_2 ?_
  refine lv_if_ge (tgt := 10) hx hb dX6_ofWhole_3 (by decide) (fun c => ?_) (fun c => ?_)
  · have h := g_t _ ((lg_cmp_ge _ _).mp c) h
    refine lv_iconst (v := 0) hx hb dX6_ofWhole_10 (by decide) ?_
    exact b_X6_ofWhole_11 X hI h (lv_sub hl [0, 1] rfl)
  · have h := g_f _ (fun q => c ((lg_cmp_ge _ _).mpr q)) h
    refine lv_iconst (v := 1) hx hb dX6_ofWhole_6 (by decide) ?_
    refine lv_goto (tgt := 11) hx hb dX6_ofWhole_7 (by decide) ?_
    exact b_X6_ofWhole_11 X hI h (lv_sub hl [0, 1] rfl)
abbrev rm_X6_floatBits : Room := { frames := 1, cells := 0, slots := 0, locals := 24 }
def f_X6_floatBits_24 (x0 : Int64) (s0 : Int64) : Option Int64 :=
  if (f_X6_isInfinite x0) = 0 then
    gb (f_X6_length (f_X6_mantissa x0)) fun r1 =>
    gl (((r1 + (f_X6_exponent x0)) - 1) : Int32) fun v2 =>
    if (f_X6_isZero x0) = 0 then
      if (-126 : Int32) ≤ v2 then
        gb (f_X6_length (f_X6_mantissa x0)) fun r3 =>
        some ((s0 ||| (g_lshl (Int32.toInt64 (v2 + 127)) 23)) ||| ((g_lshr (f_X6_mantissa x0) (r3 - 24)) &&& 8388607))
      else
      gl (((-149 : Int32) - (f_X6_exponent x0)) : Int32) fun v4 =>
      if v4 ≤ 0 then
        some (s0 ||| (g_lshl (f_X6_mantissa x0) (-v4)))
      else
      some (s0 ||| (g_lshr (f_X6_mantissa x0) v4))
    else
    some s0
  else
  some (s0 ||| 2139095040)
set_option maxHeartbeats 4000000 in
set_option maxRecDepth 100000 in
theorem b_X6_floatBits_24 {p : Program} {l : Launch} {e : Env} {s : State} {m : MethodId} {args : Array Value} {below : List Frame} {meth : Method} {c : Code} {E : gE} {G0 : gG} {n0 : Nat} (X : g_X E G0 n0 p s m args meth c cX6_floatBits 6 RX6 "floatBits" (some .long)) {G : gG} {n : Nat} {r : Int64} {H : Heap} {locs : List Loc} (hI : g_I E (g_A G0 n0) G n s.heap H locs) {x0 : Int64} {s0 : Int64} (h : f_X6_floatBits_24 x0 s0 = some r) {ls : Array Slot} (hl : lv_has ls 6 [(0, .long x0)]) : W p l e rm_X6_floatBits s m args below meth c H locs 0 0 (MQ below (g_Q E G0 n0 (some (.long r)) G n) args s rm_X6_floatBits.cells rm_X6_floatBits.slots (g_A G0 n0)) (F0 m 24 ls [.long s0]) := by
  have hx := X.1
  have hb := X.2.1
  unfold f_X6_floatBits_24 at h
  refine lv_lstore_n (lv' := [(2, .long s0), (0, .long x0)]) hx hb dX6_floatBits_24 rfl hl (by decide) rfl (fun ls hl => ?_)
  refine lv_lload_n hx hb dX6_floatBits_25 rfl (lv_at hl 1 rfl) ?_
  refine g_callS X hI (av := [.long x0]) (c_X6_isInfinite x0) gm_X6_isInfinite tw_3_229 tw_3_230 ⟨by decide, by decide⟩ hl.1 (rest := []) rfl (Nat.le_of_ble_eq_true rfl) dX6_floatBits_26 ⟨by decide, by decide⟩ (st1 := [.int (f_X6_isInfinite x0)]) rfl (cells' := 0) (slots' := 0) rfl rfl (fun H locs hI => ?_)
  refine lv_if_eq (tgt := 38) hx hb dX6_floatBits_29 (by decide) (fun c => ?_) (fun c => ?_)
  · have h := g_t _ c h
    refine lv_lload_n hx hb dX6_floatBits_38 rfl (lv_at hl 1 rfl) ?_
    refine g_callS X hI (av := [.long x0]) (c_X6_mantissa x0) gm_X6_mantissa tw_3_233 tw_3_234 ⟨by decide, by decide⟩ hl.1 (rest := []) rfl (Nat.le_of_ble_eq_true rfl) dX6_floatBits_39 ⟨by decide, by decide⟩ (st1 := [.long (f_X6_mantissa x0)]) rfl (cells' := 0) (slots' := 0) rfl rfl (fun H locs hI => ?_)
    obtain ⟨r1, er1, h⟩ := gb_s h
    refine g_callS X hI (av := [.long (f_X6_mantissa x0)]) (c_X6_length er1) gm_X6_length tw_3_201 tw_3_202 ⟨by decide, by decide⟩ hl.1 (rest := []) rfl (Nat.le_of_ble_eq_true rfl) dX6_floatBits_42 ⟨by decide, by decide⟩ (st1 := [.int r1]) rfl (cells' := 0) (slots' := 0) rfl rfl (fun H locs hI => ?_)
    refine lv_lload_n hx hb dX6_floatBits_45 rfl (lv_at hl 1 rfl) ?_
    refine g_callS X hI (av := [.long x0]) (c_X6_exponent x0) gm_X6_exponent tw_3_238 tw_3_239 ⟨by decide, by decide⟩ hl.1 (rest := [.int r1]) rfl (Nat.le_of_ble_eq_true rfl) dX6_floatBits_46 ⟨by decide, by decide⟩ (st1 := [.int (f_X6_exponent x0), .int r1]) rfl (cells' := 0) (slots' := 0) rfl rfl (fun H locs hI => ?_)
    refine lv_iadd (x := r1) (y := (f_X6_exponent x0)) hx hb dX6_floatBits_49 ?_
    refine lv_iconst (v := 1) hx hb dX6_floatBits_50 (by decide) ?_
    refine lv_isub (x := (r1 + (f_X6_exponent x0))) (y := 1) hx hb dX6_floatBits_51 ?_
    obtain ⟨v2, ev2, h⟩ := gl_s h
    refine g_topi ev2 ?_
    refine lv_istore (lv' := [(4, .int v2), (2, .long s0), (0, .long x0)]) hx hb dX6_floatBits_52 hl (by decide) rfl (fun ls hl => ?_)
    refine lv_lload_n hx hb dX6_floatBits_54 rfl (lv_at hl 2 rfl) ?_
    refine g_callS X hI (av := [.long x0]) (c_X6_isZero x0) gm_X6_isZero tw_4_1 tw_4_2 ⟨by decide, by decide⟩ hl.1 (rest := []) rfl (Nat.le_of_ble_eq_true rfl) dX6_floatBits_55 ⟨by decide, by decide⟩ (st1 := [.int (f_X6_isZero x0)]) rfl (cells' := 0) (slots' := 0) rfl rfl (fun H locs hI => ?_)
    refine lv_if_eq (tgt := 63) hx hb dX6_floatBits_58 (by decide) (fun c => ?_) (fun c => ?_)
    · have h := g_t _ c h
      refine lv_iload hx hb dX6_floatBits_63 (lv_at hl 0 rfl) ?_
      refine lv_bipush (v := (-126)) hx hb dX6_floatBits_65 (by decide) ?_
      refine lv_icmp_ge (tgt := 106) hx hb dX6_floatBits_67 (by decide) (fun c => ?_) (fun c => ?_)
      · have h := g_t _ c h
        refine lv_lload_n hx hb dX6_floatBits_106 rfl (lv_at hl 1 rfl) ?_
        refine lv_iload hx hb dX6_floatBits_107 (lv_at hl 0 rfl) ?_
        refine lv_bipush (v := 127) hx hb dX6_floatBits_109 (by decide) ?_
        refine lv_iadd (x := v2) (y := 127) hx hb dX6_floatBits_111 ?_
        refine lv_i2l (v := (Int32.toInt64 (v2 + 127))) hx hb dX6_floatBits_112 rfl ?_
        refine lv_bipush (v := 23) hx hb dX6_floatBits_113 (by decide) ?_
        refine lv_lshl (v := (g_lshl (Int32.toInt64 (v2 + 127)) 23)) hx hb dX6_floatBits_115 rfl ?_
        refine lv_lor (x := s0) (y := (g_lshl (Int32.toInt64 (v2 + 127)) 23)) hx hb dX6_floatBits_116 ?_
        refine lv_lload_n hx hb dX6_floatBits_117 rfl (lv_at hl 2 rfl) ?_
        refine g_callS X hI (av := [.long x0]) (c_X6_mantissa x0) gm_X6_mantissa tw_3_233 tw_3_234 ⟨by decide, by decide⟩ hl.1 (rest := [.long (s0 ||| (g_lshl (Int32.toInt64 (v2 + 127)) 23))]) rfl (Nat.le_of_ble_eq_true rfl) dX6_floatBits_118 ⟨by decide, by decide⟩ (st1 := [.long (f_X6_mantissa x0), .long (s0 ||| (g_lshl (Int32.toInt64 (v2 + 127)) 23))]) rfl (cells' := 0) (slots' := 0) rfl rfl (fun H locs hI => ?_)
        refine lv_lload_n hx hb dX6_floatBits_121 rfl (lv_at hl 2 rfl) ?_
        refine g_callS X hI (av := [.long x0]) (c_X6_mantissa x0) gm_X6_mantissa tw_3_233 tw_3_234 ⟨by decide, by decide⟩ hl.1 (rest := [.long (f_X6_mantissa x0), .long (s0 ||| (g_lshl (Int32.toInt64 (v2 + 127)) 23))]) rfl (Nat.le_of_ble_eq_true rfl) dX6_floatBits_122 ⟨by decide, by decide⟩ (st1 := [.long (f_X6_mantissa x0), .long (f_X6_mantissa x0), .long (s0 ||| (g_lshl (Int32.toInt64 (v2 + 127)) 23))]) rfl (cells' := 0) (slots' := 0) rfl rfl (fun H locs hI => ?_)
        obtain ⟨r3, er3, h⟩ := gb_s h
        refine g_callS X hI (av := [.long (f_X6_mantissa x0)]) (c_X6_length er3) gm_X6_length tw_3_201 tw_3_202 ⟨by decide, by decide⟩ hl.1 (rest := [.long (f_X6_mantissa x0), .long (s0 ||| (g_lshl (Int32.toInt64 (v2 + 127)) 23))]) rfl (Nat.le_of_ble_eq_true rfl) dX6_floatBits_125 ⟨by decide, by decide⟩ (st1 := [.int r3, .long (f_X6_mantissa x0), .long (s0 ||| (g_lshl (Int32.toInt64 (v2 + 127)) 23))]) rfl (cells' := 0) (slots' := 0) rfl rfl (fun H locs hI => ?_)
        refine lv_bipush (v := 24) hx hb dX6_floatBits_128 (by decide) ?_
        refine lv_isub (x := r3) (y := 24) hx hb dX6_floatBits_130 ?_
        refine lv_lshr (v := (g_lshr (f_X6_mantissa x0) (r3 - 24))) hx hb dX6_floatBits_131 rfl ?_
        refine lv_ldc2 (v := 8388607) hx hb X.2.2.2.1 (X.2.2.2.2.1 _ tw_4_4) dX6_floatBits_132 ?_
        refine lv_land (x := (g_lshr (f_X6_mantissa x0) (r3 - 24))) (y := 8388607) hx hb dX6_floatBits_135 ?_
        refine lv_lor (x := (s0 ||| (g_lshl (Int32.toInt64 (v2 + 127)) 23))) (y := ((g_lshr (f_X6_mantissa x0) (r3 - 24)) &&& 8388607)) hx hb dX6_floatBits_136 ?_
        have h := Option.some.inj h
        subst h
        exact g_lret X hI dX6_floatBits_137
      · have h := g_f _ c h
        refine lv_sipush (v := (-149)) hx hb dX6_floatBits_70 (by decide) ?_
        refine lv_lload_n hx hb dX6_floatBits_73 rfl (lv_at hl 2 rfl) ?_
        refine g_callS X hI (av := [.long x0]) (c_X6_exponent x0) gm_X6_exponent tw_3_238 tw_3_239 ⟨by decide, by decide⟩ hl.1 (rest := [.int (-149)]) rfl (Nat.le_of_ble_eq_true rfl) dX6_floatBits_74 ⟨by decide, by decide⟩ (st1 := [.int (f_X6_exponent x0), .int (-149)]) rfl (cells' := 0) (slots' := 0) rfl rfl (fun H locs hI => ?_)
        refine lv_isub (x := (-149)) (y := (f_X6_exponent x0)) hx hb dX6_floatBits_77 ?_
        obtain ⟨v4, ev4, h⟩ := gl_s h
        refine g_topi ev4 ?_
        refine lv_istore (lv' := [(5, .int v4), (4, .int v2), (2, .long s0), (0, .long x0)]) hx hb dX6_floatBits_78 hl (by decide) rfl (fun ls hl => ?_)
        refine lv_lload_n hx hb dX6_floatBits_80 rfl (lv_at hl 2 rfl) ?_
        refine lv_iload hx hb dX6_floatBits_81 (lv_at hl 0 rfl) ?_
        refine lv_if_le (tgt := 96) hx hb dX6_floatBits_83 (by decide) (fun c => ?_) (fun c => ?_)
        · have h := g_t _ c h
          refine lv_lload_n hx hb dX6_floatBits_96 rfl (lv_at hl 3 rfl) ?_
          refine g_callS X hI (av := [.long x0]) (c_X6_mantissa x0) gm_X6_mantissa tw_3_233 tw_3_234 ⟨by decide, by decide⟩ hl.1 (rest := [.long s0]) rfl (Nat.le_of_ble_eq_true rfl) dX6_floatBits_97 ⟨by decide, by decide⟩ (st1 := [.long (f_X6_mantissa x0), .long s0]) rfl (cells' := 0) (slots' := 0) rfl rfl (fun H locs hI => ?_)
          refine lv_iload hx hb dX6_floatBits_100 (lv_at hl 0 rfl) ?_
          refine lv_ineg hx hb dX6_floatBits_102 ?_
          refine lv_lshl (v := (g_lshl (f_X6_mantissa x0) (-v4))) hx hb dX6_floatBits_103 rfl ?_
          refine lv_lor (x := s0) (y := (g_lshl (f_X6_mantissa x0) (-v4))) hx hb dX6_floatBits_104 ?_
          have h := Option.some.inj h
          subst h
          exact g_lret X hI dX6_floatBits_105
        · have h := g_f _ c h
          refine lv_lload_n hx hb dX6_floatBits_86 rfl (lv_at hl 3 rfl) ?_
          refine g_callS X hI (av := [.long x0]) (c_X6_mantissa x0) gm_X6_mantissa tw_3_233 tw_3_234 ⟨by decide, by decide⟩ hl.1 (rest := [.long s0]) rfl (Nat.le_of_ble_eq_true rfl) dX6_floatBits_87 ⟨by decide, by decide⟩ (st1 := [.long (f_X6_mantissa x0), .long s0]) rfl (cells' := 0) (slots' := 0) rfl rfl (fun H locs hI => ?_)
          refine lv_iload hx hb dX6_floatBits_90 (lv_at hl 0 rfl) ?_
          refine lv_lshr (v := (g_lshr (f_X6_mantissa x0) v4)) hx hb dX6_floatBits_92 rfl ?_
          refine lv_goto (tgt := 104) hx hb dX6_floatBits_93 (by decide) ?_
          refine lv_lor (x := s0) (y := (g_lshr (f_X6_mantissa x0) v4)) hx hb dX6_floatBits_104 ?_
          have h := Option.some.inj h
          subst h
          exact g_lret X hI dX6_floatBits_105
    · have h := g_f _ c h
      refine lv_lload_n hx hb dX6_floatBits_61 rfl (lv_at hl 1 rfl) ?_
      have h := Option.some.inj h
      subst h
      exact g_lret X hI dX6_floatBits_62
  · have h := g_f _ c h
    refine lv_lload_n hx hb dX6_floatBits_32 rfl (lv_at hl 0 rfl) ?_
    refine lv_ldc2 (v := 2139095040) hx hb X.2.2.2.1 (X.2.2.2.2.1 _ tw_3_232) dX6_floatBits_33 ?_
    refine lv_lor (x := s0) (y := 2139095040) hx hb dX6_floatBits_36 ?_
    have h := Option.some.inj h
    subst h
    exact g_lret X hI dX6_floatBits_37
def f_X6_floatBits (a0 : Int64) : Option Int64 :=
  if (f_X6_isNan a0) = 0 then
    if (0 : Int64) ≤ a0 then
      f_X6_floatBits_24 a0 0
    else
    f_X6_floatBits_24 a0 (-2147483648)
  else
  some 2143289344
theorem gm_X6_floatBits : g_M yX6_floatBits cX6_floatBits 6 (some .long) 1 := ⟨tw_3_227, tw_1_5, by decide +kernel, Or.inl (by decide +kernel)⟩
set_option maxHeartbeats 4000000 in
set_option maxRecDepth 100000 in
theorem c_X6_floatBits {l : Launch} {E : gE} {G : gG} {n : Nat} {a0 : Int64} {r : Int64} (h : f_X6_floatBits a0 = some r) : g_Met l yX6_floatBits cX6_floatBits 6 (some .long) rm_X6_floatBits E G n [.long a0] (some (.long r)) G n := by
  refine g_ofW gm_X6_floatBits (Nat.le_of_ble_eq_true rfl) ?_
  intro p e s m below meth c ls X hl hI
  have hx := X.1
  have hb := X.2.1
  have X : g_X E G n p s m _ meth c cX6_floatBits 6 RX6 "floatBits" (some .long) := X
  have hl : lv_has ls 6 [(0, .long a0)] := hl
  unfold f_X6_floatBits at h
  refine lv_lload_n hx hb dX6_floatBits_0 rfl (lv_at hl 0 rfl) ?_
  refine g_callS X hI (av := [.long a0]) (c_X6_isNan a0) gm_X6_isNan tw_3_137 tw_3_138 ⟨by decide, by decide⟩ hl.1 (rest := []) rfl (Nat.le_of_ble_eq_true rfl) dX6_floatBits_1 ⟨by decide, by decide⟩ (st1 := [.int (f_X6_isNan a0)]) rfl (cells' := 0) (slots' := 0) rfl rfl (fun H locs hI => ?_)
  refine lv_if_eq (tgt := 11) hx hb dX6_floatBits_4 (by decide) (fun c => ?_) (fun c => ?_)
  · have h := g_t _ c h
    refine lv_lload_n hx hb dX6_floatBits_11 rfl (lv_at hl 0 rfl) ?_
    refine lv_lconst (v := 0) hx hb dX6_floatBits_12 (by decide) ?_
    refine W.lcmp hx hb dX6_floatBits_13 ?_
    refine lv_if_ge (tgt := 23) hx hb dX6_floatBits_14 (by decide) (fun c => ?_) (fun c => ?_)
    · have h := g_t _ ((lg_cmp_ge _ _).mp c) h
      refine lv_lconst (v := 0) hx hb dX6_floatBits_23 (by decide) ?_
      exact b_X6_floatBits_24 X hI h (lv_sub hl [0] rfl)
    · have h := g_f _ (fun q => c ((lg_cmp_ge _ _).mpr q)) h
      refine lv_ldc2 (v := (-2147483648)) hx hb X.2.2.2.1 (X.2.2.2.2.1 _ tw_3_228) dX6_floatBits_17 ?_
      refine lv_goto (tgt := 24) hx hb dX6_floatBits_20 (by decide) ?_
      exact b_X6_floatBits_24 X hI h (lv_sub hl [0] rfl)
  · have h := g_f _ c h
    refine lv_ldc2 (v := 2143289344) hx hb X.2.2.2.1 (X.2.2.2.2.1 _ tw_3_136) dX6_floatBits_7 ?_
    have h := Option.some.inj h
    subst h
    exact g_lret X hI dX6_floatBits_10
abbrev rm_X6_wide : Room := { frames := 2, cells := 0, slots := 0, locals := 51 }
def f_X6_wide_27 (x2 : Int32) (x3 : Int64) (s0 : Int32) : Option Int64 :=
  if x2 = 255 then
    if x3 = 0 then
      some (f_X6_signed s0 (9218868437227405312 : Int64))
    else
    some 9221120237041090560
  else
  if x2 = 0 then
    gb (f_X6_pack s0 x3 (-149 : Int32)) fun r2 =>
    some r2
  else
  gb (f_X6_pack s0 (x3 ||| 8388608) (x2 - 150)) fun r1 =>
  some r1
set_option maxHeartbeats 4000000 in
set_option maxRecDepth 100000 in
theorem b_X6_wide_27 {p : Program} {l : Launch} {e : Env} {s : State} {m : MethodId} {args : Array Value} {below : List Frame} {meth : Method} {c : Code} {E : gE} {G0 : gG} {n0 : Nat} (X : g_X E G0 n0 p s m args meth c cX6_wide 6 RX6 "wide" (some .long)) {G : gG} {n : Nat} {r : Int64} {H : Heap} {locs : List Loc} (hI : g_I E (g_A G0 n0) G n s.heap H locs) {x2 : Int32} {x3 : Int64} {s0 : Int32} (h : f_X6_wide_27 x2 x3 s0 = some r) {ls : Array Slot} (hl : lv_has ls 6 [(2, .int x2), (3, .long x3)]) : W p l e rm_X6_wide s m args below meth c H locs 0 0 (MQ below (g_Q E G0 n0 (some (.long r)) G n) args s rm_X6_wide.cells rm_X6_wide.slots (g_A G0 n0)) (F0 m 27 ls [.int s0]) := by
  have hx := X.1
  have hb := X.2.1
  unfold f_X6_wide_27 at h
  refine lv_istore (lv' := [(5, .int s0), (2, .int x2), (3, .long x3)]) hx hb dX6_wide_27 hl (by decide) rfl (fun ls hl => ?_)
  refine lv_iload_n hx hb dX6_wide_29 rfl (lv_at hl 1 rfl) ?_
  refine lv_sipush (v := 255) hx hb dX6_wide_30 (by decide) ?_
  refine lv_icmp_ne (tgt := 57) hx hb dX6_wide_33 (by decide) (fun c => ?_) (fun c => ?_)
  · have h := g_f _ c h
    refine lv_iload_n hx hb dX6_wide_57 rfl (lv_at hl 1 rfl) ?_
    refine lv_if_ne (tgt := 73) hx hb dX6_wide_58 (by decide) (fun c => ?_) (fun c => ?_)
    · have h := g_f _ c h
      refine lv_iload hx hb dX6_wide_73 (lv_at hl 0 rfl) ?_
      refine lv_lload_n hx hb dX6_wide_75 rfl (lv_at hl 2 rfl) ?_
      refine lv_ldc2 (v := 8388608) hx hb X.2.2.2.1 (X.2.2.2.2.1 _ tw_4_9) dX6_wide_76 ?_
      refine lv_lor (x := x3) (y := 8388608) hx hb dX6_wide_79 ?_
      refine lv_iload_n hx hb dX6_wide_80 rfl (lv_at hl 1 rfl) ?_
      refine lv_sipush (v := 150) hx hb dX6_wide_81 (by decide) ?_
      refine lv_isub (x := x2) (y := 150) hx hb dX6_wide_84 ?_
      obtain ⟨r1, er1, h⟩ := gb_s h
      refine g_callS X hI (av := [.int s0, .long (x3 ||| 8388608), .int (x2 - 150)]) (c_X6_pack er1) gm_X6_pack tw_3_220 tw_3_221 ⟨by decide, by decide⟩ hl.1 (rest := []) rfl (Nat.le_of_ble_eq_true rfl) dX6_wide_85 ⟨by decide, by decide⟩ (st1 := [.long r1]) rfl (cells' := 0) (slots' := 0) rfl rfl (fun H locs hI => ?_)
      have h := Option.some.inj h
      subst h
      exact g_lret X hI dX6_wide_88
    · have h := g_t _ c h
      refine lv_iload hx hb dX6_wide_61 (lv_at hl 0 rfl) ?_
      refine lv_lload_n hx hb dX6_wide_63 rfl (lv_at hl 2 rfl) ?_
      refine lv_sipush (v := (-149)) hx hb dX6_wide_64 (by decide) ?_
      obtain ⟨r2, er2, h⟩ := gb_s h
      refine g_callS X hI (av := [.int s0, .long x3, .int (-149)]) (c_X6_pack er2) gm_X6_pack tw_3_220 tw_3_221 ⟨by decide, by decide⟩ hl.1 (rest := []) rfl (Nat.le_of_ble_eq_true rfl) dX6_wide_67 ⟨by decide, by decide⟩ (st1 := [.long r2]) rfl (cells' := 0) (slots' := 0) rfl rfl (fun H locs hI => ?_)
      refine lv_goto (tgt := 88) hx hb dX6_wide_70 (by decide) ?_
      have h := Option.some.inj h
      subst h
      exact g_lret X hI dX6_wide_88
  · have h := g_t _ c h
    refine lv_lload_n hx hb dX6_wide_36 rfl (lv_at hl 2 rfl) ?_
    refine lv_lconst (v := 0) hx hb dX6_wide_37 (by decide) ?_
    refine W.lcmp hx hb dX6_wide_38 ?_
    refine lv_if_eq (tgt := 48) hx hb dX6_wide_39 (by decide) (fun c => ?_) (fun c => ?_)
    · have h := g_t _ ((lg_cmp_eq _ _).mp c) h
      refine lv_iload hx hb dX6_wide_48 (lv_at hl 0 rfl) ?_
      refine lv_ldc2 (v := 9218868437227405312) hx hb X.2.2.2.1 (X.2.2.2.2.1 _ tw_3_141) dX6_wide_50 ?_
      refine g_callS X hI (av := [.int s0, .long 9218868437227405312]) (c_X6_signed s0 (9218868437227405312 : Int64)) gm_X6_signed tw_3_207 tw_3_208 ⟨by decide, by decide⟩ hl.1 (rest := []) rfl (Nat.le_of_ble_eq_true rfl) dX6_wide_53 ⟨by decide, by decide⟩ (st1 := [.long (f_X6_signed s0 (9218868437227405312 : Int64))]) rfl (cells' := 0) (slots' := 0) rfl rfl (fun H locs hI => ?_)
      have h := Option.some.inj h
      subst h
      exact g_lret X hI dX6_wide_56
    · have h := g_f _ (fun q => c ((lg_cmp_eq _ _).mpr q)) h
      refine lv_ldc2 (v := 9221120237041090560) hx hb X.2.2.2.1 (X.2.2.2.2.1 _ tw_3_142) dX6_wide_42 ?_
      refine lv_goto (tgt := 56) hx hb dX6_wide_45 (by decide) ?_
      have h := Option.some.inj h
      subst h
      exact g_lret X hI dX6_wide_56
def f_X6_wide (a0 : Int64) : Option Int64 :=
  gl ((Int64.toInt32 ((g_lshr a0 23) &&& 255)) : Int32) fun v1 =>
  gl ((a0 &&& 8388607) : Int64) fun v2 =>
  if (0 : Int64) ≤ a0 then
    f_X6_wide_27 v1 v2 0
  else
  f_X6_wide_27 v1 v2 1
theorem gm_X6_wide : g_M yX6_wide cX6_wide 6 (some .long) 1 := ⟨tw_4_7, tw_1_5, by decide +kernel, Or.inl (by decide +kernel)⟩
set_option maxHeartbeats 4000000 in
set_option maxRecDepth 100000 in
theorem c_X6_wide {l : Launch} {E : gE} {G : gG} {n : Nat} {a0 : Int64} {r : Int64} (h : f_X6_wide a0 = some r) : g_Met l yX6_wide cX6_wide 6 (some .long) rm_X6_wide E G n [.long a0] (some (.long r)) G n := by
  refine g_ofW gm_X6_wide (Nat.le_of_ble_eq_true rfl) ?_
  intro p e s m below meth c ls X hl hI
  have hx := X.1
  have hb := X.2.1
  have X : g_X E G n p s m _ meth c cX6_wide 6 RX6 "wide" (some .long) := X
  have hl : lv_has ls 6 [(0, .long a0)] := hl
  unfold f_X6_wide at h
  refine lv_lload_n hx hb dX6_wide_0 rfl (lv_at hl 0 rfl) ?_
  refine lv_bipush (v := 23) hx hb dX6_wide_1 (by decide) ?_
  refine lv_lshr (v := (g_lshr a0 23)) hx hb dX6_wide_3 rfl ?_
  refine lv_ldc2 (v := 255) hx hb X.2.2.2.1 (X.2.2.2.2.1 _ tw_4_8) dX6_wide_4 ?_
  refine lv_land (x := (g_lshr a0 23)) (y := 255) hx hb dX6_wide_7 ?_
  refine lv_l2i (v := (Int64.toInt32 ((g_lshr a0 23) &&& 255))) hx hb dX6_wide_8 rfl ?_
  obtain ⟨v1, ev1, h⟩ := gl_s h
  refine g_topi ev1 ?_
  refine lv_istore_n (lv' := [(2, .int v1), (0, .long a0)]) hx hb dX6_wide_9 rfl hl (by decide) rfl (fun ls hl => ?_)
  refine lv_lload_n hx hb dX6_wide_10 rfl (lv_at hl 1 rfl) ?_
  refine lv_ldc2 (v := 8388607) hx hb X.2.2.2.1 (X.2.2.2.2.1 _ tw_4_4) dX6_wide_11 ?_
  refine lv_land (x := a0) (y := 8388607) hx hb dX6_wide_14 ?_
  obtain ⟨v2, ev2, h⟩ := gl_s h
  refine g_topl ev2 ?_
  refine lv_lstore_n (lv' := [(3, .long v2), (2, .int v1), (0, .long a0)]) hx hb dX6_wide_15 rfl hl (by decide) rfl (fun ls hl => ?_)
  refine lv_lload_n hx hb dX6_wide_16 rfl (lv_at hl 2 rfl) ?_
  refine lv_lconst (v := 0) hx hb dX6_wide_17 (by decide) ?_
  refine W.lcmp hx hb dX6_wide_18 ?_
  refine lv_if_ge (tgt := 26) hx hb dX6_wide_19 (by decide) (fun c => ?_) (fun c => ?_)
  · have h := g_t _ ((lg_cmp_ge _ _).mp c) h
    refine lv_iconst (v := 0) hx hb dX6_wide_26 (by decide) ?_
    exact b_X6_wide_27 X hI h (lv_sub hl [1, 0] rfl)
  · have h := g_f _ (fun q => c ((lg_cmp_ge _ _).mpr q)) h
    refine lv_iconst (v := 1) hx hb dX6_wide_22 (by decide) ?_
    refine lv_goto (tgt := 27) hx hb dX6_wide_23 (by decide) ?_
    exact b_X6_wide_27 X hI h (lv_sub hl [1, 0] rfl)
abbrev rm_X6_times : Room := { frames := 3, cells := 0, slots := 0, locals := 85 }
def f_X6_times_298 (x4 : Int32) (x5 : Int32) (x14 : Int64) (x16 : Int64) (x18 : Int32) (x19 : Int32) (s0 : Int32) : Option Int64 :=
  gb (f_X6_fit x5 ((g_lshl x16 x19) ||| (g_lshr x14 ((54 : Int32) - x19))) ((x18 + 54) - x19) s0 x4) fun r1 =>
  some r1
set_option maxHeartbeats 4000000 in
set_option maxRecDepth 100000 in
theorem b_X6_times_298 {p : Program} {l : Launch} {e : Env} {s : State} {m : MethodId} {args : Array Value} {below : List Frame} {meth : Method} {c : Code} {E : gE} {G0 : gG} {n0 : Nat} (X : g_X E G0 n0 p s m args meth c cX6_times 21 RX6 "times" (some .long)) {G : gG} {n : Nat} {r : Int64} {H : Heap} {locs : List Loc} (hI : g_I E (g_A G0 n0) G n s.heap H locs) {x4 : Int32} {x5 : Int32} {x14 : Int64} {x16 : Int64} {x18 : Int32} {x19 : Int32} {s0 : Int32} (h : f_X6_times_298 x4 x5 x14 x16 x18 x19 s0 = some r) {ls : Array Slot} (hl : lv_has ls 21 [(4, .int x4), (5, .int x5), (14, .long x14), (16, .long x16), (18, .int x18), (19, .int x19)]) : W p l e rm_X6_times s m args below meth c H locs 0 0 (MQ below (g_Q E G0 n0 (some (.long r)) G n) args s rm_X6_times.cells rm_X6_times.slots (g_A G0 n0)) (F0 m 298 ls [.int s0]) := by
  have hx := X.1
  have hb := X.2.1
  unfold f_X6_times_298 at h
  refine lv_istore (lv' := [(20, .int s0), (4, .int x4), (5, .int x5), (14, .long x14), (16, .long x16), (18, .int x18), (19, .int x19)]) hx hb dX6_times_298 hl (by decide) rfl (fun ls hl => ?_)
  refine lv_iload hx hb dX6_times_300 (lv_at hl 2 rfl) ?_
  refine lv_lload hx hb dX6_times_302 (lv_at hl 4 rfl) ?_
  refine lv_iload hx hb dX6_times_304 (lv_at hl 6 rfl) ?_
  refine lv_lshl (v := (g_lshl x16 x19)) hx hb dX6_times_306 rfl ?_
  refine lv_lload hx hb dX6_times_307 (lv_at hl 3 rfl) ?_
  refine lv_bipush (v := 54) hx hb dX6_times_309 (by decide) ?_
  refine lv_iload hx hb dX6_times_311 (lv_at hl 6 rfl) ?_
  refine lv_isub (x := 54) (y := x19) hx hb dX6_times_313 ?_
  refine lv_lshr (v := (g_lshr x14 ((54 : Int32) - x19))) hx hb dX6_times_314 rfl ?_
  refine lv_lor (x := (g_lshl x16 x19)) (y := (g_lshr x14 ((54 : Int32) - x19))) hx hb dX6_times_315 ?_
  refine lv_iload hx hb dX6_times_316 (lv_at hl 5 rfl) ?_
  refine lv_bipush (v := 54) hx hb dX6_times_318 (by decide) ?_
  refine lv_iadd (x := x18) (y := 54) hx hb dX6_times_320 ?_
  refine lv_iload hx hb dX6_times_321 (lv_at hl 6 rfl) ?_
  refine lv_isub (x := (x18 + 54)) (y := x19) hx hb dX6_times_323 ?_
  refine lv_iload hx hb dX6_times_324 (lv_at hl 0 rfl) ?_
  refine lv_iload hx hb dX6_times_326 (lv_at hl 1 rfl) ?_
  obtain ⟨r1, er1, h⟩ := gb_s h
  refine g_callS X hI (av := [.int x5, .long ((g_lshl x16 x19) ||| (g_lshr x14 ((54 : Int32) - x19))), .int ((x18 + 54) - x19), .int s0, .int x4]) (c_X6_fit er1) gm_X6_fit tw_3_204 tw_3_205 ⟨by decide, by decide⟩ hl.1 (rest := []) rfl (Nat.le_of_ble_eq_true rfl) dX6_times_328 ⟨by decide, by decide⟩ (st1 := [.long r1]) rfl (cells' := 0) (slots' := 0) rfl rfl (fun H locs hI => ?_)
  have h := Option.some.inj h
  subst h
  exact g_lret X hI dX6_times_331
def f_X6_times_274 (x4 : Int32) (x5 : Int32) (x14 : Int64) (x16 : Int64) (x18 : Int32) (s0 : Int32) : Option Int64 :=
  if (x14 &&& ((g_lshl 1 ((54 : Int32) - s0)) - 1)) = 0 then
    f_X6_times_298 x4 x5 x14 x16 x18 s0 0
  else
  f_X6_times_298 x4 x5 x14 x16 x18 s0 1
set_option maxHeartbeats 4000000 in
set_option maxRecDepth 100000 in
theorem b_X6_times_274 {p : Program} {l : Launch} {e : Env} {s : State} {m : MethodId} {args : Array Value} {below : List Frame} {meth : Method} {c : Code} {E : gE} {G0 : gG} {n0 : Nat} (X : g_X E G0 n0 p s m args meth c cX6_times 21 RX6 "times" (some .long)) {G : gG} {n : Nat} {r : Int64} {H : Heap} {locs : List Loc} (hI : g_I E (g_A G0 n0) G n s.heap H locs) {x4 : Int32} {x5 : Int32} {x14 : Int64} {x16 : Int64} {x18 : Int32} {s0 : Int32} (h : f_X6_times_274 x4 x5 x14 x16 x18 s0 = some r) {ls : Array Slot} (hl : lv_has ls 21 [(4, .int x4), (5, .int x5), (14, .long x14), (16, .long x16), (18, .int x18)]) : W p l e rm_X6_times s m args below meth c H locs 0 0 (MQ below (g_Q E G0 n0 (some (.long r)) G n) args s rm_X6_times.cells rm_X6_times.slots (g_A G0 n0)) (F0 m 274 ls [.int s0]) := by
  have hx := X.1
  have hb := X.2.1
  unfold f_X6_times_274 at h
  refine lv_istore (lv' := [(19, .int s0), (4, .int x4), (5, .int x5), (14, .long x14), (16, .long x16), (18, .int x18)]) hx hb dX6_times_274 hl (by decide) rfl (fun ls hl => ?_)
  refine lv_lload hx hb dX6_times_276 (lv_at hl 3 rfl) ?_
  refine lv_lconst (v := 1) hx hb dX6_times_278 (by decide) ?_
  refine lv_bipush (v := 54) hx hb dX6_times_279 (by decide) ?_
  refine lv_iload hx hb dX6_times_281 (lv_at hl 0 rfl) ?_
  refine lv_isub (x := 54) (y := s0) hx hb dX6_times_283 ?_
  refine lv_lshl (v := (g_lshl 1 ((54 : Int32) - s0))) hx hb dX6_times_284 rfl ?_
  refine lv_lconst (v := 1) hx hb dX6_times_285 (by decide) ?_
  refine lv_lsub (x := (g_lshl 1 ((54 : Int32) - s0))) (y := 1) hx hb dX6_times_286 ?_
  refine lv_land (x := x14) (y := ((g_lshl 1 ((54 : Int32) - s0)) - 1)) hx hb dX6_times_287 ?_
  refine lv_lconst (v := 0) hx hb dX6_times_288 (by decide) ?_
  refine W.lcmp hx hb dX6_times_289 ?_
  refine lv_if_eq (tgt := 297) hx hb dX6_times_290 (by decide) (fun c => ?_) (fun c => ?_)
  · have h := g_t _ ((lg_cmp_eq _ _).mp c) h
    refine lv_iconst (v := 0) hx hb dX6_times_297 (by decide) ?_
    exact b_X6_times_298 X hI h (lv_sub hl [1, 2, 3, 4, 5, 0] rfl)
  · have h := g_f _ (fun q => c ((lg_cmp_eq _ _).mpr q)) h
    refine lv_iconst (v := 1) hx hb dX6_times_293 (by decide) ?_
    refine lv_goto (tgt := 298) hx hb dX6_times_294 (by decide) ?_
    exact b_X6_times_298 X hI h (lv_sub hl [1, 2, 3, 4, 5, 0] rfl)
def f_X6_times_115 (x5 : Int32) : Option Int64 :=
  some (f_X6_signed x5 (0 : Int64))
set_option maxHeartbeats 4000000 in
set_option maxRecDepth 100000 in
theorem b_X6_times_115 {p : Program} {l : Launch} {e : Env} {s : State} {m : MethodId} {args : Array Value} {below : List Frame} {meth : Method} {c : Code} {E : gE} {G0 : gG} {n0 : Nat} (X : g_X E G0 n0 p s m args meth c cX6_times 21 RX6 "times" (some .long)) {G : gG} {n : Nat} {r : Int64} {H : Heap} {locs : List Loc} (hI : g_I E (g_A G0 n0) G n s.heap H locs) {x5 : Int32} (h : f_X6_times_115 x5 = some r) {ls : Array Slot} (hl : lv_has ls 21 [(5, .int x5)]) : W p l e rm_X6_times s m args below meth c H locs 0 0 (MQ below (g_Q E G0 n0 (some (.long r)) G n) args s rm_X6_times.cells rm_X6_times.slots (g_A G0 n0)) (F0 m 115 ls []) := by
  have hx := X.1
  have hb := X.2.1
  unfold f_X6_times_115 at h
  refine lv_iload hx hb dX6_times_115 (lv_at hl 0 rfl) ?_
  refine lv_lconst (v := 0) hx hb dX6_times_117 (by decide) ?_
  refine g_callS X hI (av := [.int x5, .long 0]) (c_X6_signed x5 (0 : Int64)) gm_X6_signed tw_3_207 tw_3_208 ⟨by decide, by decide⟩ hl.1 (rest := []) rfl (Nat.le_of_ble_eq_true rfl) dX6_times_118 ⟨by decide, by decide⟩ (st1 := [.long (f_X6_signed x5 (0 : Int64))]) rfl (cells' := 0) (slots' := 0) rfl rfl (fun H locs hI => ?_)
  have h := Option.some.inj h
  subst h
  exact g_lret X hI dX6_times_121
def f_X6_times_92 (x5 : Int32) : Option Int64 :=
  some (f_X6_signed x5 (9218868437227405312 : Int64))
set_option maxHeartbeats 4000000 in
set_option maxRecDepth 100000 in
theorem b_X6_times_92 {p : Program} {l : Launch} {e : Env} {s : State} {m : MethodId} {args : Array Value} {below : List Frame} {meth : Method} {c : Code} {E : gE} {G0 : gG} {n0 : Nat} (X : g_X E G0 n0 p s m args meth c cX6_times 21 RX6 "times" (some .long)) {G : gG} {n : Nat} {r : Int64} {H : Heap} {locs : List Loc} (hI : g_I E (g_A G0 n0) G n s.heap H locs) {x5 : Int32} (h : f_X6_times_92 x5 = some r) {ls : Array Slot} (hl : lv_has ls 21 [(5, .int x5)]) : W p l e rm_X6_times s m args below meth c H locs 0 0 (MQ below (g_Q E G0 n0 (some (.long r)) G n) args s rm_X6_times.cells rm_X6_times.slots (g_A G0 n0)) (F0 m 92 ls []) := by
  have hx := X.1
  have hb := X.2.1
  unfold f_X6_times_92 at h
  refine lv_iload hx hb dX6_times_92 (lv_at hl 0 rfl) ?_
  refine lv_ldc2 (v := 9218868437227405312) hx hb X.2.2.2.1 (X.2.2.2.2.1 _ tw_3_141) dX6_times_94 ?_
  refine g_callS X hI (av := [.int x5, .long 9218868437227405312]) (c_X6_signed x5 (9218868437227405312 : Int64)) gm_X6_signed tw_3_207 tw_3_208 ⟨by decide, by decide⟩ hl.1 (rest := []) rfl (Nat.le_of_ble_eq_true rfl) dX6_times_97 ⟨by decide, by decide⟩ (st1 := [.long (f_X6_signed x5 (9218868437227405312 : Int64))]) rfl (cells' := 0) (slots' := 0) rfl rfl (fun H locs hI => ?_)
  have h := Option.some.inj h
  subst h
  exact g_lret X hI dX6_times_100
def f_X6_times_78 (x0 : Int64) (x2 : Int64) (x4 : Int32) (x5 : Int32) : Option Int64 :=
  if (f_X6_isInfinite x0) = 0 then
    if (f_X6_isInfinite x2) = 0 then
      if (f_X6_isZero x0) = 0 then
        if (f_X6_isZero x2) = 0 then
          gl ((f_X6_mantissa x0) : Int64) fun v1 =>
          gl ((f_X6_mantissa x2) : Int64) fun v2 =>
          gl ((((g_lshr v1 27) * (v2 &&& 134217727)) + ((v1 &&& 134217727) * (g_lshr v2 27))) : Int64) fun v3 =>
          gl (((g_lshl (v3 &&& 134217727) 27) + ((v1 &&& 134217727) * (v2 &&& 134217727))) : Int64) fun v4 =>
          gl (((((g_lshr v1 27) * (g_lshr v2 27)) + (g_lshr v3 27)) + (g_lshr v4 54)) : Int64) fun v5 =>
          gl ((v4 &&& 18014398509481983) : Int64) fun v6 =>
          gl (((f_X6_exponent x0) + (f_X6_exponent x2)) : Int32) fun v7 =>
          if v5 = 0 then
            gb (f_X6_fit x5 v6 v7 (0 : Int32) x4) fun r10 =>
            some r10
          else
          gb (f_X6_length v5) fun r8 =>
          gl (((62 : Int32) - r8) : Int32) fun v9 =>
          if v9 ≤ 54 then
            f_X6_times_274 x4 x5 v6 v5 v7 v9
          else
          f_X6_times_274 x4 x5 v6 v5 v7 54
        else
        f_X6_times_115 x5
      else
      f_X6_times_115 x5
    else
    f_X6_times_92 x5
  else
  f_X6_times_92 x5
set_option maxHeartbeats 4000000 in
set_option maxRecDepth 100000 in
theorem b_X6_times_78 {p : Program} {l : Launch} {e : Env} {s : State} {m : MethodId} {args : Array Value} {below : List Frame} {meth : Method} {c : Code} {E : gE} {G0 : gG} {n0 : Nat} (X : g_X E G0 n0 p s m args meth c cX6_times 21 RX6 "times" (some .long)) {G : gG} {n : Nat} {r : Int64} {H : Heap} {locs : List Loc} (hI : g_I E (g_A G0 n0) G n s.heap H locs) {x0 : Int64} {x2 : Int64} {x4 : Int32} {x5 : Int32} (h : f_X6_times_78 x0 x2 x4 x5 = some r) {ls : Array Slot} (hl : lv_has ls 21 [(0, .long x0), (2, .long x2), (4, .int x4), (5, .int x5)]) : W p l e rm_X6_times s m args below meth c H locs 0 0 (MQ below (g_Q E G0 n0 (some (.long r)) G n) args s rm_X6_times.cells rm_X6_times.slots (g_A G0 n0)) (F0 m 78 ls []) := by
  have hx := X.1
  have hb := X.2.1
  unfold f_X6_times_78 at h
  refine lv_lload_n hx hb dX6_times_78 rfl (lv_at hl 0 rfl) ?_
  refine g_callS X hI (av := [.long x0]) (c_X6_isInfinite x0) gm_X6_isInfinite tw_3_229 tw_3_230 ⟨by decide, by decide⟩ hl.1 (rest := []) rfl (Nat.le_of_ble_eq_true rfl) dX6_times_79 ⟨by decide, by decide⟩ (st1 := [.int (f_X6_isInfinite x0)]) rfl (cells' := 0) (slots' := 0) rfl rfl (fun H locs hI => ?_)
  refine lv_if_ne (tgt := 92) hx hb dX6_times_82 (by decide) (fun c => ?_) (fun c => ?_)
  · have h := g_f _ c h
    exact b_X6_times_92 X hI h (lv_sub hl [3] rfl)
  · have h := g_t _ c h
    refine lv_lload_n hx hb dX6_times_85 rfl (lv_at hl 1 rfl) ?_
    refine g_callS X hI (av := [.long x2]) (c_X6_isInfinite x2) gm_X6_isInfinite tw_3_229 tw_3_230 ⟨by decide, by decide⟩ hl.1 (rest := []) rfl (Nat.le_of_ble_eq_true rfl) dX6_times_86 ⟨by decide, by decide⟩ (st1 := [.int (f_X6_isInfinite x2)]) rfl (cells' := 0) (slots' := 0) rfl rfl (fun H locs hI => ?_)
    refine lv_if_eq (tgt := 101) hx hb dX6_times_89 (by decide) (fun c => ?_) (fun c => ?_)
    · have h := g_t _ c h
      refine lv_lload_n hx hb dX6_times_101 rfl (lv_at hl 0 rfl) ?_
      refine g_callS X hI (av := [.long x0]) (c_X6_isZero x0) gm_X6_isZero tw_4_1 tw_4_2 ⟨by decide, by decide⟩ hl.1 (rest := []) rfl (Nat.le_of_ble_eq_true rfl) dX6_times_102 ⟨by decide, by decide⟩ (st1 := [.int (f_X6_isZero x0)]) rfl (cells' := 0) (slots' := 0) rfl rfl (fun H locs hI => ?_)
      refine lv_if_ne (tgt := 115) hx hb dX6_times_105 (by decide) (fun c => ?_) (fun c => ?_)
      · have h := g_f _ c h
        exact b_X6_times_115 X hI h (lv_sub hl [3] rfl)
      · have h := g_t _ c h
        refine lv_lload_n hx hb dX6_times_108 rfl (lv_at hl 1 rfl) ?_
        refine g_callS X hI (av := [.long x2]) (c_X6_isZero x2) gm_X6_isZero tw_4_1 tw_4_2 ⟨by decide, by decide⟩ hl.1 (rest := []) rfl (Nat.le_of_ble_eq_true rfl) dX6_times_109 ⟨by decide, by decide⟩ (st1 := [.int (f_X6_isZero x2)]) rfl (cells' := 0) (slots' := 0) rfl rfl (fun H locs hI => ?_)
        refine lv_if_eq (tgt := 122) hx hb dX6_times_112 (by decide) (fun c => ?_) (fun c => ?_)
        · have h := g_t _ c h
          refine lv_ldc2 (v := 134217727) hx hb X.2.2.2.1 (X.2.2.2.2.1 _ tw_4_35) dX6_times_122 ?_
          refine lv_lstore (lv' := [(6, .long 134217727), (0, .long x0), (2, .long x2), (4, .int x4), (5, .int x5)]) hx hb dX6_times_125 hl (by decide) rfl (fun ls hl => ?_)
          refine lv_lload_n hx hb dX6_times_127 rfl (lv_at hl 1 rfl) ?_
          refine g_callS X hI (av := [.long x0]) (c_X6_mantissa x0) gm_X6_mantissa tw_3_233 tw_3_234 ⟨by decide, by decide⟩ hl.1 (rest := []) rfl (Nat.le_of_ble_eq_true rfl) dX6_times_128 ⟨by decide, by decide⟩ (st1 := [.long (f_X6_mantissa x0)]) rfl (cells' := 0) (slots' := 0) rfl rfl (fun H locs hI => ?_)
          obtain ⟨v1, ev1, h⟩ := gl_s h
          refine g_topl ev1 ?_
          refine lv_lstore (lv' := [(8, .long v1), (6, .long 134217727), (0, .long x0), (2, .long x2), (4, .int x4), (5, .int x5)]) hx hb dX6_times_131 hl (by decide) rfl (fun ls hl => ?_)
          refine lv_lload_n hx hb dX6_times_133 rfl (lv_at hl 3 rfl) ?_
          refine g_callS X hI (av := [.long x2]) (c_X6_mantissa x2) gm_X6_mantissa tw_3_233 tw_3_234 ⟨by decide, by decide⟩ hl.1 (rest := []) rfl (Nat.le_of_ble_eq_true rfl) dX6_times_134 ⟨by decide, by decide⟩ (st1 := [.long (f_X6_mantissa x2)]) rfl (cells' := 0) (slots' := 0) rfl rfl (fun H locs hI => ?_)
          obtain ⟨v2, ev2, h⟩ := gl_s h
          refine g_topl ev2 ?_
          refine lv_lstore (lv' := [(10, .long v2), (8, .long v1), (6, .long 134217727), (0, .long x0), (2, .long x2), (4, .int x4), (5, .int x5)]) hx hb dX6_times_137 hl (by decide) rfl (fun ls hl => ?_)
          refine lv_lload hx hb dX6_times_139 (lv_at hl 1 rfl) ?_
          refine lv_bipush (v := 27) hx hb dX6_times_141 (by decide) ?_
          refine lv_lshr (v := (g_lshr v1 27)) hx hb dX6_times_143 rfl ?_
          refine lv_lload hx hb dX6_times_144 (lv_at hl 0 rfl) ?_
          refine lv_lload hx hb dX6_times_146 (lv_at hl 2 rfl) ?_
          refine lv_land (x := v2) (y := 134217727) hx hb dX6_times_148 ?_
          refine lv_lmul (x := (g_lshr v1 27)) (y := (v2 &&& 134217727)) hx hb dX6_times_149 ?_
          refine lv_lload hx hb dX6_times_150 (lv_at hl 1 rfl) ?_
          refine lv_lload hx hb dX6_times_152 (lv_at hl 2 rfl) ?_
          refine lv_land (x := v1) (y := 134217727) hx hb dX6_times_154 ?_
          refine lv_lload hx hb dX6_times_155 (lv_at hl 0 rfl) ?_
          refine lv_bipush (v := 27) hx hb dX6_times_157 (by decide) ?_
          refine lv_lshr (v := (g_lshr v2 27)) hx hb dX6_times_159 rfl ?_
          refine lv_lmul (x := (v1 &&& 134217727)) (y := (g_lshr v2 27)) hx hb dX6_times_160 ?_
          refine lv_ladd (x := ((g_lshr v1 27) * (v2 &&& 134217727))) (y := ((v1 &&& 134217727) * (g_lshr v2 27))) hx hb dX6_times_161 ?_
          obtain ⟨v3, ev3, h⟩ := gl_s h
          refine g_topl ev3 ?_
          refine lv_lstore (lv' := [(12, .long v3), (10, .long v2), (8, .long v1), (6, .long 134217727), (0, .long x0), (2, .long x2), (4, .int x4), (5, .int x5)]) hx hb dX6_times_162 hl (by decide) rfl (fun ls hl => ?_)
          refine lv_lload hx hb dX6_times_164 (lv_at hl 0 rfl) ?_
          refine lv_lload hx hb dX6_times_166 (lv_at hl 3 rfl) ?_
          refine lv_land (x := v3) (y := 134217727) hx hb dX6_times_168 ?_
          refine lv_bipush (v := 27) hx hb dX6_times_169 (by decide) ?_
          refine lv_lshl (v := (g_lshl (v3 &&& 134217727) 27)) hx hb dX6_times_171 rfl ?_
          refine lv_lload hx hb dX6_times_172 (lv_at hl 2 rfl) ?_
          refine lv_lload hx hb dX6_times_174 (lv_at hl 3 rfl) ?_
          refine lv_land (x := v1) (y := 134217727) hx hb dX6_times_176 ?_
          refine lv_lload hx hb dX6_times_177 (lv_at hl 1 rfl) ?_
          refine lv_lload hx hb dX6_times_179 (lv_at hl 3 rfl) ?_
          refine lv_land (x := v2) (y := 134217727) hx hb dX6_times_181 ?_
          refine lv_lmul (x := (v1 &&& 134217727)) (y := (v2 &&& 134217727)) hx hb dX6_times_182 ?_
          refine lv_ladd (x := (g_lshl (v3 &&& 134217727) 27)) (y := ((v1 &&& 134217727) * (v2 &&& 134217727))) hx hb dX6_times_183 ?_
          obtain ⟨v4, ev4, h⟩ := gl_s h
          refine g_topl ev4 ?_
          refine lv_lstore (lv' := [(14, .long v4), (12, .long v3), (10, .long v2), (8, .long v1), (6, .long 134217727), (0, .long x0), (2, .long x2), (4, .int x4), (5, .int x5)]) hx hb dX6_times_184 hl (by decide) rfl (fun ls hl => ?_)
          refine lv_lload hx hb dX6_times_186 (lv_at hl 3 rfl) ?_
          refine lv_bipush (v := 27) hx hb dX6_times_188 (by decide) ?_
          refine lv_lshr (v := (g_lshr v1 27)) hx hb dX6_times_190 rfl ?_
          refine lv_lload hx hb dX6_times_191 (lv_at hl 2 rfl) ?_
          refine lv_bipush (v := 27) hx hb dX6_times_193 (by decide) ?_
          refine lv_lshr (v := (g_lshr v2 27)) hx hb dX6_times_195 rfl ?_
          refine lv_lmul (x := (g_lshr v1 27)) (y := (g_lshr v2 27)) hx hb dX6_times_196 ?_
          refine lv_lload hx hb dX6_times_197 (lv_at hl 1 rfl) ?_
          refine lv_bipush (v := 27) hx hb dX6_times_199 (by decide) ?_
          refine lv_lshr (v := (g_lshr v3 27)) hx hb dX6_times_201 rfl ?_
          refine lv_ladd (x := ((g_lshr v1 27) * (g_lshr v2 27))) (y := (g_lshr v3 27)) hx hb dX6_times_202 ?_
          refine lv_lload hx hb dX6_times_203 (lv_at hl 0 rfl) ?_
          refine lv_bipush (v := 54) hx hb dX6_times_205 (by decide) ?_
          refine lv_lshr (v := (g_lshr v4 54)) hx hb dX6_times_207 rfl ?_
          refine lv_ladd (x := (((g_lshr v1 27) * (g_lshr v2 27)) + (g_lshr v3 27))) (y := (g_lshr v4 54)) hx hb dX6_times_208 ?_
          obtain ⟨v5, ev5, h⟩ := gl_s h
          refine g_topl ev5 ?_
          refine lv_lstore (lv' := [(16, .long v5), (14, .long v4), (12, .long v3), (10, .long v2), (8, .long v1), (6, .long 134217727), (0, .long x0), (2, .long x2), (4, .int x4), (5, .int x5)]) hx hb dX6_times_209 hl (by decide) rfl (fun ls hl => ?_)
          refine lv_lload hx hb dX6_times_211 (lv_at hl 1 rfl) ?_
          refine lv_ldc2 (v := 18014398509481983) hx hb X.2.2.2.1 (X.2.2.2.2.1 _ tw_4_36) dX6_times_213 ?_
          refine lv_land (x := v4) (y := 18014398509481983) hx hb dX6_times_216 ?_
          obtain ⟨v6, ev6, h⟩ := gl_s h
          refine g_topl ev6 ?_
          refine lv_lstore (lv' := [(14, .long v6), (16, .long v5), (12, .long v3), (10, .long v2), (8, .long v1), (6, .long 134217727), (0, .long x0), (2, .long x2), (4, .int x4), (5, .int x5)]) hx hb dX6_times_217 hl (by decide) rfl (fun ls hl => ?_)
          refine lv_lload_n hx hb dX6_times_219 rfl (lv_at hl 6 rfl) ?_
          refine g_callS X hI (av := [.long x0]) (c_X6_exponent x0) gm_X6_exponent tw_3_238 tw_3_239 ⟨by decide, by decide⟩ hl.1 (rest := []) rfl (Nat.le_of_ble_eq_true rfl) dX6_times_220 ⟨by decide, by decide⟩ (st1 := [.int (f_X6_exponent x0)]) rfl (cells' := 0) (slots' := 0) rfl rfl (fun H locs hI => ?_)
          refine lv_lload_n hx hb dX6_times_223 rfl (lv_at hl 7 rfl) ?_
          refine g_callS X hI (av := [.long x2]) (c_X6_exponent x2) gm_X6_exponent tw_3_238 tw_3_239 ⟨by decide, by decide⟩ hl.1 (rest := [.int (f_X6_exponent x0)]) rfl (Nat.le_of_ble_eq_true rfl) dX6_times_224 ⟨by decide, by decide⟩ (st1 := [.int (f_X6_exponent x2), .int (f_X6_exponent x0)]) rfl (cells' := 0) (slots' := 0) rfl rfl (fun H locs hI => ?_)
          refine lv_iadd (x := (f_X6_exponent x0)) (y := (f_X6_exponent x2)) hx hb dX6_times_227 ?_
          obtain ⟨v7, ev7, h⟩ := gl_s h
          refine g_topi ev7 ?_
          refine lv_istore (lv' := [(18, .int v7), (14, .long v6), (16, .long v5), (12, .long v3), (10, .long v2), (8, .long v1), (6, .long 134217727), (0, .long x0), (2, .long x2), (4, .int x4), (5, .int x5)]) hx hb dX6_times_228 hl (by decide) rfl (fun ls hl => ?_)
          refine lv_lload hx hb dX6_times_230 (lv_at hl 2 rfl) ?_
          refine lv_lconst (v := 0) hx hb dX6_times_232 (by decide) ?_
          refine W.lcmp hx hb dX6_times_233 ?_
          refine lv_if_ne (tgt := 250) hx hb dX6_times_234 (by decide) (fun c => ?_) (fun c => ?_)
          · have h := g_f _ ((not_congr (lg_cmp_eq _ _)).mp c) h
            refine lv_bipush (v := 62) hx hb dX6_times_250 (by decide) ?_
            refine lv_lload hx hb dX6_times_252 (lv_at hl 2 rfl) ?_
            obtain ⟨r8, er8, h⟩ := gb_s h
            refine g_callS X hI (av := [.long v5]) (c_X6_length er8) gm_X6_length tw_3_201 tw_3_202 ⟨by decide, by decide⟩ hl.1 (rest := [.int 62]) rfl (Nat.le_of_ble_eq_true rfl) dX6_times_254 ⟨by decide, by decide⟩ (st1 := [.int r8, .int 62]) rfl (cells' := 0) (slots' := 0) rfl rfl (fun H locs hI => ?_)
            refine lv_isub (x := 62) (y := r8) hx hb dX6_times_257 ?_
            obtain ⟨v9, ev9, h⟩ := gl_s h
            refine g_topi ev9 ?_
            refine lv_istore (lv' := [(19, .int v9), (18, .int v7), (14, .long v6), (16, .long v5), (12, .long v3), (10, .long v2), (8, .long v1), (6, .long 134217727), (0, .long x0), (2, .long x2), (4, .int x4), (5, .int x5)]) hx hb dX6_times_258 hl (by decide) rfl (fun ls hl => ?_)
            refine lv_iload hx hb dX6_times_260 (lv_at hl 0 rfl) ?_
            refine lv_bipush (v := 54) hx hb dX6_times_262 (by decide) ?_
            refine lv_icmp_le (tgt := 272) hx hb dX6_times_264 (by decide) (fun c => ?_) (fun c => ?_)
            · have h := g_t _ c h
              refine lv_iload hx hb dX6_times_272 (lv_at hl 0 rfl) ?_
              exact b_X6_times_274 X hI h (lv_sub hl [10, 11, 2, 3, 1] rfl)
            · have h := g_f _ c h
              refine lv_bipush (v := 54) hx hb dX6_times_267 (by decide) ?_
              refine lv_goto (tgt := 274) hx hb dX6_times_269 (by decide) ?_
              exact b_X6_times_274 X hI h (lv_sub hl [10, 11, 2, 3, 1] rfl)
          · have h := g_t _ ((lg_cmp_eq _ _).mp c) h
            refine lv_iload hx hb dX6_times_237 (lv_at hl 10 rfl) ?_
            refine lv_lload hx hb dX6_times_239 (lv_at hl 1 rfl) ?_
            refine lv_iload hx hb dX6_times_241 (lv_at hl 0 rfl) ?_
            refine lv_iconst (v := 0) hx hb dX6_times_243 (by decide) ?_
            refine lv_iload hx hb dX6_times_244 (lv_at hl 9 rfl) ?_
            obtain ⟨r10, er10, h⟩ := gb_s h
            refine g_callS X hI (av := [.int x5, .long v6, .int v7, .int 0, .int x4]) (c_X6_fit er10) gm_X6_fit tw_3_204 tw_3_205 ⟨by decide, by decide⟩ hl.1 (rest := []) rfl (Nat.le_of_ble_eq_true rfl) dX6_times_246 ⟨by decide, by decide⟩ (st1 := [.long r10]) rfl (cells' := 0) (slots' := 0) rfl rfl (fun H locs hI => ?_)
            have h := Option.some.inj h
            subst h
            exact g_lret X hI dX6_times_249
        · have h := g_f _ c h
          exact b_X6_times_115 X hI h (lv_sub hl [3] rfl)
    · have h := g_f _ c h
      exact b_X6_times_92 X hI h (lv_sub hl [3] rfl)
def f_X6_times_60 (x0 : Int64) (x2 : Int64) (x4 : Int32) (x5 : Int32) : Option Int64 :=
  if (f_X6_isZero x0) = 0 then
    f_X6_times_78 x0 x2 x4 x5
  else
  if (f_X6_isInfinite x2) = 0 then
    f_X6_times_78 x0 x2 x4 x5
  else
  some 9221120237041090560
set_option maxHeartbeats 4000000 in
set_option maxRecDepth 100000 in
theorem b_X6_times_60 {p : Program} {l : Launch} {e : Env} {s : State} {m : MethodId} {args : Array Value} {below : List Frame} {meth : Method} {c : Code} {E : gE} {G0 : gG} {n0 : Nat} (X : g_X E G0 n0 p s m args meth c cX6_times 21 RX6 "times" (some .long)) {G : gG} {n : Nat} {r : Int64} {H : Heap} {locs : List Loc} (hI : g_I E (g_A G0 n0) G n s.heap H locs) {x0 : Int64} {x2 : Int64} {x4 : Int32} {x5 : Int32} (h : f_X6_times_60 x0 x2 x4 x5 = some r) {ls : Array Slot} (hl : lv_has ls 21 [(0, .long x0), (2, .long x2), (4, .int x4), (5, .int x5)]) : W p l e rm_X6_times s m args below meth c H locs 0 0 (MQ below (g_Q E G0 n0 (some (.long r)) G n) args s rm_X6_times.cells rm_X6_times.slots (g_A G0 n0)) (F0 m 60 ls []) := by
  have hx := X.1
  have hb := X.2.1
  unfold f_X6_times_60 at h
  refine lv_lload_n hx hb dX6_times_60 rfl (lv_at hl 0 rfl) ?_
  refine g_callS X hI (av := [.long x0]) (c_X6_isZero x0) gm_X6_isZero tw_4_1 tw_4_2 ⟨by decide, by decide⟩ hl.1 (rest := []) rfl (Nat.le_of_ble_eq_true rfl) dX6_times_61 ⟨by decide, by decide⟩ (st1 := [.int (f_X6_isZero x0)]) rfl (cells' := 0) (slots' := 0) rfl rfl (fun H locs hI => ?_)
  refine lv_if_eq (tgt := 78) hx hb dX6_times_64 (by decide) (fun c => ?_) (fun c => ?_)
  · have h := g_t _ c h
    exact b_X6_times_78 X hI h (lv_sub hl [0, 1, 2, 3] rfl)
  · have h := g_f _ c h
    refine lv_lload_n hx hb dX6_times_67 rfl (lv_at hl 1 rfl) ?_
    refine g_callS X hI (av := [.long x2]) (c_X6_isInfinite x2) gm_X6_isInfinite tw_3_229 tw_3_230 ⟨by decide, by decide⟩ hl.1 (rest := []) rfl (Nat.le_of_ble_eq_true rfl) dX6_times_68 ⟨by decide, by decide⟩ (st1 := [.int (f_X6_isInfinite x2)]) rfl (cells' := 0) (slots' := 0) rfl rfl (fun H locs hI => ?_)
    refine lv_if_eq (tgt := 78) hx hb dX6_times_71 (by decide) (fun c => ?_) (fun c => ?_)
    · have h := g_t _ c h
      exact b_X6_times_78 X hI h (lv_sub hl [0, 1, 2, 3] rfl)
    · have h := g_f _ c h
      refine lv_ldc2 (v := 9221120237041090560) hx hb X.2.2.2.1 (X.2.2.2.2.1 _ tw_3_142) dX6_times_74 ?_
      have h := Option.some.inj h
      subst h
      exact g_lret X hI dX6_times_77
def f_X6_times_30 (x0 : Int64) (x2 : Int64) (x4 : Int32) (s0 : Int32) : Option Int64 :=
  if (f_X6_isNan x0) = 0 then
    if (f_X6_isNan x2) = 0 then
      if (f_X6_isInfinite x0) = 0 then
        f_X6_times_60 x0 x2 x4 s0
      else
      if (f_X6_isZero x2) = 0 then
        f_X6_times_60 x0 x2 x4 s0
      else
      some 9221120237041090560
    else
    some 9221120237041090560
  else
  some 9221120237041090560
set_option maxHeartbeats 4000000 in
set_option maxRecDepth 100000 in
theorem b_X6_times_30 {p : Program} {l : Launch} {e : Env} {s : State} {m : MethodId} {args : Array Value} {below : List Frame} {meth : Method} {c : Code} {E : gE} {G0 : gG} {n0 : Nat} (X : g_X E G0 n0 p s m args meth c cX6_times 21 RX6 "times" (some .long)) {G : gG} {n : Nat} {r : Int64} {H : Heap} {locs : List Loc} (hI : g_I E (g_A G0 n0) G n s.heap H locs) {x0 : Int64} {x2 : Int64} {x4 : Int32} {s0 : Int32} (h : f_X6_times_30 x0 x2 x4 s0 = some r) {ls : Array Slot} (hl : lv_has ls 21 [(0, .long x0), (2, .long x2), (4, .int x4)]) : W p l e rm_X6_times s m args below meth c H locs 0 0 (MQ below (g_Q E G0 n0 (some (.long r)) G n) args s rm_X6_times.cells rm_X6_times.slots (g_A G0 n0)) (F0 m 30 ls [.int s0]) := by
  have hx := X.1
  have hb := X.2.1
  unfold f_X6_times_30 at h
  refine lv_istore (lv' := [(5, .int s0), (0, .long x0), (2, .long x2), (4, .int x4)]) hx hb dX6_times_30 hl (by decide) rfl (fun ls hl => ?_)
  refine lv_lload_n hx hb dX6_times_32 rfl (lv_at hl 1 rfl) ?_
  refine g_callS X hI (av := [.long x0]) (c_X6_isNan x0) gm_X6_isNan tw_3_137 tw_3_138 ⟨by decide, by decide⟩ hl.1 (rest := []) rfl (Nat.le_of_ble_eq_true rfl) dX6_times_33 ⟨by decide, by decide⟩ (st1 := [.int (f_X6_isNan x0)]) rfl (cells' := 0) (slots' := 0) rfl rfl (fun H locs hI => ?_)
  refine lv_if_ne (tgt := 74) hx hb dX6_times_36 (by decide) (fun c => ?_) (fun c => ?_)
  · have h := g_f _ c h
    refine lv_ldc2 (v := 9221120237041090560) hx hb X.2.2.2.1 (X.2.2.2.2.1 _ tw_3_142) dX6_times_74 ?_
    have h := Option.some.inj h
    subst h
    exact g_lret X hI dX6_times_77
  · have h := g_t _ c h
    refine lv_lload_n hx hb dX6_times_39 rfl (lv_at hl 2 rfl) ?_
    refine g_callS X hI (av := [.long x2]) (c_X6_isNan x2) gm_X6_isNan tw_3_137 tw_3_138 ⟨by decide, by decide⟩ hl.1 (rest := []) rfl (Nat.le_of_ble_eq_true rfl) dX6_times_40 ⟨by decide, by decide⟩ (st1 := [.int (f_X6_isNan x2)]) rfl (cells' := 0) (slots' := 0) rfl rfl (fun H locs hI => ?_)
    refine lv_if_ne (tgt := 74) hx hb dX6_times_43 (by decide) (fun c => ?_) (fun c => ?_)
    · have h := g_f _ c h
      refine lv_ldc2 (v := 9221120237041090560) hx hb X.2.2.2.1 (X.2.2.2.2.1 _ tw_3_142) dX6_times_74 ?_
      have h := Option.some.inj h
      subst h
      exact g_lret X hI dX6_times_77
    · have h := g_t _ c h
      refine lv_lload_n hx hb dX6_times_46 rfl (lv_at hl 1 rfl) ?_
      refine g_callS X hI (av := [.long x0]) (c_X6_isInfinite x0) gm_X6_isInfinite tw_3_229 tw_3_230 ⟨by decide, by decide⟩ hl.1 (rest := []) rfl (Nat.le_of_ble_eq_true rfl) dX6_times_47 ⟨by decide, by decide⟩ (st1 := [.int (f_X6_isInfinite x0)]) rfl (cells' := 0) (slots' := 0) rfl rfl (fun H locs hI => ?_)
      refine lv_if_eq (tgt := 60) hx hb dX6_times_50 (by decide) (fun c => ?_) (fun c => ?_)
      · have h := g_t _ c h
        exact b_X6_times_60 X hI h (lv_sub hl [1, 2, 3, 0] rfl)
      · have h := g_f _ c h
        refine lv_lload_n hx hb dX6_times_53 rfl (lv_at hl 2 rfl) ?_
        refine g_callS X hI (av := [.long x2]) (c_X6_isZero x2) gm_X6_isZero tw_4_1 tw_4_2 ⟨by decide, by decide⟩ hl.1 (rest := []) rfl (Nat.le_of_ble_eq_true rfl) dX6_times_54 ⟨by decide, by decide⟩ (st1 := [.int (f_X6_isZero x2)]) rfl (cells' := 0) (slots' := 0) rfl rfl (fun H locs hI => ?_)
        refine lv_if_ne (tgt := 74) hx hb dX6_times_57 (by decide) (fun c => ?_) (fun c => ?_)
        · have h := g_f _ c h
          refine lv_ldc2 (v := 9221120237041090560) hx hb X.2.2.2.1 (X.2.2.2.2.1 _ tw_3_142) dX6_times_74 ?_
          have h := Option.some.inj h
          subst h
          exact g_lret X hI dX6_times_77
        · have h := g_t _ c h
          exact b_X6_times_60 X hI h (lv_sub hl [1, 2, 3, 0] rfl)
def f_X6_times_22 (x0 : Int64) (x2 : Int64) (x4 : Int32) (s0 : Int32) (s1 : Int32) : Option Int64 :=
  if s1 = s0 then
    f_X6_times_30 x0 x2 x4 0
  else
  f_X6_times_30 x0 x2 x4 1
set_option maxHeartbeats 4000000 in
set_option maxRecDepth 100000 in
theorem b_X6_times_22 {p : Program} {l : Launch} {e : Env} {s : State} {m : MethodId} {args : Array Value} {below : List Frame} {meth : Method} {c : Code} {E : gE} {G0 : gG} {n0 : Nat} (X : g_X E G0 n0 p s m args meth c cX6_times 21 RX6 "times" (some .long)) {G : gG} {n : Nat} {r : Int64} {H : Heap} {locs : List Loc} (hI : g_I E (g_A G0 n0) G n s.heap H locs) {x0 : Int64} {x2 : Int64} {x4 : Int32} {s0 : Int32} {s1 : Int32} (h : f_X6_times_22 x0 x2 x4 s0 s1 = some r) {ls : Array Slot} (hl : lv_has ls 21 [(0, .long x0), (2, .long x2), (4, .int x4)]) : W p l e rm_X6_times s m args below meth c H locs 0 0 (MQ below (g_Q E G0 n0 (some (.long r)) G n) args s rm_X6_times.cells rm_X6_times.slots (g_A G0 n0)) (F0 m 22 ls [.int s0, .int s1]) := by
  have hx := X.1
  have hb := X.2.1
  unfold f_X6_times_22 at h
  refine lv_icmp_eq (tgt := 29) hx hb dX6_times_22 (by decide) (fun c => ?_) (fun c => ?_)
  · have h := g_t _ c h
    refine lv_iconst (v := 0) hx hb dX6_times_29 (by decide) ?_
    exact b_X6_times_30 X hI h (lv_sub hl [0, 1, 2] rfl)
  · have h := g_f _ c h
    refine lv_iconst (v := 1) hx hb dX6_times_25 (by decide) ?_
    refine lv_goto (tgt := 30) hx hb dX6_times_26 (by decide) ?_
    exact b_X6_times_30 X hI h (lv_sub hl [0, 1, 2] rfl)
def f_X6_times_11 (x0 : Int64) (x2 : Int64) (x4 : Int32) (s0 : Int32) : Option Int64 :=
  if (0 : Int64) ≤ x2 then
    f_X6_times_22 x0 x2 x4 0 s0
  else
  f_X6_times_22 x0 x2 x4 1 s0
set_option maxHeartbeats 4000000 in
set_option maxRecDepth 100000 in
theorem b_X6_times_11 {p : Program} {l : Launch} {e : Env} {s : State} {m : MethodId} {args : Array Value} {below : List Frame} {meth : Method} {c : Code} {E : gE} {G0 : gG} {n0 : Nat} (X : g_X E G0 n0 p s m args meth c cX6_times 21 RX6 "times" (some .long)) {G : gG} {n : Nat} {r : Int64} {H : Heap} {locs : List Loc} (hI : g_I E (g_A G0 n0) G n s.heap H locs) {x0 : Int64} {x2 : Int64} {x4 : Int32} {s0 : Int32} (h : f_X6_times_11 x0 x2 x4 s0 = some r) {ls : Array Slot} (hl : lv_has ls 21 [(0, .long x0), (2, .long x2), (4, .int x4)]) : W p l e rm_X6_times s m args below meth c H locs 0 0 (MQ below (g_Q E G0 n0 (some (.long r)) G n) args s rm_X6_times.cells rm_X6_times.slots (g_A G0 n0)) (F0 m 11 ls [.int s0]) := by
  have hx := X.1
  have hb := X.2.1
  unfold f_X6_times_11 at h
  refine lv_lload_n hx hb dX6_times_11 rfl (lv_at hl 1 rfl) ?_
  refine lv_lconst (v := 0) hx hb dX6_times_12 (by decide) ?_
  refine W.lcmp hx hb dX6_times_13 ?_
  refine lv_if_ge (tgt := 21) hx hb dX6_times_14 (by decide) (fun c => ?_) (fun c => ?_)
  · have h := g_t _ ((lg_cmp_ge _ _).mp c) h
    refine lv_iconst (v := 0) hx hb dX6_times_21 (by decide) ?_
    exact b_X6_times_22 X hI h (lv_sub hl [0, 1, 2] rfl)
  · have h := g_f _ (fun q => c ((lg_cmp_ge _ _).mpr q)) h
    refine lv_iconst (v := 1) hx hb dX6_times_17 (by decide) ?_
    refine lv_goto (tgt := 22) hx hb dX6_times_18 (by decide) ?_
    exact b_X6_times_22 X hI h (lv_sub hl [0, 1, 2] rfl)
def f_X6_times (a0 : Int64) (a2 : Int64) (a4 : Int32) : Option Int64 :=
  if (0 : Int64) ≤ a0 then
    f_X6_times_11 a0 a2 a4 0
  else
  f_X6_times_11 a0 a2 a4 1
theorem gm_X6_times : g_M yX6_times cX6_times 21 (some .long) 3 := ⟨tw_4_34, tw_1_5, by decide +kernel, Or.inl (by decide +kernel)⟩
set_option maxHeartbeats 4000000 in
set_option maxRecDepth 100000 in
theorem c_X6_times {l : Launch} {E : gE} {G : gG} {n : Nat} {a0 : Int64} {a2 : Int64} {a4 : Int32} {r : Int64} (h : f_X6_times a0 a2 a4 = some r) : g_Met l yX6_times cX6_times 21 (some .long) rm_X6_times E G n [.long a0, .long a2, .int a4] (some (.long r)) G n := by
  refine g_ofW gm_X6_times (Nat.le_of_ble_eq_true rfl) ?_
  intro p e s m below meth c ls X hl hI
  have hx := X.1
  have hb := X.2.1
  have X : g_X E G n p s m _ meth c cX6_times 21 RX6 "times" (some .long) := X
  have hl : lv_has ls 21 [(0, .long a0), (2, .long a2), (4, .int a4)] := hl
  unfold f_X6_times at h
  refine lv_lload_n hx hb dX6_times_0 rfl (lv_at hl 0 rfl) ?_
  refine lv_lconst (v := 0) hx hb dX6_times_1 (by decide) ?_
  refine W.lcmp hx hb dX6_times_2 ?_
  refine lv_if_ge (tgt := 10) hx hb dX6_times_3 (by decide) (fun c => ?_) (fun c => ?_)
  · have h := g_t _ ((lg_cmp_ge _ _).mp c) h
    refine lv_iconst (v := 0) hx hb dX6_times_10 (by decide) ?_
    exact b_X6_times_11 X hI h (lv_sub hl [0, 1, 2] rfl)
  · have h := g_f _ (fun q => c ((lg_cmp_ge _ _).mpr q)) h
    refine lv_iconst (v := 1) hx hb dX6_times_6 (by decide) ?_
    refine lv_goto (tgt := 11) hx hb dX6_times_7 (by decide) ?_
    exact b_X6_times_11 X hI h (lv_sub hl [0, 1, 2] rfl)
abbrev rm_X6_plus : Room := { frames := 3, cells := 0, slots := 0, locals := 85 }
def f_X6_plus_346 (x4 : Int32) (x12 : Int32) (x17 : Int32) (x18 : Int64) (s0 : Int32) : Option Int64 :=
  gb (f_X6_fit s0 x18 x12 x17 x4) fun r1 =>
  some r1
set_option maxHeartbeats 4000000 in
set_option maxRecDepth 100000 in
theorem b_X6_plus_346 {p : Program} {l : Launch} {e : Env} {s : State} {m : MethodId} {args : Array Value} {below : List Frame} {meth : Method} {c : Code} {E : gE} {G0 : gG} {n0 : Nat} (X : g_X E G0 n0 p s m args meth c cX6_plus 20 RX6 "plus" (some .long)) {G : gG} {n : Nat} {r : Int64} {H : Heap} {locs : List Loc} (hI : g_I E (g_A G0 n0) G n s.heap H locs) {x4 : Int32} {x12 : Int32} {x17 : Int32} {x18 : Int64} {s0 : Int32} (h : f_X6_plus_346 x4 x12 x17 x18 s0 = some r) {ls : Array Slot} (hl : lv_has ls 20 [(4, .int x4), (12, .int x12), (17, .int x17), (18, .long x18)]) : W p l e rm_X6_plus s m args below meth c H locs 0 0 (MQ below (g_Q E G0 n0 (some (.long r)) G n) args s rm_X6_plus.cells rm_X6_plus.slots (g_A G0 n0)) (F0 m 346 ls [.int s0]) := by
  have hx := X.1
  have hb := X.2.1
  unfold f_X6_plus_346 at h
  refine lv_lload hx hb dX6_plus_346 (lv_at hl 3 rfl) ?_
  refine lv_iload hx hb dX6_plus_348 (lv_at hl 1 rfl) ?_
  refine lv_iload hx hb dX6_plus_350 (lv_at hl 2 rfl) ?_
  refine lv_iload hx hb dX6_plus_352 (lv_at hl 0 rfl) ?_
  obtain ⟨r1, er1, h⟩ := gb_s h
  refine g_callS X hI (av := [.int s0, .long x18, .int x12, .int x17, .int x4]) (c_X6_fit er1) gm_X6_fit tw_3_204 tw_3_205 ⟨by decide, by decide⟩ hl.1 (rest := []) rfl (Nat.le_of_ble_eq_true rfl) dX6_plus_354 ⟨by decide, by decide⟩ (st1 := [.long r1]) rfl (cells' := 0) (slots' := 0) rfl rfl (fun H locs hI => ?_)
  have h := Option.some.inj h
  subst h
  exact g_lret X hI dX6_plus_357
def f_X6_plus_321 (x4 : Int32) (x6 : Int64) (x12 : Int32) (x17 : Int32) (s0 : Int64) : Option Int64 :=
  if s0 = 0 then
    some 0
  else
  if (0 : Int64) ≤ x6 then
    f_X6_plus_346 x4 x12 x17 s0 0
  else
  f_X6_plus_346 x4 x12 x17 s0 1
set_option maxHeartbeats 4000000 in
set_option maxRecDepth 100000 in
theorem b_X6_plus_321 {p : Program} {l : Launch} {e : Env} {s : State} {m : MethodId} {args : Array Value} {below : List Frame} {meth : Method} {c : Code} {E : gE} {G0 : gG} {n0 : Nat} (X : g_X E G0 n0 p s m args meth c cX6_plus 20 RX6 "plus" (some .long)) {G : gG} {n : Nat} {r : Int64} {H : Heap} {locs : List Loc} (hI : g_I E (g_A G0 n0) G n s.heap H locs) {x4 : Int32} {x6 : Int64} {x12 : Int32} {x17 : Int32} {s0 : Int64} (h : f_X6_plus_321 x4 x6 x12 x17 s0 = some r) {ls : Array Slot} (hl : lv_has ls 20 [(4, .int x4), (6, .long x6), (12, .int x12), (17, .int x17)]) : W p l e rm_X6_plus s m args below meth c H locs 0 0 (MQ below (g_Q E G0 n0 (some (.long r)) G n) args s rm_X6_plus.cells rm_X6_plus.slots (g_A G0 n0)) (F0 m 321 ls [.long s0]) := by
  have hx := X.1
  have hb := X.2.1
  unfold f_X6_plus_321 at h
  refine lv_lstore (lv' := [(18, .long s0), (4, .int x4), (6, .long x6), (12, .int x12), (17, .int x17)]) hx hb dX6_plus_321 hl (by decide) rfl (fun ls hl => ?_)
  refine lv_lload hx hb dX6_plus_323 (lv_at hl 0 rfl) ?_
  refine lv_lconst (v := 0) hx hb dX6_plus_325 (by decide) ?_
  refine W.lcmp hx hb dX6_plus_326 ?_
  refine lv_if_ne (tgt := 334) hx hb dX6_plus_327 (by decide) (fun c => ?_) (fun c => ?_)
  · have h := g_f _ ((not_congr (lg_cmp_eq _ _)).mp c) h
    refine lv_lload hx hb dX6_plus_334 (lv_at hl 2 rfl) ?_
    refine lv_lconst (v := 0) hx hb dX6_plus_336 (by decide) ?_
    refine W.lcmp hx hb dX6_plus_337 ?_
    refine lv_if_ge (tgt := 345) hx hb dX6_plus_338 (by decide) (fun c => ?_) (fun c => ?_)
    · have h := g_t _ ((lg_cmp_ge _ _).mp c) h
      refine lv_iconst (v := 0) hx hb dX6_plus_345 (by decide) ?_
      exact b_X6_plus_346 X hI h (lv_sub hl [1, 3, 4, 0] rfl)
    · have h := g_f _ (fun q => c ((lg_cmp_ge _ _).mpr q)) h
      refine lv_iconst (v := 1) hx hb dX6_plus_341 (by decide) ?_
      refine lv_goto (tgt := 346) hx hb dX6_plus_342 (by decide) ?_
      exact b_X6_plus_346 X hI h (lv_sub hl [1, 3, 4, 0] rfl)
  · have h := g_t _ ((lg_cmp_eq _ _).mp c) h
    refine lv_lconst (v := 0) hx hb dX6_plus_330 (by decide) ?_
    refine lv_goto (tgt := 357) hx hb dX6_plus_331 (by decide) ?_
    have h := Option.some.inj h
    subst h
    exact g_lret X hI dX6_plus_357
def f_X6_plus_320 (x4 : Int32) (x6 : Int64) (x12 : Int32) (x17 : Int32) (s0 : Int64) (s1 : Int64) : Option Int64 :=
  f_X6_plus_321 x4 x6 x12 x17 (s1 - s0)
set_option maxHeartbeats 4000000 in
set_option maxRecDepth 100000 in
theorem b_X6_plus_320 {p : Program} {l : Launch} {e : Env} {s : State} {m : MethodId} {args : Array Value} {below : List Frame} {meth : Method} {c : Code} {E : gE} {G0 : gG} {n0 : Nat} (X : g_X E G0 n0 p s m args meth c cX6_plus 20 RX6 "plus" (some .long)) {G : gG} {n : Nat} {r : Int64} {H : Heap} {locs : List Loc} (hI : g_I E (g_A G0 n0) G n s.heap H locs) {x4 : Int32} {x6 : Int64} {x12 : Int32} {x17 : Int32} {s0 : Int64} {s1 : Int64} (h : f_X6_plus_320 x4 x6 x12 x17 s0 s1 = some r) {ls : Array Slot} (hl : lv_has ls 20 [(4, .int x4), (6, .long x6), (12, .int x12), (17, .int x17)]) : W p l e rm_X6_plus s m args below meth c H locs 0 0 (MQ below (g_Q E G0 n0 (some (.long r)) G n) args s rm_X6_plus.cells rm_X6_plus.slots (g_A G0 n0)) (F0 m 320 ls [.long s0, .long s1]) := by
  have hx := X.1
  have hb := X.2.1
  unfold f_X6_plus_320 at h
  refine lv_lsub (x := s1) (y := s0) hx hb dX6_plus_320 ?_
  exact b_X6_plus_321 X hI h (lv_sub hl [0, 1, 2, 3] rfl)
def f_X6_plus_294 (x4 : Int32) (x6 : Int64) (x10 : Int64) (x12 : Int32) (x14 : Int64) (x17 : Int32) (s0 : Int32) (s1 : Int32) : Option Int64 :=
  if s1 = s0 then
    f_X6_plus_321 x4 x6 x12 x17 (x10 + x14)
  else
  if x17 = 0 then
    f_X6_plus_320 x4 x6 x12 x17 0 (x10 - x14)
  else
  f_X6_plus_320 x4 x6 x12 x17 1 (x10 - x14)
set_option maxHeartbeats 4000000 in
set_option maxRecDepth 100000 in
theorem b_X6_plus_294 {p : Program} {l : Launch} {e : Env} {s : State} {m : MethodId} {args : Array Value} {below : List Frame} {meth : Method} {c : Code} {E : gE} {G0 : gG} {n0 : Nat} (X : g_X E G0 n0 p s m args meth c cX6_plus 20 RX6 "plus" (some .long)) {G : gG} {n : Nat} {r : Int64} {H : Heap} {locs : List Loc} (hI : g_I E (g_A G0 n0) G n s.heap H locs) {x4 : Int32} {x6 : Int64} {x10 : Int64} {x12 : Int32} {x14 : Int64} {x17 : Int32} {s0 : Int32} {s1 : Int32} (h : f_X6_plus_294 x4 x6 x10 x12 x14 x17 s0 s1 = some r) {ls : Array Slot} (hl : lv_has ls 20 [(4, .int x4), (6, .long x6), (10, .long x10), (12, .int x12), (14, .long x14), (17, .int x17)]) : W p l e rm_X6_plus s m args below meth c H locs 0 0 (MQ below (g_Q E G0 n0 (some (.long r)) G n) args s rm_X6_plus.cells rm_X6_plus.slots (g_A G0 n0)) (F0 m 294 ls [.int s0, .int s1]) := by
  have hx := X.1
  have hb := X.2.1
  unfold f_X6_plus_294 at h
  refine lv_icmp_ne (tgt := 305) hx hb dX6_plus_294 (by decide) (fun c => ?_) (fun c => ?_)
  · have h := g_f _ c h
    refine lv_lload hx hb dX6_plus_305 (lv_at hl 2 rfl) ?_
    refine lv_lload hx hb dX6_plus_307 (lv_at hl 4 rfl) ?_
    refine lv_lsub (x := x10) (y := x14) hx hb dX6_plus_309 ?_
    refine lv_iload hx hb dX6_plus_310 (lv_at hl 5 rfl) ?_
    refine lv_if_eq (tgt := 319) hx hb dX6_plus_312 (by decide) (fun c => ?_) (fun c => ?_)
    · have h := g_t _ c h
      refine lv_lconst (v := 0) hx hb dX6_plus_319 (by decide) ?_
      exact b_X6_plus_320 X hI h (lv_sub hl [0, 1, 3, 5] rfl)
    · have h := g_f _ c h
      refine lv_lconst (v := 1) hx hb dX6_plus_315 (by decide) ?_
      refine lv_goto (tgt := 320) hx hb dX6_plus_316 (by decide) ?_
      exact b_X6_plus_320 X hI h (lv_sub hl [0, 1, 3, 5] rfl)
  · have h := g_t _ c h
    refine lv_lload hx hb dX6_plus_297 (lv_at hl 2 rfl) ?_
    refine lv_lload hx hb dX6_plus_299 (lv_at hl 4 rfl) ?_
    refine lv_ladd (x := x10) (y := x14) hx hb dX6_plus_301 ?_
    refine lv_goto (tgt := 321) hx hb dX6_plus_302 (by decide) ?_
    exact b_X6_plus_321 X hI h (lv_sub hl [0, 1, 3, 5] rfl)
def f_X6_plus_283 (x2 : Int64) (x4 : Int32) (x6 : Int64) (x10 : Int64) (x12 : Int32) (x14 : Int64) (x17 : Int32) (s0 : Int32) : Option Int64 :=
  if (0 : Int64) ≤ x2 then
    f_X6_plus_294 x4 x6 x10 x12 x14 x17 0 s0
  else
  f_X6_plus_294 x4 x6 x10 x12 x14 x17 1 s0
set_option maxHeartbeats 4000000 in
set_option maxRecDepth 100000 in
theorem b_X6_plus_283 {p : Program} {l : Launch} {e : Env} {s : State} {m : MethodId} {args : Array Value} {below : List Frame} {meth : Method} {c : Code} {E : gE} {G0 : gG} {n0 : Nat} (X : g_X E G0 n0 p s m args meth c cX6_plus 20 RX6 "plus" (some .long)) {G : gG} {n : Nat} {r : Int64} {H : Heap} {locs : List Loc} (hI : g_I E (g_A G0 n0) G n s.heap H locs) {x2 : Int64} {x4 : Int32} {x6 : Int64} {x10 : Int64} {x12 : Int32} {x14 : Int64} {x17 : Int32} {s0 : Int32} (h : f_X6_plus_283 x2 x4 x6 x10 x12 x14 x17 s0 = some r) {ls : Array Slot} (hl : lv_has ls 20 [(2, .long x2), (4, .int x4), (6, .long x6), (10, .long x10), (12, .int x12), (14, .long x14), (17, .int x17)]) : W p l e rm_X6_plus s m args below meth c H locs 0 0 (MQ below (g_Q E G0 n0 (some (.long r)) G n) args s rm_X6_plus.cells rm_X6_plus.slots (g_A G0 n0)) (F0 m 283 ls [.int s0]) := by
  have hx := X.1
  have hb := X.2.1
  unfold f_X6_plus_283 at h
  refine lv_lload_n hx hb dX6_plus_283 rfl (lv_at hl 0 rfl) ?_
  refine lv_lconst (v := 0) hx hb dX6_plus_284 (by decide) ?_
  refine W.lcmp hx hb dX6_plus_285 ?_
  refine lv_if_ge (tgt := 293) hx hb dX6_plus_286 (by decide) (fun c => ?_) (fun c => ?_)
  · have h := g_t _ ((lg_cmp_ge _ _).mp c) h
    refine lv_iconst (v := 0) hx hb dX6_plus_293 (by decide) ?_
    exact b_X6_plus_294 X hI h (lv_sub hl [1, 2, 3, 4, 5, 6] rfl)
  · have h := g_f _ (fun q => c ((lg_cmp_ge _ _).mpr q)) h
    refine lv_iconst (v := 1) hx hb dX6_plus_289 (by decide) ?_
    refine lv_goto (tgt := 294) hx hb dX6_plus_290 (by decide) ?_
    exact b_X6_plus_294 X hI h (lv_sub hl [1, 2, 3, 4, 5, 6] rfl)
def f_X6_plus_272 (x0 : Int64) (x2 : Int64) (x4 : Int32) (x6 : Int64) (x10 : Int64) (x12 : Int32) (x14 : Int64) (x17 : Int32) : Option Int64 :=
  if (0 : Int64) ≤ x0 then
    f_X6_plus_283 x2 x4 x6 x10 x12 x14 x17 0
  else
  f_X6_plus_283 x2 x4 x6 x10 x12 x14 x17 1
set_option maxHeartbeats 4000000 in
set_option maxRecDepth 100000 in
theorem b_X6_plus_272 {p : Program} {l : Launch} {e : Env} {s : State} {m : MethodId} {args : Array Value} {below : List Frame} {meth : Method} {c : Code} {E : gE} {G0 : gG} {n0 : Nat} (X : g_X E G0 n0 p s m args meth c cX6_plus 20 RX6 "plus" (some .long)) {G : gG} {n : Nat} {r : Int64} {H : Heap} {locs : List Loc} (hI : g_I E (g_A G0 n0) G n s.heap H locs) {x0 : Int64} {x2 : Int64} {x4 : Int32} {x6 : Int64} {x10 : Int64} {x12 : Int32} {x14 : Int64} {x17 : Int32} (h : f_X6_plus_272 x0 x2 x4 x6 x10 x12 x14 x17 = some r) {ls : Array Slot} (hl : lv_has ls 20 [(0, .long x0), (2, .long x2), (4, .int x4), (6, .long x6), (10, .long x10), (12, .int x12), (14, .long x14), (17, .int x17)]) : W p l e rm_X6_plus s m args below meth c H locs 0 0 (MQ below (g_Q E G0 n0 (some (.long r)) G n) args s rm_X6_plus.cells rm_X6_plus.slots (g_A G0 n0)) (F0 m 272 ls []) := by
  have hx := X.1
  have hb := X.2.1
  unfold f_X6_plus_272 at h
  refine lv_lload_n hx hb dX6_plus_272 rfl (lv_at hl 0 rfl) ?_
  refine lv_lconst (v := 0) hx hb dX6_plus_273 (by decide) ?_
  refine W.lcmp hx hb dX6_plus_274 ?_
  refine lv_if_ge (tgt := 282) hx hb dX6_plus_275 (by decide) (fun c => ?_) (fun c => ?_)
  · have h := g_t _ ((lg_cmp_ge _ _).mp c) h
    refine lv_iconst (v := 0) hx hb dX6_plus_282 (by decide) ?_
    exact b_X6_plus_283 X hI h (lv_sub hl [1, 2, 3, 4, 5, 6, 7] rfl)
  · have h := g_f _ (fun q => c ((lg_cmp_ge _ _).mpr q)) h
    refine lv_iconst (v := 1) hx hb dX6_plus_278 (by decide) ?_
    refine lv_goto (tgt := 283) hx hb dX6_plus_279 (by decide) ?_
    exact b_X6_plus_283 X hI h (lv_sub hl [1, 2, 3, 4, 5, 6, 7] rfl)
def f_X6_plus_252 (x0 : Int64) (x2 : Int64) (x4 : Int32) (x6 : Int64) (x10 : Int64) (x12 : Int32) (x14 : Int64) (x16 : Int32) (s0 : Int32) : Option Int64 :=
  gl ((g_lshr x14 x16) : Int64) fun v1 =>
  f_X6_plus_272 x0 x2 x4 x6 x10 x12 v1 s0
set_option maxHeartbeats 4000000 in
set_option maxRecDepth 100000 in
theorem b_X6_plus_252 {p : Program} {l : Launch} {e : Env} {s : State} {m : MethodId} {args : Array Value} {below : List Frame} {meth : Method} {c : Code} {E : gE} {G0 : gG} {n0 : Nat} (X : g_X E G0 n0 p s m args meth c cX6_plus 20 RX6 "plus" (some .long)) {G : gG} {n : Nat} {r : Int64} {H : Heap} {locs : List Loc} (hI : g_I E (g_A G0 n0) G n s.heap H locs) {x0 : Int64} {x2 : Int64} {x4 : Int32} {x6 : Int64} {x10 : Int64} {x12 : Int32} {x14 : Int64} {x16 : Int32} {s0 : Int32} (h : f_X6_plus_252 x0 x2 x4 x6 x10 x12 x14 x16 s0 = some r) {ls : Array Slot} (hl : lv_has ls 20 [(0, .long x0), (2, .long x2), (4, .int x4), (6, .long x6), (10, .long x10), (12, .int x12), (14, .long x14), (16, .int x16)]) : W p l e rm_X6_plus s m args below meth c H locs 0 0 (MQ below (g_Q E G0 n0 (some (.long r)) G n) args s rm_X6_plus.cells rm_X6_plus.slots (g_A G0 n0)) (F0 m 252 ls [.int s0]) := by
  have hx := X.1
  have hb := X.2.1
  unfold f_X6_plus_252 at h
  refine lv_istore (lv' := [(17, .int s0), (0, .long x0), (2, .long x2), (4, .int x4), (6, .long x6), (10, .long x10), (12, .int x12), (14, .long x14), (16, .int x16)]) hx hb dX6_plus_252 hl (by decide) rfl (fun ls hl => ?_)
  refine lv_lload hx hb dX6_plus_254 (lv_at hl 7 rfl) ?_
  refine lv_iload hx hb dX6_plus_256 (lv_at hl 8 rfl) ?_
  refine lv_lshr (v := (g_lshr x14 x16)) hx hb dX6_plus_258 rfl ?_
  obtain ⟨v1, ev1, h⟩ := gl_s h
  refine g_topl ev1 ?_
  refine lv_lstore (lv' := [(14, .long v1), (17, .int s0), (0, .long x0), (2, .long x2), (4, .int x4), (6, .long x6), (10, .long x10), (12, .int x12), (16, .int x16)]) hx hb dX6_plus_259 hl (by decide) rfl (fun ls hl => ?_)
  refine lv_goto (tgt := 272) hx hb dX6_plus_261 (by decide) ?_
  exact b_X6_plus_272 X hI h (lv_sub hl [2, 3, 4, 5, 6, 7, 0, 1] rfl)
def f_X6_plus_220 (x0 : Int64) (x2 : Int64) (x4 : Int32) (x6 : Int64) (x10 : Int64) (x12 : Int32) (s0 : Int32) : Option Int64 :=
  f_X6_plus_272 x0 x2 x4 x6 x10 x12 0 s0
set_option maxHeartbeats 4000000 in
set_option maxRecDepth 100000 in
theorem b_X6_plus_220 {p : Program} {l : Launch} {e : Env} {s : State} {m : MethodId} {args : Array Value} {below : List Frame} {meth : Method} {c : Code} {E : gE} {G0 : gG} {n0 : Nat} (X : g_X E G0 n0 p s m args meth c cX6_plus 20 RX6 "plus" (some .long)) {G : gG} {n : Nat} {r : Int64} {H : Heap} {locs : List Loc} (hI : g_I E (g_A G0 n0) G n s.heap H locs) {x0 : Int64} {x2 : Int64} {x4 : Int32} {x6 : Int64} {x10 : Int64} {x12 : Int32} {s0 : Int32} (h : f_X6_plus_220 x0 x2 x4 x6 x10 x12 s0 = some r) {ls : Array Slot} (hl : lv_has ls 20 [(0, .long x0), (2, .long x2), (4, .int x4), (6, .long x6), (10, .long x10), (12, .int x12)]) : W p l e rm_X6_plus s m args below meth c H locs 0 0 (MQ below (g_Q E G0 n0 (some (.long r)) G n) args s rm_X6_plus.cells rm_X6_plus.slots (g_A G0 n0)) (F0 m 220 ls [.int s0]) := by
  have hx := X.1
  have hb := X.2.1
  unfold f_X6_plus_220 at h
  refine lv_istore (lv' := [(17, .int s0), (0, .long x0), (2, .long x2), (4, .int x4), (6, .long x6), (10, .long x10), (12, .int x12)]) hx hb dX6_plus_220 hl (by decide) rfl (fun ls hl => ?_)
  refine lv_lconst (v := 0) hx hb dX6_plus_222 (by decide) ?_
  refine lv_lstore (lv' := [(14, .long 0), (17, .int s0), (0, .long x0), (2, .long x2), (4, .int x4), (6, .long x6), (10, .long x10), (12, .int x12)]) hx hb dX6_plus_223 hl (by decide) rfl (fun ls hl => ?_)
  refine lv_goto (tgt := 272) hx hb dX6_plus_225 (by decide) ?_
  exact b_X6_plus_272 X hI h (lv_sub hl [2, 3, 4, 5, 6, 7, 0, 1] rfl)
def f_X6_plus_208 (x0 : Int64) (x2 : Int64) (x4 : Int32) (x6 : Int64) (x10 : Int64) (x12 : Int32) (x14 : Int64) : Option Int64 :=
  if x14 = 0 then
    f_X6_plus_220 x0 x2 x4 x6 x10 x12 0
  else
  f_X6_plus_220 x0 x2 x4 x6 x10 x12 1
set_option maxHeartbeats 4000000 in
set_option maxRecDepth 100000 in
theorem b_X6_plus_208 {p : Program} {l : Launch} {e : Env} {s : State} {m : MethodId} {args : Array Value} {below : List Frame} {meth : Method} {c : Code} {E : gE} {G0 : gG} {n0 : Nat} (X : g_X E G0 n0 p s m args meth c cX6_plus 20 RX6 "plus" (some .long)) {G : gG} {n : Nat} {r : Int64} {H : Heap} {locs : List Loc} (hI : g_I E (g_A G0 n0) G n s.heap H locs) {x0 : Int64} {x2 : Int64} {x4 : Int32} {x6 : Int64} {x10 : Int64} {x12 : Int32} {x14 : Int64} (h : f_X6_plus_208 x0 x2 x4 x6 x10 x12 x14 = some r) {ls : Array Slot} (hl : lv_has ls 20 [(0, .long x0), (2, .long x2), (4, .int x4), (6, .long x6), (10, .long x10), (12, .int x12), (14, .long x14)]) : W p l e rm_X6_plus s m args below meth c H locs 0 0 (MQ below (g_Q E G0 n0 (some (.long r)) G n) args s rm_X6_plus.cells rm_X6_plus.slots (g_A G0 n0)) (F0 m 208 ls []) := by
  have hx := X.1
  have hb := X.2.1
  unfold f_X6_plus_208 at h
  refine lv_lload hx hb dX6_plus_208 (lv_at hl 6 rfl) ?_
  refine lv_lconst (v := 0) hx hb dX6_plus_210 (by decide) ?_
  refine W.lcmp hx hb dX6_plus_211 ?_
  refine lv_if_eq (tgt := 219) hx hb dX6_plus_212 (by decide) (fun c => ?_) (fun c => ?_)
  · have h := g_t _ ((lg_cmp_eq _ _).mp c) h
    refine lv_iconst (v := 0) hx hb dX6_plus_219 (by decide) ?_
    exact b_X6_plus_220 X hI h (lv_sub hl [0, 1, 2, 3, 4, 5] rfl)
  · have h := g_f _ (fun q => c ((lg_cmp_eq _ _).mpr q)) h
    refine lv_iconst (v := 1) hx hb dX6_plus_215 (by decide) ?_
    refine lv_goto (tgt := 220) hx hb dX6_plus_216 (by decide) ?_
    exact b_X6_plus_220 X hI h (lv_sub hl [0, 1, 2, 3, 4, 5] rfl)
def f_X6_plus_134 (x0 : Int64) (x2 : Int64) (x4 : Int32) (x6 : Int64) (s0 : Int64) : Option Int64 :=
  gl ((f_X6_mantissa x6) : Int64) fun v1 =>
  gl ((f_X6_exponent x6) : Int32) fun v2 =>
  gb (f_X6_length v1) fun r3 =>
  gl (((61 : Int32) - r3) : Int32) fun v4 =>
  gl ((g_lshl v1 v4) : Int64) fun v5 =>
  gl ((v2 - v4) : Int32) fun v6 =>
  gl ((f_X6_mantissa s0) : Int64) fun v7 =>
  gl ((v6 - (f_X6_exponent s0)) : Int32) fun v8 =>
  if v7 = 0 then
    f_X6_plus_208 x0 x2 x4 x6 v5 v6 v7
  else
  if v8 ≤ 62 then
    if v8 ≤ 0 then
      gl ((g_lshl v7 (-v8)) : Int64) fun v9 =>
      f_X6_plus_272 x0 x2 x4 x6 v5 v6 v9 0
    else
    if (v7 &&& ((g_lshl 1 v8) - 1)) = 0 then
      f_X6_plus_252 x0 x2 x4 x6 v5 v6 v7 v8 0
    else
    f_X6_plus_252 x0 x2 x4 x6 v5 v6 v7 v8 1
  else
  f_X6_plus_208 x0 x2 x4 x6 v5 v6 v7
set_option maxHeartbeats 4000000 in
set_option maxRecDepth 100000 in
theorem b_X6_plus_134 {p : Program} {l : Launch} {e : Env} {s : State} {m : MethodId} {args : Array Value} {below : List Frame} {meth : Method} {c : Code} {E : gE} {G0 : gG} {n0 : Nat} (X : g_X E G0 n0 p s m args meth c cX6_plus 20 RX6 "plus" (some .long)) {G : gG} {n : Nat} {r : Int64} {H : Heap} {locs : List Loc} (hI : g_I E (g_A G0 n0) G n s.heap H locs) {x0 : Int64} {x2 : Int64} {x4 : Int32} {x6 : Int64} {s0 : Int64} (h : f_X6_plus_134 x0 x2 x4 x6 s0 = some r) {ls : Array Slot} (hl : lv_has ls 20 [(0, .long x0), (2, .long x2), (4, .int x4), (6, .long x6)]) : W p l e rm_X6_plus s m args below meth c H locs 0 0 (MQ below (g_Q E G0 n0 (some (.long r)) G n) args s rm_X6_plus.cells rm_X6_plus.slots (g_A G0 n0)) (F0 m 134 ls [.long s0]) := by
  have hx := X.1
  have hb := X.2.1
  unfold f_X6_plus_134 at h
  refine lv_lstore (lv' := [(8, .long s0), (0, .long x0), (2, .long x2), (4, .int x4), (6, .long x6)]) hx hb dX6_plus_134 hl (by decide) rfl (fun ls hl => ?_)
  refine lv_lload hx hb dX6_plus_136 (lv_at hl 4 rfl) ?_
  refine g_callS X hI (av := [.long x6]) (c_X6_mantissa x6) gm_X6_mantissa tw_3_233 tw_3_234 ⟨by decide, by decide⟩ hl.1 (rest := []) rfl (Nat.le_of_ble_eq_true rfl) dX6_plus_138 ⟨by decide, by decide⟩ (st1 := [.long (f_X6_mantissa x6)]) rfl (cells' := 0) (slots' := 0) rfl rfl (fun H locs hI => ?_)
  obtain ⟨v1, ev1, h⟩ := gl_s h
  refine g_topl ev1 ?_
  refine lv_lstore (lv' := [(10, .long v1), (8, .long s0), (0, .long x0), (2, .long x2), (4, .int x4), (6, .long x6)]) hx hb dX6_plus_141 hl (by decide) rfl (fun ls hl => ?_)
  refine lv_lload hx hb dX6_plus_143 (lv_at hl 5 rfl) ?_
  refine g_callS X hI (av := [.long x6]) (c_X6_exponent x6) gm_X6_exponent tw_3_238 tw_3_239 ⟨by decide, by decide⟩ hl.1 (rest := []) rfl (Nat.le_of_ble_eq_true rfl) dX6_plus_145 ⟨by decide, by decide⟩ (st1 := [.int (f_X6_exponent x6)]) rfl (cells' := 0) (slots' := 0) rfl rfl (fun H locs hI => ?_)
  obtain ⟨v2, ev2, h⟩ := gl_s h
  refine g_topi ev2 ?_
  refine lv_istore (lv' := [(12, .int v2), (10, .long v1), (8, .long s0), (0, .long x0), (2, .long x2), (4, .int x4), (6, .long x6)]) hx hb dX6_plus_148 hl (by decide) rfl (fun ls hl => ?_)
  refine lv_bipush (v := 61) hx hb dX6_plus_150 (by decide) ?_
  refine lv_lload hx hb dX6_plus_152 (lv_at hl 1 rfl) ?_
  obtain ⟨r3, er3, h⟩ := gb_s h
  refine g_callS X hI (av := [.long v1]) (c_X6_length er3) gm_X6_length tw_3_201 tw_3_202 ⟨by decide, by decide⟩ hl.1 (rest := [.int 61]) rfl (Nat.le_of_ble_eq_true rfl) dX6_plus_154 ⟨by decide, by decide⟩ (st1 := [.int r3, .int 61]) rfl (cells' := 0) (slots' := 0) rfl rfl (fun H locs hI => ?_)
  refine lv_isub (x := 61) (y := r3) hx hb dX6_plus_157 ?_
  obtain ⟨v4, ev4, h⟩ := gl_s h
  refine g_topi ev4 ?_
  refine lv_istore (lv' := [(13, .int v4), (12, .int v2), (10, .long v1), (8, .long s0), (0, .long x0), (2, .long x2), (4, .int x4), (6, .long x6)]) hx hb dX6_plus_158 hl (by decide) rfl (fun ls hl => ?_)
  refine lv_lload hx hb dX6_plus_160 (lv_at hl 2 rfl) ?_
  refine lv_iload hx hb dX6_plus_162 (lv_at hl 0 rfl) ?_
  refine lv_lshl (v := (g_lshl v1 v4)) hx hb dX6_plus_164 rfl ?_
  obtain ⟨v5, ev5, h⟩ := gl_s h
  refine g_topl ev5 ?_
  refine lv_lstore (lv' := [(10, .long v5), (13, .int v4), (12, .int v2), (8, .long s0), (0, .long x0), (2, .long x2), (4, .int x4), (6, .long x6)]) hx hb dX6_plus_165 hl (by decide) rfl (fun ls hl => ?_)
  refine lv_iload hx hb dX6_plus_167 (lv_at hl 2 rfl) ?_
  refine lv_iload hx hb dX6_plus_169 (lv_at hl 1 rfl) ?_
  refine lv_isub (x := v2) (y := v4) hx hb dX6_plus_171 ?_
  obtain ⟨v6, ev6, h⟩ := gl_s h
  refine g_topi ev6 ?_
  refine lv_istore (lv' := [(12, .int v6), (10, .long v5), (13, .int v4), (8, .long s0), (0, .long x0), (2, .long x2), (4, .int x4), (6, .long x6)]) hx hb dX6_plus_172 hl (by decide) rfl (fun ls hl => ?_)
  refine lv_lload hx hb dX6_plus_174 (lv_at hl 3 rfl) ?_
  refine g_callS X hI (av := [.long s0]) (c_X6_mantissa s0) gm_X6_mantissa tw_3_233 tw_3_234 ⟨by decide, by decide⟩ hl.1 (rest := []) rfl (Nat.le_of_ble_eq_true rfl) dX6_plus_176 ⟨by decide, by decide⟩ (st1 := [.long (f_X6_mantissa s0)]) rfl (cells' := 0) (slots' := 0) rfl rfl (fun H locs hI => ?_)
  obtain ⟨v7, ev7, h⟩ := gl_s h
  refine g_topl ev7 ?_
  refine lv_lstore (lv' := [(14, .long v7), (12, .int v6), (10, .long v5), (13, .int v4), (8, .long s0), (0, .long x0), (2, .long x2), (4, .int x4), (6, .long x6)]) hx hb dX6_plus_179 hl (by decide) rfl (fun ls hl => ?_)
  refine lv_iload hx hb dX6_plus_181 (lv_at hl 1 rfl) ?_
  refine lv_lload hx hb dX6_plus_183 (lv_at hl 4 rfl) ?_
  refine g_callS X hI (av := [.long s0]) (c_X6_exponent s0) gm_X6_exponent tw_3_238 tw_3_239 ⟨by decide, by decide⟩ hl.1 (rest := [.int v6]) rfl (Nat.le_of_ble_eq_true rfl) dX6_plus_185 ⟨by decide, by decide⟩ (st1 := [.int (f_X6_exponent s0), .int v6]) rfl (cells' := 0) (slots' := 0) rfl rfl (fun H locs hI => ?_)
  refine lv_isub (x := v6) (y := (f_X6_exponent s0)) hx hb dX6_plus_188 ?_
  obtain ⟨v8, ev8, h⟩ := gl_s h
  refine g_topi ev8 ?_
  refine lv_istore (lv' := [(16, .int v8), (14, .long v7), (12, .int v6), (10, .long v5), (13, .int v4), (8, .long s0), (0, .long x0), (2, .long x2), (4, .int x4), (6, .long x6)]) hx hb dX6_plus_189 hl (by decide) rfl (fun ls hl => ?_)
  refine lv_iconst (v := 0) hx hb dX6_plus_191 (by decide) ?_
  refine lv_istore (lv' := [(17, .int 0), (16, .int v8), (14, .long v7), (12, .int v6), (10, .long v5), (13, .int v4), (8, .long s0), (0, .long x0), (2, .long x2), (4, .int x4), (6, .long x6)]) hx hb dX6_plus_192 hl (by decide) rfl (fun ls hl => ?_)
  refine lv_lload hx hb dX6_plus_194 (lv_at hl 2 rfl) ?_
  refine lv_lconst (v := 0) hx hb dX6_plus_196 (by decide) ?_
  refine W.lcmp hx hb dX6_plus_197 ?_
  refine lv_if_eq (tgt := 208) hx hb dX6_plus_198 (by decide) (fun c => ?_) (fun c => ?_)
  · have h := g_t _ ((lg_cmp_eq _ _).mp c) h
    exact b_X6_plus_208 X hI h (lv_sub hl [7, 8, 9, 10, 4, 3, 2] rfl)
  · have h := g_f _ (fun q => c ((lg_cmp_eq _ _).mpr q)) h
    refine lv_iload hx hb dX6_plus_201 (lv_at hl 1 rfl) ?_
    refine lv_bipush (v := 62) hx hb dX6_plus_203 (by decide) ?_
    refine lv_icmp_le (tgt := 228) hx hb dX6_plus_205 (by decide) (fun c => ?_) (fun c => ?_)
    · have h := g_t _ c h
      refine lv_iload hx hb dX6_plus_228 (lv_at hl 1 rfl) ?_
      refine lv_if_le (tgt := 264) hx hb dX6_plus_230 (by decide) (fun c => ?_) (fun c => ?_)
      · have h := g_t _ c h
        refine lv_lload hx hb dX6_plus_264 (lv_at hl 2 rfl) ?_
        refine lv_iload hx hb dX6_plus_266 (lv_at hl 1 rfl) ?_
        refine lv_ineg hx hb dX6_plus_268 ?_
        refine lv_lshl (v := (g_lshl v7 (-v8))) hx hb dX6_plus_269 rfl ?_
        obtain ⟨v9, ev9, h⟩ := gl_s h
        refine g_topl ev9 ?_
        refine lv_lstore (lv' := [(14, .long v9), (17, .int 0), (16, .int v8), (12, .int v6), (10, .long v5), (13, .int v4), (8, .long s0), (0, .long x0), (2, .long x2), (4, .int x4), (6, .long x6)]) hx hb dX6_plus_270 hl (by decide) rfl (fun ls hl => ?_)
        exact b_X6_plus_272 X hI h (lv_sub hl [7, 8, 9, 10, 4, 3, 0, 1] rfl)
      · have h := g_f _ c h
        refine lv_lload hx hb dX6_plus_233 (lv_at hl 2 rfl) ?_
        refine lv_lconst (v := 1) hx hb dX6_plus_235 (by decide) ?_
        refine lv_iload hx hb dX6_plus_236 (lv_at hl 1 rfl) ?_
        refine lv_lshl (v := (g_lshl 1 v8)) hx hb dX6_plus_238 rfl ?_
        refine lv_lconst (v := 1) hx hb dX6_plus_239 (by decide) ?_
        refine lv_lsub (x := (g_lshl 1 v8)) (y := 1) hx hb dX6_plus_240 ?_
        refine lv_land (x := v7) (y := ((g_lshl 1 v8) - 1)) hx hb dX6_plus_241 ?_
        refine lv_lconst (v := 0) hx hb dX6_plus_242 (by decide) ?_
        refine W.lcmp hx hb dX6_plus_243 ?_
        refine lv_if_eq (tgt := 251) hx hb dX6_plus_244 (by decide) (fun c => ?_) (fun c => ?_)
        · have h := g_t _ ((lg_cmp_eq _ _).mp c) h
          refine lv_iconst (v := 0) hx hb dX6_plus_251 (by decide) ?_
          exact b_X6_plus_252 X hI h (lv_sub hl [7, 8, 9, 10, 4, 3, 2, 1] rfl)
        · have h := g_f _ (fun q => c ((lg_cmp_eq _ _).mpr q)) h
          refine lv_iconst (v := 1) hx hb dX6_plus_247 (by decide) ?_
          refine lv_goto (tgt := 252) hx hb dX6_plus_248 (by decide) ?_
          exact b_X6_plus_252 X hI h (lv_sub hl [7, 8, 9, 10, 4, 3, 2, 1] rfl)
    · have h := g_f _ c h
      exact b_X6_plus_208 X hI h (lv_sub hl [7, 8, 9, 10, 4, 3, 2] rfl)
def f_X6_plus_122 (x0 : Int64) (x2 : Int64) (x4 : Int32) (x5 : Int32) (s0 : Int64) : Option Int64 :=
  if x5 = 0 then
    f_X6_plus_134 x0 x2 x4 s0 x0
  else
  f_X6_plus_134 x0 x2 x4 s0 x2
set_option maxHeartbeats 4000000 in
set_option maxRecDepth 100000 in
theorem b_X6_plus_122 {p : Program} {l : Launch} {e : Env} {s : State} {m : MethodId} {args : Array Value} {below : List Frame} {meth : Method} {c : Code} {E : gE} {G0 : gG} {n0 : Nat} (X : g_X E G0 n0 p s m args meth c cX6_plus 20 RX6 "plus" (some .long)) {G : gG} {n : Nat} {r : Int64} {H : Heap} {locs : List Loc} (hI : g_I E (g_A G0 n0) G n s.heap H locs) {x0 : Int64} {x2 : Int64} {x4 : Int32} {x5 : Int32} {s0 : Int64} (h : f_X6_plus_122 x0 x2 x4 x5 s0 = some r) {ls : Array Slot} (hl : lv_has ls 20 [(0, .long x0), (2, .long x2), (4, .int x4), (5, .int x5)]) : W p l e rm_X6_plus s m args below meth c H locs 0 0 (MQ below (g_Q E G0 n0 (some (.long r)) G n) args s rm_X6_plus.cells rm_X6_plus.slots (g_A G0 n0)) (F0 m 122 ls [.long s0]) := by
  have hx := X.1
  have hb := X.2.1
  unfold f_X6_plus_122 at h
  refine lv_lstore (lv' := [(6, .long s0), (0, .long x0), (2, .long x2), (4, .int x4), (5, .int x5)]) hx hb dX6_plus_122 hl (by decide) rfl (fun ls hl => ?_)
  refine lv_iload hx hb dX6_plus_124 (lv_at hl 4 rfl) ?_
  refine lv_if_eq (tgt := 133) hx hb dX6_plus_126 (by decide) (fun c => ?_) (fun c => ?_)
  · have h := g_t _ c h
    refine lv_lload_n hx hb dX6_plus_133 rfl (lv_at hl 1 rfl) ?_
    exact b_X6_plus_134 X hI h (lv_sub hl [1, 2, 3, 0] rfl)
  · have h := g_f _ c h
    refine lv_lload_n hx hb dX6_plus_129 rfl (lv_at hl 2 rfl) ?_
    refine lv_goto (tgt := 134) hx hb dX6_plus_130 (by decide) ?_
    exact b_X6_plus_134 X hI h (lv_sub hl [1, 2, 3, 0] rfl)
def f_X6_plus_110 (x0 : Int64) (x2 : Int64) (x4 : Int32) (s0 : Int32) : Option Int64 :=
  if s0 = 0 then
    f_X6_plus_122 x0 x2 x4 s0 x2
  else
  f_X6_plus_122 x0 x2 x4 s0 x0
set_option maxHeartbeats 4000000 in
set_option maxRecDepth 100000 in
theorem b_X6_plus_110 {p : Program} {l : Launch} {e : Env} {s : State} {m : MethodId} {args : Array Value} {below : List Frame} {meth : Method} {c : Code} {E : gE} {G0 : gG} {n0 : Nat} (X : g_X E G0 n0 p s m args meth c cX6_plus 20 RX6 "plus" (some .long)) {G : gG} {n : Nat} {r : Int64} {H : Heap} {locs : List Loc} (hI : g_I E (g_A G0 n0) G n s.heap H locs) {x0 : Int64} {x2 : Int64} {x4 : Int32} {s0 : Int32} (h : f_X6_plus_110 x0 x2 x4 s0 = some r) {ls : Array Slot} (hl : lv_has ls 20 [(0, .long x0), (2, .long x2), (4, .int x4)]) : W p l e rm_X6_plus s m args below meth c H locs 0 0 (MQ below (g_Q E G0 n0 (some (.long r)) G n) args s rm_X6_plus.cells rm_X6_plus.slots (g_A G0 n0)) (F0 m 110 ls [.int s0]) := by
  have hx := X.1
  have hb := X.2.1
  unfold f_X6_plus_110 at h
  refine lv_istore (lv' := [(5, .int s0), (0, .long x0), (2, .long x2), (4, .int x4)]) hx hb dX6_plus_110 hl (by decide) rfl (fun ls hl => ?_)
  refine lv_iload hx hb dX6_plus_112 (lv_at hl 0 rfl) ?_
  refine lv_if_eq (tgt := 121) hx hb dX6_plus_114 (by decide) (fun c => ?_) (fun c => ?_)
  · have h := g_t _ c h
    refine lv_lload_n hx hb dX6_plus_121 rfl (lv_at hl 2 rfl) ?_
    exact b_X6_plus_122 X hI h (lv_sub hl [1, 2, 3, 0] rfl)
  · have h := g_f _ c h
    refine lv_lload_n hx hb dX6_plus_117 rfl (lv_at hl 1 rfl) ?_
    refine lv_goto (tgt := 122) hx hb dX6_plus_118 (by decide) ?_
    exact b_X6_plus_122 X hI h (lv_sub hl [1, 2, 3, 0] rfl)
def f_X6_plus_91 (x0 : Int64) (x2 : Int64) (x4 : Int32) : Option Int64 :=
  if (x0 &&& 9223372036854775807) < (x2 &&& 9223372036854775807) then
    f_X6_plus_110 x0 x2 x4 0
  else
  f_X6_plus_110 x0 x2 x4 1
set_option maxHeartbeats 4000000 in
set_option maxRecDepth 100000 in
theorem b_X6_plus_91 {p : Program} {l : Launch} {e : Env} {s : State} {m : MethodId} {args : Array Value} {below : List Frame} {meth : Method} {c : Code} {E : gE} {G0 : gG} {n0 : Nat} (X : g_X E G0 n0 p s m args meth c cX6_plus 20 RX6 "plus" (some .long)) {G : gG} {n : Nat} {r : Int64} {H : Heap} {locs : List Loc} (hI : g_I E (g_A G0 n0) G n s.heap H locs) {x0 : Int64} {x2 : Int64} {x4 : Int32} (h : f_X6_plus_91 x0 x2 x4 = some r) {ls : Array Slot} (hl : lv_has ls 20 [(0, .long x0), (2, .long x2), (4, .int x4)]) : W p l e rm_X6_plus s m args below meth c H locs 0 0 (MQ below (g_Q E G0 n0 (some (.long r)) G n) args s rm_X6_plus.cells rm_X6_plus.slots (g_A G0 n0)) (F0 m 91 ls []) := by
  have hx := X.1
  have hb := X.2.1
  unfold f_X6_plus_91 at h
  refine lv_lload_n hx hb dX6_plus_91 rfl (lv_at hl 0 rfl) ?_
  refine lv_ldc2 (v := 9223372036854775807) hx hb X.2.2.2.1 (X.2.2.2.2.1 _ tw_3_140) dX6_plus_92 ?_
  refine lv_land (x := x0) (y := 9223372036854775807) hx hb dX6_plus_95 ?_
  refine lv_lload_n hx hb dX6_plus_96 rfl (lv_at hl 1 rfl) ?_
  refine lv_ldc2 (v := 9223372036854775807) hx hb X.2.2.2.1 (X.2.2.2.2.1 _ tw_3_140) dX6_plus_97 ?_
  refine lv_land (x := x2) (y := 9223372036854775807) hx hb dX6_plus_100 ?_
  refine W.lcmp hx hb dX6_plus_101 ?_
  refine lv_if_lt (tgt := 109) hx hb dX6_plus_102 (by decide) (fun c => ?_) (fun c => ?_)
  · have h := g_t _ ((lg_cmp_lt _ _).mp c) h
    refine lv_iconst (v := 0) hx hb dX6_plus_109 (by decide) ?_
    exact b_X6_plus_110 X hI h (lv_sub hl [0, 1, 2] rfl)
  · have h := g_f _ (fun q => c ((lg_cmp_lt _ _).mpr q)) h
    refine lv_iconst (v := 1) hx hb dX6_plus_105 (by decide) ?_
    refine lv_goto (tgt := 110) hx hb dX6_plus_106 (by decide) ?_
    exact b_X6_plus_110 X hI h (lv_sub hl [0, 1, 2] rfl)
def f_X6_plus_52 (x0 : Int64) (x2 : Int64) : Option Int64 :=
  if (f_X6_isInfinite x0) = 0 then
    some x2
  else
  some x0
set_option maxHeartbeats 4000000 in
set_option maxRecDepth 100000 in
theorem b_X6_plus_52 {p : Program} {l : Launch} {e : Env} {s : State} {m : MethodId} {args : Array Value} {below : List Frame} {meth : Method} {c : Code} {E : gE} {G0 : gG} {n0 : Nat} (X : g_X E G0 n0 p s m args meth c cX6_plus 20 RX6 "plus" (some .long)) {G : gG} {n : Nat} {r : Int64} {H : Heap} {locs : List Loc} (hI : g_I E (g_A G0 n0) G n s.heap H locs) {x0 : Int64} {x2 : Int64} (h : f_X6_plus_52 x0 x2 = some r) {ls : Array Slot} (hl : lv_has ls 20 [(0, .long x0), (2, .long x2)]) : W p l e rm_X6_plus s m args below meth c H locs 0 0 (MQ below (g_Q E G0 n0 (some (.long r)) G n) args s rm_X6_plus.cells rm_X6_plus.slots (g_A G0 n0)) (F0 m 52 ls []) := by
  have hx := X.1
  have hb := X.2.1
  unfold f_X6_plus_52 at h
  refine lv_lload_n hx hb dX6_plus_52 rfl (lv_at hl 0 rfl) ?_
  refine g_callS X hI (av := [.long x0]) (c_X6_isInfinite x0) gm_X6_isInfinite tw_3_229 tw_3_230 ⟨by decide, by decide⟩ hl.1 (rest := []) rfl (Nat.le_of_ble_eq_true rfl) dX6_plus_53 ⟨by decide, by decide⟩ (st1 := [.int (f_X6_isInfinite x0)]) rfl (cells' := 0) (slots' := 0) rfl rfl (fun H locs hI => ?_)
  refine lv_if_eq (tgt := 63) hx hb dX6_plus_56 (by decide) (fun c => ?_) (fun c => ?_)
  · have h := g_t _ c h
    refine lv_lload_n hx hb dX6_plus_63 rfl (lv_at hl 1 rfl) ?_
    have h := Option.some.inj h
    subst h
    exact g_lret X hI dX6_plus_64
  · have h := g_f _ c h
    refine lv_lload_n hx hb dX6_plus_59 rfl (lv_at hl 0 rfl) ?_
    refine lv_goto (tgt := 64) hx hb dX6_plus_60 (by decide) ?_
    have h := Option.some.inj h
    subst h
    exact g_lret X hI dX6_plus_64
def f_X6_plus_38 (x0 : Int64) (x2 : Int64) (x4 : Int32) : Option Int64 :=
  if (f_X6_isInfinite x0) = 0 then
    if (f_X6_isInfinite x2) = 0 then
      if (f_X6_isZero x0) = 0 then
        f_X6_plus_91 x0 x2 x4
      else
      if (f_X6_isZero x2) = 0 then
        f_X6_plus_91 x0 x2 x4
      else
      if x0 = x2 then
        some x0
      else
      some 0
    else
    f_X6_plus_52 x0 x2
  else
  f_X6_plus_52 x0 x2
set_option maxHeartbeats 4000000 in
set_option maxRecDepth 100000 in
theorem b_X6_plus_38 {p : Program} {l : Launch} {e : Env} {s : State} {m : MethodId} {args : Array Value} {below : List Frame} {meth : Method} {c : Code} {E : gE} {G0 : gG} {n0 : Nat} (X : g_X E G0 n0 p s m args meth c cX6_plus 20 RX6 "plus" (some .long)) {G : gG} {n : Nat} {r : Int64} {H : Heap} {locs : List Loc} (hI : g_I E (g_A G0 n0) G n s.heap H locs) {x0 : Int64} {x2 : Int64} {x4 : Int32} (h : f_X6_plus_38 x0 x2 x4 = some r) {ls : Array Slot} (hl : lv_has ls 20 [(0, .long x0), (2, .long x2), (4, .int x4)]) : W p l e rm_X6_plus s m args below meth c H locs 0 0 (MQ below (g_Q E G0 n0 (some (.long r)) G n) args s rm_X6_plus.cells rm_X6_plus.slots (g_A G0 n0)) (F0 m 38 ls []) := by
  have hx := X.1
  have hb := X.2.1
  unfold f_X6_plus_38 at h
  refine lv_lload_n hx hb dX6_plus_38 rfl (lv_at hl 0 rfl) ?_
  refine g_callS X hI (av := [.long x0]) (c_X6_isInfinite x0) gm_X6_isInfinite tw_3_229 tw_3_230 ⟨by decide, by decide⟩ hl.1 (rest := []) rfl (Nat.le_of_ble_eq_true rfl) dX6_plus_39 ⟨by decide, by decide⟩ (st1 := [.int (f_X6_isInfinite x0)]) rfl (cells' := 0) (slots' := 0) rfl rfl (fun H locs hI => ?_)
  refine lv_if_ne (tgt := 52) hx hb dX6_plus_42 (by decide) (fun c => ?_) (fun c => ?_)
  · have h := g_f _ c h
    exact b_X6_plus_52 X hI h (lv_sub hl [0, 1] rfl)
  · have h := g_t _ c h
    refine lv_lload_n hx hb dX6_plus_45 rfl (lv_at hl 1 rfl) ?_
    refine g_callS X hI (av := [.long x2]) (c_X6_isInfinite x2) gm_X6_isInfinite tw_3_229 tw_3_230 ⟨by decide, by decide⟩ hl.1 (rest := []) rfl (Nat.le_of_ble_eq_true rfl) dX6_plus_46 ⟨by decide, by decide⟩ (st1 := [.int (f_X6_isInfinite x2)]) rfl (cells' := 0) (slots' := 0) rfl rfl (fun H locs hI => ?_)
    refine lv_if_eq (tgt := 65) hx hb dX6_plus_49 (by decide) (fun c => ?_) (fun c => ?_)
    · have h := g_t _ c h
      refine lv_lload_n hx hb dX6_plus_65 rfl (lv_at hl 0 rfl) ?_
      refine g_callS X hI (av := [.long x0]) (c_X6_isZero x0) gm_X6_isZero tw_4_1 tw_4_2 ⟨by decide, by decide⟩ hl.1 (rest := []) rfl (Nat.le_of_ble_eq_true rfl) dX6_plus_66 ⟨by decide, by decide⟩ (st1 := [.int (f_X6_isZero x0)]) rfl (cells' := 0) (slots' := 0) rfl rfl (fun H locs hI => ?_)
      refine lv_if_eq (tgt := 91) hx hb dX6_plus_69 (by decide) (fun c => ?_) (fun c => ?_)
      · have h := g_t _ c h
        exact b_X6_plus_91 X hI h (lv_sub hl [0, 1, 2] rfl)
      · have h := g_f _ c h
        refine lv_lload_n hx hb dX6_plus_72 rfl (lv_at hl 1 rfl) ?_
        refine g_callS X hI (av := [.long x2]) (c_X6_isZero x2) gm_X6_isZero tw_4_1 tw_4_2 ⟨by decide, by decide⟩ hl.1 (rest := []) rfl (Nat.le_of_ble_eq_true rfl) dX6_plus_73 ⟨by decide, by decide⟩ (st1 := [.int (f_X6_isZero x2)]) rfl (cells' := 0) (slots' := 0) rfl rfl (fun H locs hI => ?_)
        refine lv_if_eq (tgt := 91) hx hb dX6_plus_76 (by decide) (fun c => ?_) (fun c => ?_)
        · have h := g_t _ c h
          exact b_X6_plus_91 X hI h (lv_sub hl [0, 1, 2] rfl)
        · have h := g_f _ c h
          refine lv_lload_n hx hb dX6_plus_79 rfl (lv_at hl 0 rfl) ?_
          refine lv_lload_n hx hb dX6_plus_80 rfl (lv_at hl 1 rfl) ?_
          refine W.lcmp hx hb dX6_plus_81 ?_
          refine lv_if_ne (tgt := 89) hx hb dX6_plus_82 (by decide) (fun c => ?_) (fun c => ?_)
          · have h := g_f _ ((not_congr (lg_cmp_eq _ _)).mp c) h
            refine lv_lconst (v := 0) hx hb dX6_plus_89 (by decide) ?_
            have h := Option.some.inj h
            subst h
            exact g_lret X hI dX6_plus_90
          · have h := g_t _ ((lg_cmp_eq _ _).mp c) h
            refine lv_lload_n hx hb dX6_plus_85 rfl (lv_at hl 0 rfl) ?_
            refine lv_goto (tgt := 90) hx hb dX6_plus_86 (by decide) ?_
            have h := Option.some.inj h
            subst h
            exact g_lret X hI dX6_plus_90
    · have h := g_f _ c h
      exact b_X6_plus_52 X hI h (lv_sub hl [0, 1] rfl)
def f_X6_plus (a0 : Int64) (a2 : Int64) (a4 : Int32) : Option Int64 :=
  if (f_X6_isNan a0) = 0 then
    if (f_X6_isNan a2) = 0 then
      if (f_X6_isInfinite a0) = 0 then
        f_X6_plus_38 a0 a2 a4
      else
      if (f_X6_isInfinite a2) = 0 then
        f_X6_plus_38 a0 a2 a4
      else
      if a0 = a2 then
        f_X6_plus_38 a0 a2 a4
      else
      some 9221120237041090560
    else
    some 9221120237041090560
  else
  some 9221120237041090560
theorem gm_X6_plus : g_M yX6_plus cX6_plus 20 (some .long) 3 := ⟨tw_4_28, tw_1_5, by decide +kernel, Or.inl (by decide +kernel)⟩
set_option maxHeartbeats 4000000 in
set_option maxRecDepth 100000 in
theorem c_X6_plus {l : Launch} {E : gE} {G : gG} {n : Nat} {a0 : Int64} {a2 : Int64} {a4 : Int32} {r : Int64} (h : f_X6_plus a0 a2 a4 = some r) : g_Met l yX6_plus cX6_plus 20 (some .long) rm_X6_plus E G n [.long a0, .long a2, .int a4] (some (.long r)) G n := by
  refine g_ofW gm_X6_plus (Nat.le_of_ble_eq_true rfl) ?_
  intro p e s m below meth c ls X hl hI
  have hx := X.1
  have hb := X.2.1
  have X : g_X E G n p s m _ meth c cX6_plus 20 RX6 "plus" (some .long) := X
  have hl : lv_has ls 20 [(0, .long a0), (2, .long a2), (4, .int a4)] := hl
  unfold f_X6_plus at h
  refine lv_lload_n hx hb dX6_plus_0 rfl (lv_at hl 0 rfl) ?_
  refine g_callS X hI (av := [.long a0]) (c_X6_isNan a0) gm_X6_isNan tw_3_137 tw_3_138 ⟨by decide, by decide⟩ hl.1 (rest := []) rfl (Nat.le_of_ble_eq_true rfl) dX6_plus_1 ⟨by decide, by decide⟩ (st1 := [.int (f_X6_isNan a0)]) rfl (cells' := 0) (slots' := 0) rfl rfl (fun H locs hI => ?_)
  refine lv_if_ne (tgt := 34) hx hb dX6_plus_4 (by decide) (fun c => ?_) (fun c => ?_)
  · have h := g_f _ c h
    refine lv_ldc2 (v := 9221120237041090560) hx hb X.2.2.2.1 (X.2.2.2.2.1 _ tw_3_142) dX6_plus_34 ?_
    have h := Option.some.inj h
    subst h
    exact g_lret X hI dX6_plus_37
  · have h := g_t _ c h
    refine lv_lload_n hx hb dX6_plus_7 rfl (lv_at hl 1 rfl) ?_
    refine g_callS X hI (av := [.long a2]) (c_X6_isNan a2) gm_X6_isNan tw_3_137 tw_3_138 ⟨by decide, by decide⟩ hl.1 (rest := []) rfl (Nat.le_of_ble_eq_true rfl) dX6_plus_8 ⟨by decide, by decide⟩ (st1 := [.int (f_X6_isNan a2)]) rfl (cells' := 0) (slots' := 0) rfl rfl (fun H locs hI => ?_)
    refine lv_if_ne (tgt := 34) hx hb dX6_plus_11 (by decide) (fun c => ?_) (fun c => ?_)
    · have h := g_f _ c h
      refine lv_ldc2 (v := 9221120237041090560) hx hb X.2.2.2.1 (X.2.2.2.2.1 _ tw_3_142) dX6_plus_34 ?_
      have h := Option.some.inj h
      subst h
      exact g_lret X hI dX6_plus_37
    · have h := g_t _ c h
      refine lv_lload_n hx hb dX6_plus_14 rfl (lv_at hl 0 rfl) ?_
      refine g_callS X hI (av := [.long a0]) (c_X6_isInfinite a0) gm_X6_isInfinite tw_3_229 tw_3_230 ⟨by decide, by decide⟩ hl.1 (rest := []) rfl (Nat.le_of_ble_eq_true rfl) dX6_plus_15 ⟨by decide, by decide⟩ (st1 := [.int (f_X6_isInfinite a0)]) rfl (cells' := 0) (slots' := 0) rfl rfl (fun H locs hI => ?_)
      refine lv_if_eq (tgt := 38) hx hb dX6_plus_18 (by decide) (fun c => ?_) (fun c => ?_)
      · have h := g_t _ c h
        exact b_X6_plus_38 X hI h (lv_sub hl [0, 1, 2] rfl)
      · have h := g_f _ c h
        refine lv_lload_n hx hb dX6_plus_21 rfl (lv_at hl 1 rfl) ?_
        refine g_callS X hI (av := [.long a2]) (c_X6_isInfinite a2) gm_X6_isInfinite tw_3_229 tw_3_230 ⟨by decide, by decide⟩ hl.1 (rest := []) rfl (Nat.le_of_ble_eq_true rfl) dX6_plus_22 ⟨by decide, by decide⟩ (st1 := [.int (f_X6_isInfinite a2)]) rfl (cells' := 0) (slots' := 0) rfl rfl (fun H locs hI => ?_)
        refine lv_if_eq (tgt := 38) hx hb dX6_plus_25 (by decide) (fun c => ?_) (fun c => ?_)
        · have h := g_t _ c h
          exact b_X6_plus_38 X hI h (lv_sub hl [0, 1, 2] rfl)
        · have h := g_f _ c h
          refine lv_lload_n hx hb dX6_plus_28 rfl (lv_at hl 0 rfl) ?_
          refine lv_lload_n hx hb dX6_plus_29 rfl (lv_at hl 1 rfl) ?_
          refine W.lcmp hx hb dX6_plus_30 ?_
          refine lv_if_eq (tgt := 38) hx hb dX6_plus_31 (by decide) (fun c => ?_) (fun c => ?_)
          · have h := g_t _ ((lg_cmp_eq _ _).mp c) h
            exact b_X6_plus_38 X hI h (lv_sub hl [0, 1, 2] rfl)
          · have h := g_f _ (fun q => c ((lg_cmp_eq _ _).mpr q)) h
            refine lv_ldc2 (v := 9221120237041090560) hx hb X.2.2.2.1 (X.2.2.2.2.1 _ tw_3_142) dX6_plus_34 ?_
            have h := Option.some.inj h
            subst h
            exact g_lret X hI dX6_plus_37
abbrev rm_X6_other : Room := { frames := 1, cells := 0, slots := 0, locals := 21 }
def f_X6_other (a0 : Int64) : Int64 :=
  if (f_X6_isNan a0) = 0 then
    (a0 ^^^ (-9223372036854775808))
  else
  9221120237041090560
theorem gm_X6_other : g_M yX6_other cX6_other 2 (some .long) 1 := ⟨tw_4_31, tw_1_5, by decide +kernel, Or.inl (by decide +kernel)⟩
set_option maxHeartbeats 4000000 in
set_option maxRecDepth 100000 in
theorem c_X6_other {l : Launch} {E : gE} {G : gG} {n : Nat} (a0 : Int64) : g_Met l yX6_other cX6_other 2 (some .long) rm_X6_other E G n [.long a0] (some (.long (f_X6_other a0))) G n := by
  generalize h : f_X6_other a0 = r
  refine g_ofW gm_X6_other (Nat.le_of_ble_eq_true rfl) ?_
  intro p e s m below meth c ls X hl hI
  have hx := X.1
  have hb := X.2.1
  have X : g_X E G n p s m _ meth c cX6_other 2 RX6 "other" (some .long) := X
  have hl : lv_has ls 2 [(0, .long a0)] := hl
  unfold f_X6_other at h
  refine lv_lload_n hx hb dX6_other_0 rfl (lv_at hl 0 rfl) ?_
  refine g_callS X hI (av := [.long a0]) (c_X6_isNan a0) gm_X6_isNan tw_3_137 tw_3_138 ⟨by decide, by decide⟩ hl.1 (rest := []) rfl (Nat.le_of_ble_eq_true rfl) dX6_other_1 ⟨by decide, by decide⟩ (st1 := [.int (f_X6_isNan a0)]) rfl (cells' := 0) (slots' := 0) rfl rfl (fun H locs hI => ?_)
  refine lv_if_eq (tgt := 13) hx hb dX6_other_4 (by decide) (fun c => ?_) (fun c => ?_)
  · have h := g_t _ c h
    refine lv_lload_n hx hb dX6_other_13 rfl (lv_at hl 0 rfl) ?_
    refine lv_ldc2 (v := (-9223372036854775808)) hx hb X.2.2.2.1 (X.2.2.2.2.1 _ tw_3_210) dX6_other_14 ?_
    refine lv_lxor (x := a0) (y := (-9223372036854775808)) hx hb dX6_other_17 ?_
    subst h
    exact g_lret X hI dX6_other_18
  · have h := g_f _ c h
    refine lv_ldc2 (v := 9221120237041090560) hx hb X.2.2.2.1 (X.2.2.2.2.1 _ tw_3_142) dX6_other_7 ?_
    refine lv_goto (tgt := 18) hx hb dX6_other_10 (by decide) ?_
    subst h
    exact g_lret X hI dX6_other_18
abbrev rm_X6_over : Room := { frames := 3, cells := 0, slots := 0, locals := 85 }
def f_X6_over_236 (x4 : Int32) (s0 : Int32) (s1 : Int32) (s2 : Int64) (s3 : Int32) : Option Int64 :=
  gb (f_X6_fit s3 s2 s1 s0 x4) fun r1 =>
  some r1
set_option maxHeartbeats 4000000 in
set_option maxRecDepth 100000 in
theorem b_X6_over_236 {p : Program} {l : Launch} {e : Env} {s : State} {m : MethodId} {args : Array Value} {below : List Frame} {meth : Method} {c : Code} {E : gE} {G0 : gG} {n0 : Nat} (X : g_X E G0 n0 p s m args meth c cX6_over 13 RX6 "over" (some .long)) {G : gG} {n : Nat} {r : Int64} {H : Heap} {locs : List Loc} (hI : g_I E (g_A G0 n0) G n s.heap H locs) {x4 : Int32} {s0 : Int32} {s1 : Int32} {s2 : Int64} {s3 : Int32} (h : f_X6_over_236 x4 s0 s1 s2 s3 = some r) {ls : Array Slot} (hl : lv_has ls 13 [(4, .int x4)]) : W p l e rm_X6_over s m args below meth c H locs 0 0 (MQ below (g_Q E G0 n0 (some (.long r)) G n) args s rm_X6_over.cells rm_X6_over.slots (g_A G0 n0)) (F0 m 236 ls [.int s0, .int s1, .long s2, .int s3]) := by
  have hx := X.1
  have hb := X.2.1
  unfold f_X6_over_236 at h
  refine lv_iload hx hb dX6_over_236 (lv_at hl 0 rfl) ?_
  obtain ⟨r1, er1, h⟩ := gb_s h
  refine g_callS X hI (av := [.int s3, .long s2, .int s1, .int s0, .int x4]) (c_X6_fit er1) gm_X6_fit tw_3_204 tw_3_205 ⟨by decide, by decide⟩ hl.1 (rest := []) rfl (Nat.le_of_ble_eq_true rfl) dX6_over_238 ⟨by decide, by decide⟩ (st1 := [.long r1]) rfl (cells' := 0) (slots' := 0) rfl rfl (fun H locs hI => ?_)
  have h := Option.some.inj h
  subst h
  exact g_lret X hI dX6_over_241
def f_X6_over_209 (k157 : Int32 → Int32 → Int64 → Int64 → Int64 → Int32 → Option Int64) (x4 : Int32) (x5 : Int32) (x6 : Int64) (x8 : Int64) (x12 : Int32) (s0 : Int64) (s1 : Int64) : Option Int64 :=
  gl ((s1 - s0) : Int64) fun v1 =>
  gl (x12 + (-1) : Int32) fun v2 =>
  k157 x4 x5 x6 x8 v1 v2
set_option maxHeartbeats 4000000 in
set_option maxRecDepth 100000 in
theorem b_X6_over_209 {p : Program} {l : Launch} {e : Env} {s : State} {m : MethodId} {args : Array Value} {below : List Frame} {meth : Method} {c : Code} {E : gE} {G0 : gG} {n0 : Nat} (X : g_X E G0 n0 p s m args meth c cX6_over 13 RX6 "over" (some .long)) {G : gG} {n : Nat} {r : Int64} {k157 : Int32 → Int32 → Int64 → Int64 → Int64 → Int32 → Option Int64} (hk157 : ∀ {H : Heap} {locs : List Loc} (_ : g_I E (g_A G0 n0) G n s.heap H locs) {x4 : Int32} {x5 : Int32} {x6 : Int64} {x8 : Int64} {x10 : Int64} {x12 : Int32}  (_ : k157 x4 x5 x6 x8 x10 x12 = some r) {ls : Array Slot} (_ : lv_has ls 13 [(4, .int x4), (5, .int x5), (6, .long x6), (8, .long x8), (10, .long x10), (12, .int x12)]), W p l e rm_X6_over s m args below meth c H locs 0 0 (MQ below (g_Q E G0 n0 (some (.long r)) G n) args s rm_X6_over.cells rm_X6_over.slots (g_A G0 n0)) (F0 m 157 ls [])) {H : Heap} {locs : List Loc} (hI : g_I E (g_A G0 n0) G n s.heap H locs) {x4 : Int32} {x5 : Int32} {x6 : Int64} {x8 : Int64} {x12 : Int32} {s0 : Int64} {s1 : Int64} (h : f_X6_over_209 k157 x4 x5 x6 x8 x12 s0 s1 = some r) {ls : Array Slot} (hl : lv_has ls 13 [(4, .int x4), (5, .int x5), (6, .long x6), (8, .long x8), (12, .int x12)]) : W p l e rm_X6_over s m args below meth c H locs 0 0 (MQ below (g_Q E G0 n0 (some (.long r)) G n) args s rm_X6_over.cells rm_X6_over.slots (g_A G0 n0)) (F0 m 209 ls [.long s0, .long s1]) := by
  have hx := X.1
  have hb := X.2.1
  unfold f_X6_over_209 at h
  refine lv_lsub (x := s1) (y := s0) hx hb dX6_over_209 ?_
  obtain ⟨v1, ev1, h⟩ := gl_s h
  refine g_topl ev1 ?_
  refine lv_lstore (lv' := [(10, .long v1), (4, .int x4), (5, .int x5), (6, .long x6), (8, .long x8), (12, .int x12)]) hx hb dX6_over_210 hl (by decide) rfl (fun ls hl => ?_)
  obtain ⟨v2, ev2, h⟩ := gl_s h
  refine lv_iinc (v := v2) (lv' := [(12, .int v2), (10, .long v1), (4, .int x4), (5, .int x5), (6, .long x6), (8, .long x8)]) hx hb dX6_over_212 hl (k := 5) rfl (by rw [← ev2]; rfl) (by decide) rfl (fun ls hl => ?_)
  refine lv_goto (tgt := 157) hx hb dX6_over_215 (by decide) ?_
  exact hk157 hI h (lv_sub hl [2, 3, 4, 5, 1, 0] rfl)
def f_X6_over_190 (k157 : Int32 → Int32 → Int64 → Int64 → Int64 → Int32 → Option Int64) (x4 : Int32) (x5 : Int32) (x6 : Int64) (x10 : Int64) (x12 : Int32) (s0 : Int64) (s1 : Int64) : Option Int64 :=
  gl ((s1 ||| s0) : Int64) fun v1 =>
  if x10 < x6 then
    f_X6_over_209 k157 x4 x5 x6 v1 x12 0 x10
  else
  f_X6_over_209 k157 x4 x5 x6 v1 x12 x6 x10
set_option maxHeartbeats 4000000 in
set_option maxRecDepth 100000 in
theorem b_X6_over_190 {p : Program} {l : Launch} {e : Env} {s : State} {m : MethodId} {args : Array Value} {below : List Frame} {meth : Method} {c : Code} {E : gE} {G0 : gG} {n0 : Nat} (X : g_X E G0 n0 p s m args meth c cX6_over 13 RX6 "over" (some .long)) {G : gG} {n : Nat} {r : Int64} {k157 : Int32 → Int32 → Int64 → Int64 → Int64 → Int32 → Option Int64} (hk157 : ∀ {H : Heap} {locs : List Loc} (_ : g_I E (g_A G0 n0) G n s.heap H locs) {x4 : Int32} {x5 : Int32} {x6 : Int64} {x8 : Int64} {x10 : Int64} {x12 : Int32}  (_ : k157 x4 x5 x6 x8 x10 x12 = some r) {ls : Array Slot} (_ : lv_has ls 13 [(4, .int x4), (5, .int x5), (6, .long x6), (8, .long x8), (10, .long x10), (12, .int x12)]), W p l e rm_X6_over s m args below meth c H locs 0 0 (MQ below (g_Q E G0 n0 (some (.long r)) G n) args s rm_X6_over.cells rm_X6_over.slots (g_A G0 n0)) (F0 m 157 ls [])) {H : Heap} {locs : List Loc} (hI : g_I E (g_A G0 n0) G n s.heap H locs) {x4 : Int32} {x5 : Int32} {x6 : Int64} {x10 : Int64} {x12 : Int32} {s0 : Int64} {s1 : Int64} (h : f_X6_over_190 k157 x4 x5 x6 x10 x12 s0 s1 = some r) {ls : Array Slot} (hl : lv_has ls 13 [(4, .int x4), (5, .int x5), (6, .long x6), (10, .long x10), (12, .int x12)]) : W p l e rm_X6_over s m args below meth c H locs 0 0 (MQ below (g_Q E G0 n0 (some (.long r)) G n) args s rm_X6_over.cells rm_X6_over.slots (g_A G0 n0)) (F0 m 190 ls [.long s0, .long s1]) := by
  have hx := X.1
  have hb := X.2.1
  unfold f_X6_over_190 at h
  refine lv_lor (x := s1) (y := s0) hx hb dX6_over_190 ?_
  obtain ⟨v1, ev1, h⟩ := gl_s h
  refine g_topl ev1 ?_
  refine lv_lstore (lv' := [(8, .long v1), (4, .int x4), (5, .int x5), (6, .long x6), (10, .long x10), (12, .int x12)]) hx hb dX6_over_191 hl (by decide) rfl (fun ls hl => ?_)
  refine lv_lload hx hb dX6_over_193 (lv_at hl 4 rfl) ?_
  refine lv_lload hx hb dX6_over_195 (lv_at hl 4 rfl) ?_
  refine lv_lload hx hb dX6_over_197 (lv_at hl 3 rfl) ?_
  refine W.lcmp hx hb dX6_over_199 ?_
  refine lv_if_lt (tgt := 208) hx hb dX6_over_200 (by decide) (fun c => ?_) (fun c => ?_)
  · have h := g_t _ ((lg_cmp_lt _ _).mp c) h
    refine lv_lconst (v := 0) hx hb dX6_over_208 (by decide) ?_
    exact b_X6_over_209 X hk157 hI h (lv_sub hl [1, 2, 3, 0, 5] rfl)
  · have h := g_f _ (fun q => c ((lg_cmp_lt _ _).mpr q)) h
    refine lv_lload hx hb dX6_over_203 (lv_at hl 3 rfl) ?_
    refine lv_goto (tgt := 209) hx hb dX6_over_205 (by decide) ?_
    exact b_X6_over_209 X hk157 hI h (lv_sub hl [1, 2, 3, 0, 5] rfl)
def f_X6_over_157 : Nat → Int32 → Int32 → Int64 → Int64 → Int64 → Int32 → Option Int64
  | 0, _, _, _, _, _, _ => none
  | fu + 1, x4, x5, x6, x8, x10, x12 =>
    gb (f_X6_length x8) fun r1 =>
    if (60 : Int32) ≤ r1 then
      if x10 = 0 then
        f_X6_over_236 x4 0 x12 x8 x5
      else
      f_X6_over_236 x4 1 x12 x8 x5
    else
    gl ((g_lshl x10 1) : Int64) fun v2 =>
    if v2 < x6 then
      f_X6_over_190 (f_X6_over_157 fu) x4 x5 x6 v2 x12 0 (g_lshl x8 1)
    else
    f_X6_over_190 (f_X6_over_157 fu) x4 x5 x6 v2 x12 1 (g_lshl x8 1)
set_option maxHeartbeats 4000000 in
set_option maxRecDepth 100000 in
theorem b_X6_over_157 {p : Program} {l : Launch} {e : Env} {s : State} {m : MethodId} {args : Array Value} {below : List Frame} {meth : Method} {c : Code} {E : gE} {G0 : gG} {n0 : Nat} (X : g_X E G0 n0 p s m args meth c cX6_over 13 RX6 "over" (some .long)) {G : gG} {n : Nat} {r : Int64} (fu : Nat) : ∀ {H : Heap} {locs : List Loc} (_ : g_I E (g_A G0 n0) G n s.heap H locs) {x4 : Int32} {x5 : Int32} {x6 : Int64} {x8 : Int64} {x10 : Int64} {x12 : Int32} (_ : f_X6_over_157 fu x4 x5 x6 x8 x10 x12 = some r) {ls : Array Slot} (_ : lv_has ls 13 [(4, .int x4), (5, .int x5), (6, .long x6), (8, .long x8), (10, .long x10), (12, .int x12)]), W p l e rm_X6_over s m args below meth c H locs 0 0 (MQ below (g_Q E G0 n0 (some (.long r)) G n) args s rm_X6_over.cells rm_X6_over.slots (g_A G0 n0)) (F0 m 157 ls []) := by
  have hx := X.1
  have hb := X.2.1
  induction fu with
  | zero =>
    intro H locs hI x4 x5 x6 x8 x10 x12 h ls hl
    rw [f_X6_over_157] at h
    cases h
  | succ fu ih =>
    intro H locs hI x4 x5 x6 x8 x10 x12 h ls hl
    rw [f_X6_over_157] at h
    refine lv_lload hx hb dX6_over_157 (lv_at hl 3 rfl) ?_
    obtain ⟨r1, er1, h⟩ := gb_s h
    refine g_callS X hI (av := [.long x8]) (c_X6_length er1) gm_X6_length tw_3_201 tw_3_202 ⟨by decide, by decide⟩ hl.1 (rest := []) rfl (Nat.le_of_ble_eq_true rfl) dX6_over_159 ⟨by decide, by decide⟩ (st1 := [.int r1]) rfl (cells' := 0) (slots' := 0) rfl rfl (fun H locs hI => ?_)
    refine lv_bipush (v := 60) hx hb dX6_over_162 (by decide) ?_
    refine lv_icmp_ge (tgt := 218) hx hb dX6_over_164 (by decide) (fun c => ?_) (fun c => ?_)
    · have h := g_t _ c h
      refine lv_iload hx hb dX6_over_218 (lv_at hl 1 rfl) ?_
      refine lv_lload hx hb dX6_over_220 (lv_at hl 3 rfl) ?_
      refine lv_iload hx hb dX6_over_222 (lv_at hl 5 rfl) ?_
      refine lv_lload hx hb dX6_over_224 (lv_at hl 4 rfl) ?_
      refine lv_lconst (v := 0) hx hb dX6_over_226 (by decide) ?_
      refine W.lcmp hx hb dX6_over_227 ?_
      refine lv_if_eq (tgt := 235) hx hb dX6_over_228 (by decide) (fun c => ?_) (fun c => ?_)
      · have h := g_t _ ((lg_cmp_eq _ _).mp c) h
        refine lv_iconst (v := 0) hx hb dX6_over_235 (by decide) ?_
        exact b_X6_over_236 X hI h (lv_sub hl [0] rfl)
      · have h := g_f _ (fun q => c ((lg_cmp_eq _ _).mpr q)) h
        refine lv_iconst (v := 1) hx hb dX6_over_231 (by decide) ?_
        refine lv_goto (tgt := 236) hx hb dX6_over_232 (by decide) ?_
        exact b_X6_over_236 X hI h (lv_sub hl [0] rfl)
    · have h := g_f _ c h
      refine lv_lload hx hb dX6_over_167 (lv_at hl 4 rfl) ?_
      refine lv_iconst (v := 1) hx hb dX6_over_169 (by decide) ?_
      refine lv_lshl (v := (g_lshl x10 1)) hx hb dX6_over_170 rfl ?_
      obtain ⟨v2, ev2, h⟩ := gl_s h
      refine g_topl ev2 ?_
      refine lv_lstore (lv' := [(10, .long v2), (4, .int x4), (5, .int x5), (6, .long x6), (8, .long x8), (12, .int x12)]) hx hb dX6_over_171 hl (by decide) rfl (fun ls hl => ?_)
      refine lv_lload hx hb dX6_over_173 (lv_at hl 4 rfl) ?_
      refine lv_iconst (v := 1) hx hb dX6_over_175 (by decide) ?_
      refine lv_lshl (v := (g_lshl x8 1)) hx hb dX6_over_176 rfl ?_
      refine lv_lload hx hb dX6_over_177 (lv_at hl 0 rfl) ?_
      refine lv_lload hx hb dX6_over_179 (lv_at hl 3 rfl) ?_
      refine W.lcmp hx hb dX6_over_181 ?_
      refine lv_if_lt (tgt := 189) hx hb dX6_over_182 (by decide) (fun c => ?_) (fun c => ?_)
      · have h := g_t _ ((lg_cmp_lt _ _).mp c) h
        refine lv_lconst (v := 0) hx hb dX6_over_189 (by decide) ?_
        exact b_X6_over_190 X ih hI h (lv_sub hl [1, 2, 3, 0, 5] rfl)
      · have h := g_f _ (fun q => c ((lg_cmp_lt _ _).mpr q)) h
        refine lv_lconst (v := 1) hx hb dX6_over_185 (by decide) ?_
        refine lv_goto (tgt := 190) hx hb dX6_over_186 (by decide) ?_
        exact b_X6_over_190 X ih hI h (lv_sub hl [1, 2, 3, 0, 5] rfl)
def f_X6_over_115 (x5 : Int32) : Option Int64 :=
  some (f_X6_signed x5 (0 : Int64))
set_option maxHeartbeats 4000000 in
set_option maxRecDepth 100000 in
theorem b_X6_over_115 {p : Program} {l : Launch} {e : Env} {s : State} {m : MethodId} {args : Array Value} {below : List Frame} {meth : Method} {c : Code} {E : gE} {G0 : gG} {n0 : Nat} (X : g_X E G0 n0 p s m args meth c cX6_over 13 RX6 "over" (some .long)) {G : gG} {n : Nat} {r : Int64} {H : Heap} {locs : List Loc} (hI : g_I E (g_A G0 n0) G n s.heap H locs) {x5 : Int32} (h : f_X6_over_115 x5 = some r) {ls : Array Slot} (hl : lv_has ls 13 [(5, .int x5)]) : W p l e rm_X6_over s m args below meth c H locs 0 0 (MQ below (g_Q E G0 n0 (some (.long r)) G n) args s rm_X6_over.cells rm_X6_over.slots (g_A G0 n0)) (F0 m 115 ls []) := by
  have hx := X.1
  have hb := X.2.1
  unfold f_X6_over_115 at h
  refine lv_iload hx hb dX6_over_115 (lv_at hl 0 rfl) ?_
  refine lv_lconst (v := 0) hx hb dX6_over_117 (by decide) ?_
  refine g_callS X hI (av := [.int x5, .long 0]) (c_X6_signed x5 (0 : Int64)) gm_X6_signed tw_3_207 tw_3_208 ⟨by decide, by decide⟩ hl.1 (rest := []) rfl (Nat.le_of_ble_eq_true rfl) dX6_over_118 ⟨by decide, by decide⟩ (st1 := [.long (f_X6_signed x5 (0 : Int64))]) rfl (cells' := 0) (slots' := 0) rfl rfl (fun H locs hI => ?_)
  have h := Option.some.inj h
  subst h
  exact g_lret X hI dX6_over_121
def f_X6_over_92 (x5 : Int32) : Option Int64 :=
  some (f_X6_signed x5 (9218868437227405312 : Int64))
set_option maxHeartbeats 4000000 in
set_option maxRecDepth 100000 in
theorem b_X6_over_92 {p : Program} {l : Launch} {e : Env} {s : State} {m : MethodId} {args : Array Value} {below : List Frame} {meth : Method} {c : Code} {E : gE} {G0 : gG} {n0 : Nat} (X : g_X E G0 n0 p s m args meth c cX6_over 13 RX6 "over" (some .long)) {G : gG} {n : Nat} {r : Int64} {H : Heap} {locs : List Loc} (hI : g_I E (g_A G0 n0) G n s.heap H locs) {x5 : Int32} (h : f_X6_over_92 x5 = some r) {ls : Array Slot} (hl : lv_has ls 13 [(5, .int x5)]) : W p l e rm_X6_over s m args below meth c H locs 0 0 (MQ below (g_Q E G0 n0 (some (.long r)) G n) args s rm_X6_over.cells rm_X6_over.slots (g_A G0 n0)) (F0 m 92 ls []) := by
  have hx := X.1
  have hb := X.2.1
  unfold f_X6_over_92 at h
  refine lv_iload hx hb dX6_over_92 (lv_at hl 0 rfl) ?_
  refine lv_ldc2 (v := 9218868437227405312) hx hb X.2.2.2.1 (X.2.2.2.2.1 _ tw_3_141) dX6_over_94 ?_
  refine g_callS X hI (av := [.int x5, .long 9218868437227405312]) (c_X6_signed x5 (9218868437227405312 : Int64)) gm_X6_signed tw_3_207 tw_3_208 ⟨by decide, by decide⟩ hl.1 (rest := []) rfl (Nat.le_of_ble_eq_true rfl) dX6_over_97 ⟨by decide, by decide⟩ (st1 := [.long (f_X6_signed x5 (9218868437227405312 : Int64))]) rfl (cells' := 0) (slots' := 0) rfl rfl (fun H locs hI => ?_)
  have h := Option.some.inj h
  subst h
  exact g_lret X hI dX6_over_100
def f_X6_over_78 (x0 : Int64) (x2 : Int64) (x4 : Int32) (x5 : Int32) : Option Int64 :=
  if (f_X6_isInfinite x0) = 0 then
    if (f_X6_isZero x2) = 0 then
      if (f_X6_isInfinite x2) = 0 then
        if (f_X6_isZero x0) = 0 then
          gl ((f_X6_mantissa x2) : Int64) fun v1 =>
          gneL v1 <|
          gl (((f_X6_mantissa x0) / v1) : Int64) fun v2 =>
          gneL v1 <|
          gl ((g_lrem (f_X6_mantissa x0) v1) : Int64) fun v3 =>
          gl (((f_X6_exponent x0) - (f_X6_exponent x2)) : Int32) fun v4 =>
          f_X6_over_157 5000 x4 x5 v1 v2 v3 v4
        else
        f_X6_over_115 x5
      else
      f_X6_over_115 x5
    else
    f_X6_over_92 x5
  else
  f_X6_over_92 x5
set_option maxHeartbeats 4000000 in
set_option maxRecDepth 100000 in
theorem b_X6_over_78 {p : Program} {l : Launch} {e : Env} {s : State} {m : MethodId} {args : Array Value} {below : List Frame} {meth : Method} {c : Code} {E : gE} {G0 : gG} {n0 : Nat} (X : g_X E G0 n0 p s m args meth c cX6_over 13 RX6 "over" (some .long)) {G : gG} {n : Nat} {r : Int64} {H : Heap} {locs : List Loc} (hI : g_I E (g_A G0 n0) G n s.heap H locs) {x0 : Int64} {x2 : Int64} {x4 : Int32} {x5 : Int32} (h : f_X6_over_78 x0 x2 x4 x5 = some r) {ls : Array Slot} (hl : lv_has ls 13 [(0, .long x0), (2, .long x2), (4, .int x4), (5, .int x5)]) : W p l e rm_X6_over s m args below meth c H locs 0 0 (MQ below (g_Q E G0 n0 (some (.long r)) G n) args s rm_X6_over.cells rm_X6_over.slots (g_A G0 n0)) (F0 m 78 ls []) := by
  have hx := X.1
  have hb := X.2.1
  unfold f_X6_over_78 at h
  refine lv_lload_n hx hb dX6_over_78 rfl (lv_at hl 0 rfl) ?_
  refine g_callS X hI (av := [.long x0]) (c_X6_isInfinite x0) gm_X6_isInfinite tw_3_229 tw_3_230 ⟨by decide, by decide⟩ hl.1 (rest := []) rfl (Nat.le_of_ble_eq_true rfl) dX6_over_79 ⟨by decide, by decide⟩ (st1 := [.int (f_X6_isInfinite x0)]) rfl (cells' := 0) (slots' := 0) rfl rfl (fun H locs hI => ?_)
  refine lv_if_ne (tgt := 92) hx hb dX6_over_82 (by decide) (fun c => ?_) (fun c => ?_)
  · have h := g_f _ c h
    exact b_X6_over_92 X hI h (lv_sub hl [3] rfl)
  · have h := g_t _ c h
    refine lv_lload_n hx hb dX6_over_85 rfl (lv_at hl 1 rfl) ?_
    refine g_callS X hI (av := [.long x2]) (c_X6_isZero x2) gm_X6_isZero tw_4_1 tw_4_2 ⟨by decide, by decide⟩ hl.1 (rest := []) rfl (Nat.le_of_ble_eq_true rfl) dX6_over_86 ⟨by decide, by decide⟩ (st1 := [.int (f_X6_isZero x2)]) rfl (cells' := 0) (slots' := 0) rfl rfl (fun H locs hI => ?_)
    refine lv_if_eq (tgt := 101) hx hb dX6_over_89 (by decide) (fun c => ?_) (fun c => ?_)
    · have h := g_t _ c h
      refine lv_lload_n hx hb dX6_over_101 rfl (lv_at hl 1 rfl) ?_
      refine g_callS X hI (av := [.long x2]) (c_X6_isInfinite x2) gm_X6_isInfinite tw_3_229 tw_3_230 ⟨by decide, by decide⟩ hl.1 (rest := []) rfl (Nat.le_of_ble_eq_true rfl) dX6_over_102 ⟨by decide, by decide⟩ (st1 := [.int (f_X6_isInfinite x2)]) rfl (cells' := 0) (slots' := 0) rfl rfl (fun H locs hI => ?_)
      refine lv_if_ne (tgt := 115) hx hb dX6_over_105 (by decide) (fun c => ?_) (fun c => ?_)
      · have h := g_f _ c h
        exact b_X6_over_115 X hI h (lv_sub hl [3] rfl)
      · have h := g_t _ c h
        refine lv_lload_n hx hb dX6_over_108 rfl (lv_at hl 0 rfl) ?_
        refine g_callS X hI (av := [.long x0]) (c_X6_isZero x0) gm_X6_isZero tw_4_1 tw_4_2 ⟨by decide, by decide⟩ hl.1 (rest := []) rfl (Nat.le_of_ble_eq_true rfl) dX6_over_109 ⟨by decide, by decide⟩ (st1 := [.int (f_X6_isZero x0)]) rfl (cells' := 0) (slots' := 0) rfl rfl (fun H locs hI => ?_)
        refine lv_if_eq (tgt := 122) hx hb dX6_over_112 (by decide) (fun c => ?_) (fun c => ?_)
        · have h := g_t _ c h
          refine lv_lload_n hx hb dX6_over_122 rfl (lv_at hl 1 rfl) ?_
          refine g_callS X hI (av := [.long x2]) (c_X6_mantissa x2) gm_X6_mantissa tw_3_233 tw_3_234 ⟨by decide, by decide⟩ hl.1 (rest := []) rfl (Nat.le_of_ble_eq_true rfl) dX6_over_123 ⟨by decide, by decide⟩ (st1 := [.long (f_X6_mantissa x2)]) rfl (cells' := 0) (slots' := 0) rfl rfl (fun H locs hI => ?_)
          obtain ⟨v1, ev1, h⟩ := gl_s h
          refine g_topl ev1 ?_
          refine lv_lstore (lv' := [(6, .long v1), (0, .long x0), (2, .long x2), (4, .int x4), (5, .int x5)]) hx hb dX6_over_126 hl (by decide) rfl (fun ls hl => ?_)
          refine lv_lload_n hx hb dX6_over_128 rfl (lv_at hl 1 rfl) ?_
          refine g_callS X hI (av := [.long x0]) (c_X6_mantissa x0) gm_X6_mantissa tw_3_233 tw_3_234 ⟨by decide, by decide⟩ hl.1 (rest := []) rfl (Nat.le_of_ble_eq_true rfl) dX6_over_129 ⟨by decide, by decide⟩ (st1 := [.long (f_X6_mantissa x0)]) rfl (cells' := 0) (slots' := 0) rfl rfl (fun H locs hI => ?_)
          refine lv_lload hx hb dX6_over_132 (lv_at hl 0 rfl) ?_
          obtain ⟨cz, h⟩ := gneL_s h
          refine lv_ldiv hx hb dX6_over_134 cz ?_
          obtain ⟨v2, ev2, h⟩ := gl_s h
          refine g_topl ev2 ?_
          refine lv_lstore (lv' := [(8, .long v2), (6, .long v1), (0, .long x0), (2, .long x2), (4, .int x4), (5, .int x5)]) hx hb dX6_over_135 hl (by decide) rfl (fun ls hl => ?_)
          refine lv_lload_n hx hb dX6_over_137 rfl (lv_at hl 2 rfl) ?_
          refine g_callS X hI (av := [.long x0]) (c_X6_mantissa x0) gm_X6_mantissa tw_3_233 tw_3_234 ⟨by decide, by decide⟩ hl.1 (rest := []) rfl (Nat.le_of_ble_eq_true rfl) dX6_over_138 ⟨by decide, by decide⟩ (st1 := [.long (f_X6_mantissa x0)]) rfl (cells' := 0) (slots' := 0) rfl rfl (fun H locs hI => ?_)
          refine lv_lload hx hb dX6_over_141 (lv_at hl 1 rfl) ?_
          obtain ⟨cz, h⟩ := gneL_s h
          refine lv_lrem hx hb dX6_over_143 cz ?_
          obtain ⟨v3, ev3, h⟩ := gl_s h
          refine g_topl ev3 ?_
          refine lv_lstore (lv' := [(10, .long v3), (8, .long v2), (6, .long v1), (0, .long x0), (2, .long x2), (4, .int x4), (5, .int x5)]) hx hb dX6_over_144 hl (by decide) rfl (fun ls hl => ?_)
          refine lv_lload_n hx hb dX6_over_146 rfl (lv_at hl 3 rfl) ?_
          refine g_callS X hI (av := [.long x0]) (c_X6_exponent x0) gm_X6_exponent tw_3_238 tw_3_239 ⟨by decide, by decide⟩ hl.1 (rest := []) rfl (Nat.le_of_ble_eq_true rfl) dX6_over_147 ⟨by decide, by decide⟩ (st1 := [.int (f_X6_exponent x0)]) rfl (cells' := 0) (slots' := 0) rfl rfl (fun H locs hI => ?_)
          refine lv_lload_n hx hb dX6_over_150 rfl (lv_at hl 4 rfl) ?_
          refine g_callS X hI (av := [.long x2]) (c_X6_exponent x2) gm_X6_exponent tw_3_238 tw_3_239 ⟨by decide, by decide⟩ hl.1 (rest := [.int (f_X6_exponent x0)]) rfl (Nat.le_of_ble_eq_true rfl) dX6_over_151 ⟨by decide, by decide⟩ (st1 := [.int (f_X6_exponent x2), .int (f_X6_exponent x0)]) rfl (cells' := 0) (slots' := 0) rfl rfl (fun H locs hI => ?_)
          refine lv_isub (x := (f_X6_exponent x0)) (y := (f_X6_exponent x2)) hx hb dX6_over_154 ?_
          obtain ⟨v4, ev4, h⟩ := gl_s h
          refine g_topi ev4 ?_
          refine lv_istore (lv' := [(12, .int v4), (10, .long v3), (8, .long v2), (6, .long v1), (0, .long x0), (2, .long x2), (4, .int x4), (5, .int x5)]) hx hb dX6_over_155 hl (by decide) rfl (fun ls hl => ?_)
          exact b_X6_over_157 X 5000 hI h (lv_sub hl [6, 7, 3, 2, 1, 0] rfl)
        · have h := g_f _ c h
          exact b_X6_over_115 X hI h (lv_sub hl [3] rfl)
    · have h := g_f _ c h
      exact b_X6_over_92 X hI h (lv_sub hl [3] rfl)
def f_X6_over_60 (x0 : Int64) (x2 : Int64) (x4 : Int32) (x5 : Int32) : Option Int64 :=
  if (f_X6_isZero x0) = 0 then
    f_X6_over_78 x0 x2 x4 x5
  else
  if (f_X6_isZero x2) = 0 then
    f_X6_over_78 x0 x2 x4 x5
  else
  some 9221120237041090560
set_option maxHeartbeats 4000000 in
set_option maxRecDepth 100000 in
theorem b_X6_over_60 {p : Program} {l : Launch} {e : Env} {s : State} {m : MethodId} {args : Array Value} {below : List Frame} {meth : Method} {c : Code} {E : gE} {G0 : gG} {n0 : Nat} (X : g_X E G0 n0 p s m args meth c cX6_over 13 RX6 "over" (some .long)) {G : gG} {n : Nat} {r : Int64} {H : Heap} {locs : List Loc} (hI : g_I E (g_A G0 n0) G n s.heap H locs) {x0 : Int64} {x2 : Int64} {x4 : Int32} {x5 : Int32} (h : f_X6_over_60 x0 x2 x4 x5 = some r) {ls : Array Slot} (hl : lv_has ls 13 [(0, .long x0), (2, .long x2), (4, .int x4), (5, .int x5)]) : W p l e rm_X6_over s m args below meth c H locs 0 0 (MQ below (g_Q E G0 n0 (some (.long r)) G n) args s rm_X6_over.cells rm_X6_over.slots (g_A G0 n0)) (F0 m 60 ls []) := by
  have hx := X.1
  have hb := X.2.1
  unfold f_X6_over_60 at h
  refine lv_lload_n hx hb dX6_over_60 rfl (lv_at hl 0 rfl) ?_
  refine g_callS X hI (av := [.long x0]) (c_X6_isZero x0) gm_X6_isZero tw_4_1 tw_4_2 ⟨by decide, by decide⟩ hl.1 (rest := []) rfl (Nat.le_of_ble_eq_true rfl) dX6_over_61 ⟨by decide, by decide⟩ (st1 := [.int (f_X6_isZero x0)]) rfl (cells' := 0) (slots' := 0) rfl rfl (fun H locs hI => ?_)
  refine lv_if_eq (tgt := 78) hx hb dX6_over_64 (by decide) (fun c => ?_) (fun c => ?_)
  · have h := g_t _ c h
    exact b_X6_over_78 X hI h (lv_sub hl [0, 1, 2, 3] rfl)
  · have h := g_f _ c h
    refine lv_lload_n hx hb dX6_over_67 rfl (lv_at hl 1 rfl) ?_
    refine g_callS X hI (av := [.long x2]) (c_X6_isZero x2) gm_X6_isZero tw_4_1 tw_4_2 ⟨by decide, by decide⟩ hl.1 (rest := []) rfl (Nat.le_of_ble_eq_true rfl) dX6_over_68 ⟨by decide, by decide⟩ (st1 := [.int (f_X6_isZero x2)]) rfl (cells' := 0) (slots' := 0) rfl rfl (fun H locs hI => ?_)
    refine lv_if_eq (tgt := 78) hx hb dX6_over_71 (by decide) (fun c => ?_) (fun c => ?_)
    · have h := g_t _ c h
      exact b_X6_over_78 X hI h (lv_sub hl [0, 1, 2, 3] rfl)
    · have h := g_f _ c h
      refine lv_ldc2 (v := 9221120237041090560) hx hb X.2.2.2.1 (X.2.2.2.2.1 _ tw_3_142) dX6_over_74 ?_
      have h := Option.some.inj h
      subst h
      exact g_lret X hI dX6_over_77
def f_X6_over_30 (x0 : Int64) (x2 : Int64) (x4 : Int32) (s0 : Int32) : Option Int64 :=
  if (f_X6_isNan x0) = 0 then
    if (f_X6_isNan x2) = 0 then
      if (f_X6_isInfinite x0) = 0 then
        f_X6_over_60 x0 x2 x4 s0
      else
      if (f_X6_isInfinite x2) = 0 then
        f_X6_over_60 x0 x2 x4 s0
      else
      some 9221120237041090560
    else
    some 9221120237041090560
  else
  some 9221120237041090560
set_option maxHeartbeats 4000000 in
set_option maxRecDepth 100000 in
theorem b_X6_over_30 {p : Program} {l : Launch} {e : Env} {s : State} {m : MethodId} {args : Array Value} {below : List Frame} {meth : Method} {c : Code} {E : gE} {G0 : gG} {n0 : Nat} (X : g_X E G0 n0 p s m args meth c cX6_over 13 RX6 "over" (some .long)) {G : gG} {n : Nat} {r : Int64} {H : Heap} {locs : List Loc} (hI : g_I E (g_A G0 n0) G n s.heap H locs) {x0 : Int64} {x2 : Int64} {x4 : Int32} {s0 : Int32} (h : f_X6_over_30 x0 x2 x4 s0 = some r) {ls : Array Slot} (hl : lv_has ls 13 [(0, .long x0), (2, .long x2), (4, .int x4)]) : W p l e rm_X6_over s m args below meth c H locs 0 0 (MQ below (g_Q E G0 n0 (some (.long r)) G n) args s rm_X6_over.cells rm_X6_over.slots (g_A G0 n0)) (F0 m 30 ls [.int s0]) := by
  have hx := X.1
  have hb := X.2.1
  unfold f_X6_over_30 at h
  refine lv_istore (lv' := [(5, .int s0), (0, .long x0), (2, .long x2), (4, .int x4)]) hx hb dX6_over_30 hl (by decide) rfl (fun ls hl => ?_)
  refine lv_lload_n hx hb dX6_over_32 rfl (lv_at hl 1 rfl) ?_
  refine g_callS X hI (av := [.long x0]) (c_X6_isNan x0) gm_X6_isNan tw_3_137 tw_3_138 ⟨by decide, by decide⟩ hl.1 (rest := []) rfl (Nat.le_of_ble_eq_true rfl) dX6_over_33 ⟨by decide, by decide⟩ (st1 := [.int (f_X6_isNan x0)]) rfl (cells' := 0) (slots' := 0) rfl rfl (fun H locs hI => ?_)
  refine lv_if_ne (tgt := 74) hx hb dX6_over_36 (by decide) (fun c => ?_) (fun c => ?_)
  · have h := g_f _ c h
    refine lv_ldc2 (v := 9221120237041090560) hx hb X.2.2.2.1 (X.2.2.2.2.1 _ tw_3_142) dX6_over_74 ?_
    have h := Option.some.inj h
    subst h
    exact g_lret X hI dX6_over_77
  · have h := g_t _ c h
    refine lv_lload_n hx hb dX6_over_39 rfl (lv_at hl 2 rfl) ?_
    refine g_callS X hI (av := [.long x2]) (c_X6_isNan x2) gm_X6_isNan tw_3_137 tw_3_138 ⟨by decide, by decide⟩ hl.1 (rest := []) rfl (Nat.le_of_ble_eq_true rfl) dX6_over_40 ⟨by decide, by decide⟩ (st1 := [.int (f_X6_isNan x2)]) rfl (cells' := 0) (slots' := 0) rfl rfl (fun H locs hI => ?_)
    refine lv_if_ne (tgt := 74) hx hb dX6_over_43 (by decide) (fun c => ?_) (fun c => ?_)
    · have h := g_f _ c h
      refine lv_ldc2 (v := 9221120237041090560) hx hb X.2.2.2.1 (X.2.2.2.2.1 _ tw_3_142) dX6_over_74 ?_
      have h := Option.some.inj h
      subst h
      exact g_lret X hI dX6_over_77
    · have h := g_t _ c h
      refine lv_lload_n hx hb dX6_over_46 rfl (lv_at hl 1 rfl) ?_
      refine g_callS X hI (av := [.long x0]) (c_X6_isInfinite x0) gm_X6_isInfinite tw_3_229 tw_3_230 ⟨by decide, by decide⟩ hl.1 (rest := []) rfl (Nat.le_of_ble_eq_true rfl) dX6_over_47 ⟨by decide, by decide⟩ (st1 := [.int (f_X6_isInfinite x0)]) rfl (cells' := 0) (slots' := 0) rfl rfl (fun H locs hI => ?_)
      refine lv_if_eq (tgt := 60) hx hb dX6_over_50 (by decide) (fun c => ?_) (fun c => ?_)
      · have h := g_t _ c h
        exact b_X6_over_60 X hI h (lv_sub hl [1, 2, 3, 0] rfl)
      · have h := g_f _ c h
        refine lv_lload_n hx hb dX6_over_53 rfl (lv_at hl 2 rfl) ?_
        refine g_callS X hI (av := [.long x2]) (c_X6_isInfinite x2) gm_X6_isInfinite tw_3_229 tw_3_230 ⟨by decide, by decide⟩ hl.1 (rest := []) rfl (Nat.le_of_ble_eq_true rfl) dX6_over_54 ⟨by decide, by decide⟩ (st1 := [.int (f_X6_isInfinite x2)]) rfl (cells' := 0) (slots' := 0) rfl rfl (fun H locs hI => ?_)
        refine lv_if_ne (tgt := 74) hx hb dX6_over_57 (by decide) (fun c => ?_) (fun c => ?_)
        · have h := g_f _ c h
          refine lv_ldc2 (v := 9221120237041090560) hx hb X.2.2.2.1 (X.2.2.2.2.1 _ tw_3_142) dX6_over_74 ?_
          have h := Option.some.inj h
          subst h
          exact g_lret X hI dX6_over_77
        · have h := g_t _ c h
          exact b_X6_over_60 X hI h (lv_sub hl [1, 2, 3, 0] rfl)
def f_X6_over_22 (x0 : Int64) (x2 : Int64) (x4 : Int32) (s0 : Int32) (s1 : Int32) : Option Int64 :=
  if s1 = s0 then
    f_X6_over_30 x0 x2 x4 0
  else
  f_X6_over_30 x0 x2 x4 1
set_option maxHeartbeats 4000000 in
set_option maxRecDepth 100000 in
theorem b_X6_over_22 {p : Program} {l : Launch} {e : Env} {s : State} {m : MethodId} {args : Array Value} {below : List Frame} {meth : Method} {c : Code} {E : gE} {G0 : gG} {n0 : Nat} (X : g_X E G0 n0 p s m args meth c cX6_over 13 RX6 "over" (some .long)) {G : gG} {n : Nat} {r : Int64} {H : Heap} {locs : List Loc} (hI : g_I E (g_A G0 n0) G n s.heap H locs) {x0 : Int64} {x2 : Int64} {x4 : Int32} {s0 : Int32} {s1 : Int32} (h : f_X6_over_22 x0 x2 x4 s0 s1 = some r) {ls : Array Slot} (hl : lv_has ls 13 [(0, .long x0), (2, .long x2), (4, .int x4)]) : W p l e rm_X6_over s m args below meth c H locs 0 0 (MQ below (g_Q E G0 n0 (some (.long r)) G n) args s rm_X6_over.cells rm_X6_over.slots (g_A G0 n0)) (F0 m 22 ls [.int s0, .int s1]) := by
  have hx := X.1
  have hb := X.2.1
  unfold f_X6_over_22 at h
  refine lv_icmp_eq (tgt := 29) hx hb dX6_over_22 (by decide) (fun c => ?_) (fun c => ?_)
  · have h := g_t _ c h
    refine lv_iconst (v := 0) hx hb dX6_over_29 (by decide) ?_
    exact b_X6_over_30 X hI h (lv_sub hl [0, 1, 2] rfl)
  · have h := g_f _ c h
    refine lv_iconst (v := 1) hx hb dX6_over_25 (by decide) ?_
    refine lv_goto (tgt := 30) hx hb dX6_over_26 (by decide) ?_
    exact b_X6_over_30 X hI h (lv_sub hl [0, 1, 2] rfl)
def f_X6_over_11 (x0 : Int64) (x2 : Int64) (x4 : Int32) (s0 : Int32) : Option Int64 :=
  if (0 : Int64) ≤ x2 then
    f_X6_over_22 x0 x2 x4 0 s0
  else
  f_X6_over_22 x0 x2 x4 1 s0
set_option maxHeartbeats 4000000 in
set_option maxRecDepth 100000 in
theorem b_X6_over_11 {p : Program} {l : Launch} {e : Env} {s : State} {m : MethodId} {args : Array Value} {below : List Frame} {meth : Method} {c : Code} {E : gE} {G0 : gG} {n0 : Nat} (X : g_X E G0 n0 p s m args meth c cX6_over 13 RX6 "over" (some .long)) {G : gG} {n : Nat} {r : Int64} {H : Heap} {locs : List Loc} (hI : g_I E (g_A G0 n0) G n s.heap H locs) {x0 : Int64} {x2 : Int64} {x4 : Int32} {s0 : Int32} (h : f_X6_over_11 x0 x2 x4 s0 = some r) {ls : Array Slot} (hl : lv_has ls 13 [(0, .long x0), (2, .long x2), (4, .int x4)]) : W p l e rm_X6_over s m args below meth c H locs 0 0 (MQ below (g_Q E G0 n0 (some (.long r)) G n) args s rm_X6_over.cells rm_X6_over.slots (g_A G0 n0)) (F0 m 11 ls [.int s0]) := by
  have hx := X.1
  have hb := X.2.1
  unfold f_X6_over_11 at h
  refine lv_lload_n hx hb dX6_over_11 rfl (lv_at hl 1 rfl) ?_
  refine lv_lconst (v := 0) hx hb dX6_over_12 (by decide) ?_
  refine W.lcmp hx hb dX6_over_13 ?_
  refine lv_if_ge (tgt := 21) hx hb dX6_over_14 (by decide) (fun c => ?_) (fun c => ?_)
  · have h := g_t _ ((lg_cmp_ge _ _).mp c) h
    refine lv_iconst (v := 0) hx hb dX6_over_21 (by decide) ?_
    exact b_X6_over_22 X hI h (lv_sub hl [0, 1, 2] rfl)
  · have h := g_f _ (fun q => c ((lg_cmp_ge _ _).mpr q)) h
    refine lv_iconst (v := 1) hx hb dX6_over_17 (by decide) ?_
    refine lv_goto (tgt := 22) hx hb dX6_over_18 (by decide) ?_
    exact b_X6_over_22 X hI h (lv_sub hl [0, 1, 2] rfl)
def f_X6_over (a0 : Int64) (a2 : Int64) (a4 : Int32) : Option Int64 :=
  if (0 : Int64) ≤ a0 then
    f_X6_over_11 a0 a2 a4 0
  else
  f_X6_over_11 a0 a2 a4 1
theorem gm_X6_over : g_M yX6_over cX6_over 13 (some .long) 3 := ⟨tw_4_39, tw_1_5, by decide +kernel, Or.inl (by decide +kernel)⟩
set_option maxHeartbeats 4000000 in
set_option maxRecDepth 100000 in
theorem c_X6_over {l : Launch} {E : gE} {G : gG} {n : Nat} {a0 : Int64} {a2 : Int64} {a4 : Int32} {r : Int64} (h : f_X6_over a0 a2 a4 = some r) : g_Met l yX6_over cX6_over 13 (some .long) rm_X6_over E G n [.long a0, .long a2, .int a4] (some (.long r)) G n := by
  refine g_ofW gm_X6_over (Nat.le_of_ble_eq_true rfl) ?_
  intro p e s m below meth c ls X hl hI
  have hx := X.1
  have hb := X.2.1
  have X : g_X E G n p s m _ meth c cX6_over 13 RX6 "over" (some .long) := X
  have hl : lv_has ls 13 [(0, .long a0), (2, .long a2), (4, .int a4)] := hl
  unfold f_X6_over at h
  refine lv_lload_n hx hb dX6_over_0 rfl (lv_at hl 0 rfl) ?_
  refine lv_lconst (v := 0) hx hb dX6_over_1 (by decide) ?_
  refine W.lcmp hx hb dX6_over_2 ?_
  refine lv_if_ge (tgt := 10) hx hb dX6_over_3 (by decide) (fun c => ?_) (fun c => ?_)
  · have h := g_t _ ((lg_cmp_ge _ _).mp c) h
    refine lv_iconst (v := 0) hx hb dX6_over_10 (by decide) ?_
    exact b_X6_over_11 X hI h (lv_sub hl [0, 1, 2] rfl)
  · have h := g_f _ (fun q => c ((lg_cmp_ge _ _).mpr q)) h
    refine lv_iconst (v := 1) hx hb dX6_over_6 (by decide) ?_
    refine lv_goto (tgt := 11) hx hb dX6_over_7 (by decide) ?_
    exact b_X6_over_11 X hI h (lv_sub hl [0, 1, 2] rfl)
abbrev rm_X6_left : Room := { frames := 2, cells := 0, slots := 0, locals := 51 }
def f_X6_left_164 (x2 : Int64) (x9 : Int64) (s0 : Int32) : Option Int64 :=
  gb (f_X6_pack s0 x9 (f_X6_exponent x2)) fun r1 =>
  some r1
set_option maxHeartbeats 4000000 in
set_option maxRecDepth 100000 in
theorem b_X6_left_164 {p : Program} {l : Launch} {e : Env} {s : State} {m : MethodId} {args : Array Value} {below : List Frame} {meth : Method} {c : Code} {E : gE} {G0 : gG} {n0 : Nat} (X : g_X E G0 n0 p s m args meth c cX6_left 12 RX6 "left" (some .long)) {G : gG} {n : Nat} {r : Int64} {H : Heap} {locs : List Loc} (hI : g_I E (g_A G0 n0) G n s.heap H locs) {x2 : Int64} {x9 : Int64} {s0 : Int32} (h : f_X6_left_164 x2 x9 s0 = some r) {ls : Array Slot} (hl : lv_has ls 12 [(2, .long x2), (9, .long x9)]) : W p l e rm_X6_left s m args below meth c H locs 0 0 (MQ below (g_Q E G0 n0 (some (.long r)) G n) args s rm_X6_left.cells rm_X6_left.slots (g_A G0 n0)) (F0 m 164 ls [.int s0]) := by
  have hx := X.1
  have hb := X.2.1
  unfold f_X6_left_164 at h
  refine lv_lload hx hb dX6_left_164 (lv_at hl 1 rfl) ?_
  refine lv_lload_n hx hb dX6_left_166 rfl (lv_at hl 0 rfl) ?_
  refine g_callS X hI (av := [.long x2]) (c_X6_exponent x2) gm_X6_exponent tw_3_238 tw_3_239 ⟨by decide, by decide⟩ hl.1 (rest := [.long x9, .int s0]) rfl (Nat.le_of_ble_eq_true rfl) dX6_left_167 ⟨by decide, by decide⟩ (st1 := [.int (f_X6_exponent x2), .long x9, .int s0]) rfl (cells' := 0) (slots' := 0) rfl rfl (fun H locs hI => ?_)
  obtain ⟨r1, er1, h⟩ := gb_s h
  refine g_callS X hI (av := [.int s0, .long x9, .int (f_X6_exponent x2)]) (c_X6_pack er1) gm_X6_pack tw_3_220 tw_3_221 ⟨by decide, by decide⟩ hl.1 (rest := []) rfl (Nat.le_of_ble_eq_true rfl) dX6_left_170 ⟨by decide, by decide⟩ (st1 := [.long r1]) rfl (cells' := 0) (slots' := 0) rfl rfl (fun H locs hI => ?_)
  have h := Option.some.inj h
  subst h
  exact g_lret X hI dX6_left_173
def f_X6_left_129 : Nat → Int64 → Int64 → Int64 → Int32 → Int64 → Int32 → Option Int64
  | 0, _, _, _, _, _, _ => none
  | fu + 1, x0, x2, x6, x8, x9, x11 =>
    if x8 ≤ x11 then
      if (0 : Int64) ≤ x0 then
        f_X6_left_164 x2 x9 0
      else
      f_X6_left_164 x2 x9 1
    else
    gneL x6 <|
    gl ((g_lrem (x9 * 2) x6) : Int64) fun v1 =>
    gl (x11 + 1 : Int32) fun v2 =>
    f_X6_left_129 fu x0 x2 x6 x8 v1 v2
set_option maxHeartbeats 4000000 in
set_option maxRecDepth 100000 in
theorem b_X6_left_129 {p : Program} {l : Launch} {e : Env} {s : State} {m : MethodId} {args : Array Value} {below : List Frame} {meth : Method} {c : Code} {E : gE} {G0 : gG} {n0 : Nat} (X : g_X E G0 n0 p s m args meth c cX6_left 12 RX6 "left" (some .long)) {G : gG} {n : Nat} {r : Int64} (fu : Nat) : ∀ {H : Heap} {locs : List Loc} (_ : g_I E (g_A G0 n0) G n s.heap H locs) {x0 : Int64} {x2 : Int64} {x6 : Int64} {x8 : Int32} {x9 : Int64} {x11 : Int32} (_ : f_X6_left_129 fu x0 x2 x6 x8 x9 x11 = some r) {ls : Array Slot} (_ : lv_has ls 12 [(0, .long x0), (2, .long x2), (6, .long x6), (8, .int x8), (9, .long x9), (11, .int x11)]), W p l e rm_X6_left s m args below meth c H locs 0 0 (MQ below (g_Q E G0 n0 (some (.long r)) G n) args s rm_X6_left.cells rm_X6_left.slots (g_A G0 n0)) (F0 m 129 ls []) := by
  have hx := X.1
  have hb := X.2.1
  induction fu with
  | zero =>
    intro H locs hI x0 x2 x6 x8 x9 x11 h ls hl
    rw [f_X6_left_129] at h
    cases h
  | succ fu ih =>
    intro H locs hI x0 x2 x6 x8 x9 x11 h ls hl
    rw [f_X6_left_129] at h
    refine lv_iload hx hb dX6_left_129 (lv_at hl 5 rfl) ?_
    refine lv_iload hx hb dX6_left_131 (lv_at hl 3 rfl) ?_
    refine lv_icmp_ge (tgt := 153) hx hb dX6_left_133 (by decide) (fun c => ?_) (fun c => ?_)
    · have h := g_t _ c h
      refine lv_lload_n hx hb dX6_left_153 rfl (lv_at hl 0 rfl) ?_
      refine lv_lconst (v := 0) hx hb dX6_left_154 (by decide) ?_
      refine W.lcmp hx hb dX6_left_155 ?_
      refine lv_if_ge (tgt := 163) hx hb dX6_left_156 (by decide) (fun c => ?_) (fun c => ?_)
      · have h := g_t _ ((lg_cmp_ge _ _).mp c) h
        refine lv_iconst (v := 0) hx hb dX6_left_163 (by decide) ?_
        exact b_X6_left_164 X hI h (lv_sub hl [1, 4] rfl)
      · have h := g_f _ (fun q => c ((lg_cmp_ge _ _).mpr q)) h
        refine lv_iconst (v := 1) hx hb dX6_left_159 (by decide) ?_
        refine lv_goto (tgt := 164) hx hb dX6_left_160 (by decide) ?_
        exact b_X6_left_164 X hI h (lv_sub hl [1, 4] rfl)
    · have h := g_f _ c h
      refine lv_lload hx hb dX6_left_136 (lv_at hl 4 rfl) ?_
      refine lv_ldc2 (v := 2) hx hb X.2.2.2.1 (X.2.2.2.2.1 _ tw_4_46) dX6_left_138 ?_
      refine lv_lmul (x := x9) (y := 2) hx hb dX6_left_141 ?_
      refine lv_lload hx hb dX6_left_142 (lv_at hl 2 rfl) ?_
      obtain ⟨cz, h⟩ := gneL_s h
      refine lv_lrem hx hb dX6_left_144 cz ?_
      obtain ⟨v1, ev1, h⟩ := gl_s h
      refine g_topl ev1 ?_
      refine lv_lstore (lv' := [(9, .long v1), (0, .long x0), (2, .long x2), (6, .long x6), (8, .int x8), (11, .int x11)]) hx hb dX6_left_145 hl (by decide) rfl (fun ls hl => ?_)
      obtain ⟨v2, ev2, h⟩ := gl_s h
      refine lv_iinc (v := v2) (lv' := [(11, .int v2), (9, .long v1), (0, .long x0), (2, .long x2), (6, .long x6), (8, .int x8)]) hx hb dX6_left_147 hl (k := 5) rfl (by rw [← ev2]; rfl) (by decide) rfl (fun ls hl => ?_)
      refine lv_goto (tgt := 129) hx hb dX6_left_150 (by decide) ?_
      exact ih hI h (lv_sub hl [2, 3, 4, 5, 1, 0] rfl)
def f_X6_left_102 (x0 : Int64) (x4 : Int64) (x6 : Int64) (x8 : Int32) (s0 : Int32) : Option Int64 :=
  gneL (g_lshl x6 (-x8)) <|
  gb (f_X6_pack s0 (g_lrem x4 (g_lshl x6 (-x8))) (f_X6_exponent x0)) fun r1 =>
  some r1
set_option maxHeartbeats 4000000 in
set_option maxRecDepth 100000 in
theorem b_X6_left_102 {p : Program} {l : Launch} {e : Env} {s : State} {m : MethodId} {args : Array Value} {below : List Frame} {meth : Method} {c : Code} {E : gE} {G0 : gG} {n0 : Nat} (X : g_X E G0 n0 p s m args meth c cX6_left 12 RX6 "left" (some .long)) {G : gG} {n : Nat} {r : Int64} {H : Heap} {locs : List Loc} (hI : g_I E (g_A G0 n0) G n s.heap H locs) {x0 : Int64} {x4 : Int64} {x6 : Int64} {x8 : Int32} {s0 : Int32} (h : f_X6_left_102 x0 x4 x6 x8 s0 = some r) {ls : Array Slot} (hl : lv_has ls 12 [(0, .long x0), (4, .long x4), (6, .long x6), (8, .int x8)]) : W p l e rm_X6_left s m args below meth c H locs 0 0 (MQ below (g_Q E G0 n0 (some (.long r)) G n) args s rm_X6_left.cells rm_X6_left.slots (g_A G0 n0)) (F0 m 102 ls [.int s0]) := by
  have hx := X.1
  have hb := X.2.1
  unfold f_X6_left_102 at h
  refine lv_lload hx hb dX6_left_102 (lv_at hl 1 rfl) ?_
  refine lv_lload hx hb dX6_left_104 (lv_at hl 2 rfl) ?_
  refine lv_iload hx hb dX6_left_106 (lv_at hl 3 rfl) ?_
  refine lv_ineg hx hb dX6_left_108 ?_
  refine lv_lshl (v := (g_lshl x6 (-x8))) hx hb dX6_left_109 rfl ?_
  obtain ⟨cz, h⟩ := gneL_s h
  refine lv_lrem hx hb dX6_left_110 cz ?_
  refine lv_lload_n hx hb dX6_left_111 rfl (lv_at hl 0 rfl) ?_
  refine g_callS X hI (av := [.long x0]) (c_X6_exponent x0) gm_X6_exponent tw_3_238 tw_3_239 ⟨by decide, by decide⟩ hl.1 (rest := [.long (g_lrem x4 (g_lshl x6 (-x8))), .int s0]) rfl (Nat.le_of_ble_eq_true rfl) dX6_left_112 ⟨by decide, by decide⟩ (st1 := [.int (f_X6_exponent x0), .long (g_lrem x4 (g_lshl x6 (-x8))), .int s0]) rfl (cells' := 0) (slots' := 0) rfl rfl (fun H locs hI => ?_)
  obtain ⟨r1, er1, h⟩ := gb_s h
  refine g_callS X hI (av := [.int s0, .long (g_lrem x4 (g_lshl x6 (-x8))), .int (f_X6_exponent x0)]) (c_X6_pack er1) gm_X6_pack tw_3_220 tw_3_221 ⟨by decide, by decide⟩ hl.1 (rest := []) rfl (Nat.le_of_ble_eq_true rfl) dX6_left_115 ⟨by decide, by decide⟩ (st1 := [.long r1]) rfl (cells' := 0) (slots' := 0) rfl rfl (fun H locs hI => ?_)
  have h := Option.some.inj h
  subst h
  exact g_lret X hI dX6_left_118
def f_X6_left (a0 : Int64) (a2 : Int64) : Option Int64 :=
  if (f_X6_isNan a0) = 0 then
    if (f_X6_isNan a2) = 0 then
      if (f_X6_isInfinite a0) = 0 then
        if (f_X6_isZero a2) = 0 then
          if (f_X6_isInfinite a2) = 0 then
            if (f_X6_isZero a0) = 0 then
              gl ((f_X6_mantissa a0) : Int64) fun v1 =>
              gl ((f_X6_mantissa a2) : Int64) fun v2 =>
              gl (((f_X6_exponent a0) - (f_X6_exponent a2)) : Int32) fun v3 =>
              if (0 : Int32) ≤ v3 then
                gneL v2 <|
                gl ((g_lrem v1 v2) : Int64) fun v4 =>
                f_X6_left_129 5000 a0 a2 v2 v3 v4 0
              else
              gb (f_X6_length v2) fun r5 =>
              if (r5 - v3) ≤ 62 then
                if (0 : Int64) ≤ a0 then
                  f_X6_left_102 a0 v1 v2 v3 0
                else
                f_X6_left_102 a0 v1 v2 v3 1
              else
              some a0
            else
            some a0
          else
          some a0
        else
        some 9221120237041090560
      else
      some 9221120237041090560
    else
    some 9221120237041090560
  else
  some 9221120237041090560
theorem gm_X6_left : g_M yX6_left cX6_left 12 (some .long) 2 := ⟨tw_4_45, tw_1_5, by decide +kernel, Or.inl (by decide +kernel)⟩
set_option maxHeartbeats 4000000 in
set_option maxRecDepth 100000 in
theorem c_X6_left {l : Launch} {E : gE} {G : gG} {n : Nat} {a0 : Int64} {a2 : Int64} {r : Int64} (h : f_X6_left a0 a2 = some r) : g_Met l yX6_left cX6_left 12 (some .long) rm_X6_left E G n [.long a0, .long a2] (some (.long r)) G n := by
  refine g_ofW gm_X6_left (Nat.le_of_ble_eq_true rfl) ?_
  intro p e s m below meth c ls X hl hI
  have hx := X.1
  have hb := X.2.1
  have X : g_X E G n p s m _ meth c cX6_left 12 RX6 "left" (some .long) := X
  have hl : lv_has ls 12 [(0, .long a0), (2, .long a2)] := hl
  unfold f_X6_left at h
  refine lv_lload_n hx hb dX6_left_0 rfl (lv_at hl 0 rfl) ?_
  refine g_callS X hI (av := [.long a0]) (c_X6_isNan a0) gm_X6_isNan tw_3_137 tw_3_138 ⟨by decide, by decide⟩ hl.1 (rest := []) rfl (Nat.le_of_ble_eq_true rfl) dX6_left_1 ⟨by decide, by decide⟩ (st1 := [.int (f_X6_isNan a0)]) rfl (cells' := 0) (slots' := 0) rfl rfl (fun H locs hI => ?_)
  refine lv_if_ne (tgt := 28) hx hb dX6_left_4 (by decide) (fun c => ?_) (fun c => ?_)
  · have h := g_f _ c h
    refine lv_ldc2 (v := 9221120237041090560) hx hb X.2.2.2.1 (X.2.2.2.2.1 _ tw_3_142) dX6_left_28 ?_
    have h := Option.some.inj h
    subst h
    exact g_lret X hI dX6_left_31
  · have h := g_t _ c h
    refine lv_lload_n hx hb dX6_left_7 rfl (lv_at hl 1 rfl) ?_
    refine g_callS X hI (av := [.long a2]) (c_X6_isNan a2) gm_X6_isNan tw_3_137 tw_3_138 ⟨by decide, by decide⟩ hl.1 (rest := []) rfl (Nat.le_of_ble_eq_true rfl) dX6_left_8 ⟨by decide, by decide⟩ (st1 := [.int (f_X6_isNan a2)]) rfl (cells' := 0) (slots' := 0) rfl rfl (fun H locs hI => ?_)
    refine lv_if_ne (tgt := 28) hx hb dX6_left_11 (by decide) (fun c => ?_) (fun c => ?_)
    · have h := g_f _ c h
      refine lv_ldc2 (v := 9221120237041090560) hx hb X.2.2.2.1 (X.2.2.2.2.1 _ tw_3_142) dX6_left_28 ?_
      have h := Option.some.inj h
      subst h
      exact g_lret X hI dX6_left_31
    · have h := g_t _ c h
      refine lv_lload_n hx hb dX6_left_14 rfl (lv_at hl 0 rfl) ?_
      refine g_callS X hI (av := [.long a0]) (c_X6_isInfinite a0) gm_X6_isInfinite tw_3_229 tw_3_230 ⟨by decide, by decide⟩ hl.1 (rest := []) rfl (Nat.le_of_ble_eq_true rfl) dX6_left_15 ⟨by decide, by decide⟩ (st1 := [.int (f_X6_isInfinite a0)]) rfl (cells' := 0) (slots' := 0) rfl rfl (fun H locs hI => ?_)
      refine lv_if_ne (tgt := 28) hx hb dX6_left_18 (by decide) (fun c => ?_) (fun c => ?_)
      · have h := g_f _ c h
        refine lv_ldc2 (v := 9221120237041090560) hx hb X.2.2.2.1 (X.2.2.2.2.1 _ tw_3_142) dX6_left_28 ?_
        have h := Option.some.inj h
        subst h
        exact g_lret X hI dX6_left_31
      · have h := g_t _ c h
        refine lv_lload_n hx hb dX6_left_21 rfl (lv_at hl 1 rfl) ?_
        refine g_callS X hI (av := [.long a2]) (c_X6_isZero a2) gm_X6_isZero tw_4_1 tw_4_2 ⟨by decide, by decide⟩ hl.1 (rest := []) rfl (Nat.le_of_ble_eq_true rfl) dX6_left_22 ⟨by decide, by decide⟩ (st1 := [.int (f_X6_isZero a2)]) rfl (cells' := 0) (slots' := 0) rfl rfl (fun H locs hI => ?_)
        refine lv_if_eq (tgt := 32) hx hb dX6_left_25 (by decide) (fun c => ?_) (fun c => ?_)
        · have h := g_t _ c h
          refine lv_lload_n hx hb dX6_left_32 rfl (lv_at hl 1 rfl) ?_
          refine g_callS X hI (av := [.long a2]) (c_X6_isInfinite a2) gm_X6_isInfinite tw_3_229 tw_3_230 ⟨by decide, by decide⟩ hl.1 (rest := []) rfl (Nat.le_of_ble_eq_true rfl) dX6_left_33 ⟨by decide, by decide⟩ (st1 := [.int (f_X6_isInfinite a2)]) rfl (cells' := 0) (slots' := 0) rfl rfl (fun H locs hI => ?_)
          refine lv_if_ne (tgt := 46) hx hb dX6_left_36 (by decide) (fun c => ?_) (fun c => ?_)
          · have h := g_f _ c h
            refine lv_lload_n hx hb dX6_left_46 rfl (lv_at hl 0 rfl) ?_
            have h := Option.some.inj h
            subst h
            exact g_lret X hI dX6_left_47
          · have h := g_t _ c h
            refine lv_lload_n hx hb dX6_left_39 rfl (lv_at hl 0 rfl) ?_
            refine g_callS X hI (av := [.long a0]) (c_X6_isZero a0) gm_X6_isZero tw_4_1 tw_4_2 ⟨by decide, by decide⟩ hl.1 (rest := []) rfl (Nat.le_of_ble_eq_true rfl) dX6_left_40 ⟨by decide, by decide⟩ (st1 := [.int (f_X6_isZero a0)]) rfl (cells' := 0) (slots' := 0) rfl rfl (fun H locs hI => ?_)
            refine lv_if_eq (tgt := 48) hx hb dX6_left_43 (by decide) (fun c => ?_) (fun c => ?_)
            · have h := g_t _ c h
              refine lv_lload_n hx hb dX6_left_48 rfl (lv_at hl 0 rfl) ?_
              refine g_callS X hI (av := [.long a0]) (c_X6_mantissa a0) gm_X6_mantissa tw_3_233 tw_3_234 ⟨by decide, by decide⟩ hl.1 (rest := []) rfl (Nat.le_of_ble_eq_true rfl) dX6_left_49 ⟨by decide, by decide⟩ (st1 := [.long (f_X6_mantissa a0)]) rfl (cells' := 0) (slots' := 0) rfl rfl (fun H locs hI => ?_)
              obtain ⟨v1, ev1, h⟩ := gl_s h
              refine g_topl ev1 ?_
              refine lv_lstore (lv' := [(4, .long v1), (0, .long a0), (2, .long a2)]) hx hb dX6_left_52 hl (by decide) rfl (fun ls hl => ?_)
              refine lv_lload_n hx hb dX6_left_54 rfl (lv_at hl 2 rfl) ?_
              refine g_callS X hI (av := [.long a2]) (c_X6_mantissa a2) gm_X6_mantissa tw_3_233 tw_3_234 ⟨by decide, by decide⟩ hl.1 (rest := []) rfl (Nat.le_of_ble_eq_true rfl) dX6_left_55 ⟨by decide, by decide⟩ (st1 := [.long (f_X6_mantissa a2)]) rfl (cells' := 0) (slots' := 0) rfl rfl (fun H locs hI => ?_)
              obtain ⟨v2, ev2, h⟩ := gl_s h
              refine g_topl ev2 ?_
              refine lv_lstore (lv' := [(6, .long v2), (4, .long v1), (0, .long a0), (2, .long a2)]) hx hb dX6_left_58 hl (by decide) rfl (fun ls hl => ?_)
              refine lv_lload_n hx hb dX6_left_60 rfl (lv_at hl 2 rfl) ?_
              refine g_callS X hI (av := [.long a0]) (c_X6_exponent a0) gm_X6_exponent tw_3_238 tw_3_239 ⟨by decide, by decide⟩ hl.1 (rest := []) rfl (Nat.le_of_ble_eq_true rfl) dX6_left_61 ⟨by decide, by decide⟩ (st1 := [.int (f_X6_exponent a0)]) rfl (cells' := 0) (slots' := 0) rfl rfl (fun H locs hI => ?_)
              refine lv_lload_n hx hb dX6_left_64 rfl (lv_at hl 3 rfl) ?_
              refine g_callS X hI (av := [.long a2]) (c_X6_exponent a2) gm_X6_exponent tw_3_238 tw_3_239 ⟨by decide, by decide⟩ hl.1 (rest := [.int (f_X6_exponent a0)]) rfl (Nat.le_of_ble_eq_true rfl) dX6_left_65 ⟨by decide, by decide⟩ (st1 := [.int (f_X6_exponent a2), .int (f_X6_exponent a0)]) rfl (cells' := 0) (slots' := 0) rfl rfl (fun H locs hI => ?_)
              refine lv_isub (x := (f_X6_exponent a0)) (y := (f_X6_exponent a2)) hx hb dX6_left_68 ?_
              obtain ⟨v3, ev3, h⟩ := gl_s h
              refine g_topi ev3 ?_
              refine lv_istore (lv' := [(8, .int v3), (6, .long v2), (4, .long v1), (0, .long a0), (2, .long a2)]) hx hb dX6_left_69 hl (by decide) rfl (fun ls hl => ?_)
              refine lv_iload hx hb dX6_left_71 (lv_at hl 0 rfl) ?_
              refine lv_if_ge (tgt := 119) hx hb dX6_left_73 (by decide) (fun c => ?_) (fun c => ?_)
              · have h := g_t _ c h
                refine lv_lload hx hb dX6_left_119 (lv_at hl 2 rfl) ?_
                refine lv_lload hx hb dX6_left_121 (lv_at hl 1 rfl) ?_
                obtain ⟨cz, h⟩ := gneL_s h
                refine lv_lrem hx hb dX6_left_123 cz ?_
                obtain ⟨v4, ev4, h⟩ := gl_s h
                refine g_topl ev4 ?_
                refine lv_lstore (lv' := [(9, .long v4), (8, .int v3), (6, .long v2), (4, .long v1), (0, .long a0), (2, .long a2)]) hx hb dX6_left_124 hl (by decide) rfl (fun ls hl => ?_)
                refine lv_iconst (v := 0) hx hb dX6_left_126 (by decide) ?_
                refine lv_istore (lv' := [(11, .int 0), (9, .long v4), (8, .int v3), (6, .long v2), (4, .long v1), (0, .long a0), (2, .long a2)]) hx hb dX6_left_127 hl (by decide) rfl (fun ls hl => ?_)
                exact b_X6_left_129 X 5000 hI h (lv_sub hl [5, 6, 3, 2, 1, 0] rfl)
              · have h := g_f _ c h
                refine lv_lload hx hb dX6_left_76 (lv_at hl 1 rfl) ?_
                obtain ⟨r5, er5, h⟩ := gb_s h
                refine g_callS X hI (av := [.long v2]) (c_X6_length er5) gm_X6_length tw_3_201 tw_3_202 ⟨by decide, by decide⟩ hl.1 (rest := []) rfl (Nat.le_of_ble_eq_true rfl) dX6_left_78 ⟨by decide, by decide⟩ (st1 := [.int r5]) rfl (cells' := 0) (slots' := 0) rfl rfl (fun H locs hI => ?_)
                refine lv_iload hx hb dX6_left_81 (lv_at hl 0 rfl) ?_
                refine lv_isub (x := r5) (y := v3) hx hb dX6_left_83 ?_
                refine lv_bipush (v := 62) hx hb dX6_left_84 (by decide) ?_
                refine lv_icmp_le (tgt := 91) hx hb dX6_left_86 (by decide) (fun c => ?_) (fun c => ?_)
                · have h := g_t _ c h
                  refine lv_lload_n hx hb dX6_left_91 rfl (lv_at hl 3 rfl) ?_
                  refine lv_lconst (v := 0) hx hb dX6_left_92 (by decide) ?_
                  refine W.lcmp hx hb dX6_left_93 ?_
                  refine lv_if_ge (tgt := 101) hx hb dX6_left_94 (by decide) (fun c => ?_) (fun c => ?_)
                  · have h := g_t _ ((lg_cmp_ge _ _).mp c) h
                    refine lv_iconst (v := 0) hx hb dX6_left_101 (by decide) ?_
                    exact b_X6_left_102 X hI h (lv_sub hl [3, 2, 1, 0] rfl)
                  · have h := g_f _ (fun q => c ((lg_cmp_ge _ _).mpr q)) h
                    refine lv_iconst (v := 1) hx hb dX6_left_97 (by decide) ?_
                    refine lv_goto (tgt := 102) hx hb dX6_left_98 (by decide) ?_
                    exact b_X6_left_102 X hI h (lv_sub hl [3, 2, 1, 0] rfl)
                · have h := g_f _ c h
                  refine lv_lload_n hx hb dX6_left_89 rfl (lv_at hl 3 rfl) ?_
                  have h := Option.some.inj h
                  subst h
                  exact g_lret X hI dX6_left_90
            · have h := g_f _ c h
              refine lv_lload_n hx hb dX6_left_46 rfl (lv_at hl 0 rfl) ?_
              have h := Option.some.inj h
              subst h
              exact g_lret X hI dX6_left_47
        · have h := g_f _ c h
          refine lv_ldc2 (v := 9221120237041090560) hx hb X.2.2.2.1 (X.2.2.2.2.1 _ tw_3_142) dX6_left_28 ?_
          have h := Option.some.inj h
          subst h
          exact g_lret X hI dX6_left_31
abbrev rm_X6_cut : Room := { frames := 2, cells := 0, slots := 0, locals := 51 }
def f_X6_cut_218 (s0 : Int64) (s1 : Int32) : Option Int64 :=
  gb (f_X6_pack s1 s0 (0 : Int32)) fun r1 =>
  some r1
set_option maxHeartbeats 4000000 in
set_option maxRecDepth 100000 in
theorem b_X6_cut_218 {p : Program} {l : Launch} {e : Env} {s : State} {m : MethodId} {args : Array Value} {below : List Frame} {meth : Method} {c : Code} {E : gE} {G0 : gG} {n0 : Nat} (X : g_X E G0 n0 p s m args meth c cX6_cut 13 RX6 "cut" (some .long)) {G : gG} {n : Nat} {r : Int64} {H : Heap} {locs : List Loc} (hI : g_I E (g_A G0 n0) G n s.heap H locs) {s0 : Int64} {s1 : Int32} (h : f_X6_cut_218 s0 s1 = some r) {ls : Array Slot} (hl : lv_has ls 13 []) : W p l e rm_X6_cut s m args below meth c H locs 0 0 (MQ below (g_Q E G0 n0 (some (.long r)) G n) args s rm_X6_cut.cells rm_X6_cut.slots (g_A G0 n0)) (F0 m 218 ls [.long s0, .int s1]) := by
  have hx := X.1
  have hb := X.2.1
  unfold f_X6_cut_218 at h
  refine lv_iconst (v := 0) hx hb dX6_cut_218 (by decide) ?_
  obtain ⟨r1, er1, h⟩ := gb_s h
  refine g_callS X hI (av := [.int s1, .long s0, .int 0]) (c_X6_pack er1) gm_X6_pack tw_3_220 tw_3_221 ⟨by decide, by decide⟩ hl.1 (rest := []) rfl (Nat.le_of_ble_eq_true rfl) dX6_cut_219 ⟨by decide, by decide⟩ (st1 := [.long r1]) rfl (cells' := 0) (slots' := 0) rfl rfl (fun H locs hI => ?_)
  have h := Option.some.inj h
  subst h
  exact g_lret X hI dX6_cut_222
def f_X6_cut_204 (x6 : Int64) (x10 : Int32) (s0 : Int32) : Option Int64 :=
  if x10 = 0 then
    f_X6_cut_218 x6 s0
  else
  f_X6_cut_218 (x6 + 1) s0
set_option maxHeartbeats 4000000 in
set_option maxRecDepth 100000 in
theorem b_X6_cut_204 {p : Program} {l : Launch} {e : Env} {s : State} {m : MethodId} {args : Array Value} {below : List Frame} {meth : Method} {c : Code} {E : gE} {G0 : gG} {n0 : Nat} (X : g_X E G0 n0 p s m args meth c cX6_cut 13 RX6 "cut" (some .long)) {G : gG} {n : Nat} {r : Int64} {H : Heap} {locs : List Loc} (hI : g_I E (g_A G0 n0) G n s.heap H locs) {x6 : Int64} {x10 : Int32} {s0 : Int32} (h : f_X6_cut_204 x6 x10 s0 = some r) {ls : Array Slot} (hl : lv_has ls 13 [(6, .long x6), (10, .int x10)]) : W p l e rm_X6_cut s m args below meth c H locs 0 0 (MQ below (g_Q E G0 n0 (some (.long r)) G n) args s rm_X6_cut.cells rm_X6_cut.slots (g_A G0 n0)) (F0 m 204 ls [.int s0]) := by
  have hx := X.1
  have hb := X.2.1
  unfold f_X6_cut_204 at h
  refine lv_iload hx hb dX6_cut_204 (lv_at hl 1 rfl) ?_
  refine lv_if_eq (tgt := 216) hx hb dX6_cut_206 (by decide) (fun c => ?_) (fun c => ?_)
  · have h := g_t _ c h
    refine lv_lload hx hb dX6_cut_216 (lv_at hl 0 rfl) ?_
    exact b_X6_cut_218 X hI h (lv_sub hl [] rfl)
  · have h := g_f _ c h
    refine lv_lload hx hb dX6_cut_209 (lv_at hl 0 rfl) ?_
    refine lv_lconst (v := 1) hx hb dX6_cut_211 (by decide) ?_
    refine lv_ladd (x := x6) (y := 1) hx hb dX6_cut_212 ?_
    refine lv_goto (tgt := 218) hx hb dX6_cut_213 (by decide) ?_
    exact b_X6_cut_218 X hI h (lv_sub hl [] rfl)
def f_X6_cut_193 (x0 : Int64) (x6 : Int64) (x10 : Int32) : Option Int64 :=
  if (0 : Int64) ≤ x0 then
    f_X6_cut_204 x6 x10 0
  else
  f_X6_cut_204 x6 x10 1
set_option maxHeartbeats 4000000 in
set_option maxRecDepth 100000 in
theorem b_X6_cut_193 {p : Program} {l : Launch} {e : Env} {s : State} {m : MethodId} {args : Array Value} {below : List Frame} {meth : Method} {c : Code} {E : gE} {G0 : gG} {n0 : Nat} (X : g_X E G0 n0 p s m args meth c cX6_cut 13 RX6 "cut" (some .long)) {G : gG} {n : Nat} {r : Int64} {H : Heap} {locs : List Loc} (hI : g_I E (g_A G0 n0) G n s.heap H locs) {x0 : Int64} {x6 : Int64} {x10 : Int32} (h : f_X6_cut_193 x0 x6 x10 = some r) {ls : Array Slot} (hl : lv_has ls 13 [(0, .long x0), (6, .long x6), (10, .int x10)]) : W p l e rm_X6_cut s m args below meth c H locs 0 0 (MQ below (g_Q E G0 n0 (some (.long r)) G n) args s rm_X6_cut.cells rm_X6_cut.slots (g_A G0 n0)) (F0 m 193 ls []) := by
  have hx := X.1
  have hb := X.2.1
  unfold f_X6_cut_193 at h
  refine lv_lload_n hx hb dX6_cut_193 rfl (lv_at hl 0 rfl) ?_
  refine lv_lconst (v := 0) hx hb dX6_cut_194 (by decide) ?_
  refine W.lcmp hx hb dX6_cut_195 ?_
  refine lv_if_ge (tgt := 203) hx hb dX6_cut_196 (by decide) (fun c => ?_) (fun c => ?_)
  · have h := g_t _ ((lg_cmp_ge _ _).mp c) h
    refine lv_iconst (v := 0) hx hb dX6_cut_203 (by decide) ?_
    exact b_X6_cut_204 X hI h (lv_sub hl [1, 2] rfl)
  · have h := g_f _ (fun q => c ((lg_cmp_ge _ _).mpr q)) h
    refine lv_iconst (v := 1) hx hb dX6_cut_199 (by decide) ?_
    refine lv_goto (tgt := 204) hx hb dX6_cut_200 (by decide) ?_
    exact b_X6_cut_204 X hI h (lv_sub hl [1, 2] rfl)
def f_X6_cut_191 (x0 : Int64) (x6 : Int64) (s0 : Int32) : Option Int64 :=
  f_X6_cut_193 x0 x6 s0
set_option maxHeartbeats 4000000 in
set_option maxRecDepth 100000 in
theorem b_X6_cut_191 {p : Program} {l : Launch} {e : Env} {s : State} {m : MethodId} {args : Array Value} {below : List Frame} {meth : Method} {c : Code} {E : gE} {G0 : gG} {n0 : Nat} (X : g_X E G0 n0 p s m args meth c cX6_cut 13 RX6 "cut" (some .long)) {G : gG} {n : Nat} {r : Int64} {H : Heap} {locs : List Loc} (hI : g_I E (g_A G0 n0) G n s.heap H locs) {x0 : Int64} {x6 : Int64} {s0 : Int32} (h : f_X6_cut_191 x0 x6 s0 = some r) {ls : Array Slot} (hl : lv_has ls 13 [(0, .long x0), (6, .long x6)]) : W p l e rm_X6_cut s m args below meth c H locs 0 0 (MQ below (g_Q E G0 n0 (some (.long r)) G n) args s rm_X6_cut.cells rm_X6_cut.slots (g_A G0 n0)) (F0 m 191 ls [.int s0]) := by
  have hx := X.1
  have hb := X.2.1
  unfold f_X6_cut_191 at h
  refine lv_istore (lv' := [(10, .int s0), (0, .long x0), (6, .long x6)]) hx hb dX6_cut_191 hl (by decide) rfl (fun ls hl => ?_)
  exact b_X6_cut_193 X hI h (lv_sub hl [1, 2, 0] rfl)
def f_X6_cut_190 (x0 : Int64) (x6 : Int64) : Option Int64 :=
  f_X6_cut_191 x0 x6 0
set_option maxHeartbeats 4000000 in
set_option maxRecDepth 100000 in
theorem b_X6_cut_190 {p : Program} {l : Launch} {e : Env} {s : State} {m : MethodId} {args : Array Value} {below : List Frame} {meth : Method} {c : Code} {E : gE} {G0 : gG} {n0 : Nat} (X : g_X E G0 n0 p s m args meth c cX6_cut 13 RX6 "cut" (some .long)) {G : gG} {n : Nat} {r : Int64} {H : Heap} {locs : List Loc} (hI : g_I E (g_A G0 n0) G n s.heap H locs) {x0 : Int64} {x6 : Int64} (h : f_X6_cut_190 x0 x6 = some r) {ls : Array Slot} (hl : lv_has ls 13 [(0, .long x0), (6, .long x6)]) : W p l e rm_X6_cut s m args below meth c H locs 0 0 (MQ below (g_Q E G0 n0 (some (.long r)) G n) args s rm_X6_cut.cells rm_X6_cut.slots (g_A G0 n0)) (F0 m 190 ls []) := by
  have hx := X.1
  have hb := X.2.1
  unfold f_X6_cut_190 at h
  refine lv_iconst (v := 0) hx hb dX6_cut_190 (by decide) ?_
  exact b_X6_cut_191 X hI h (lv_sub hl [0, 1] rfl)
def f_X6_cut_186 (x0 : Int64) (x6 : Int64) : Option Int64 :=
  f_X6_cut_191 x0 x6 1
set_option maxHeartbeats 4000000 in
set_option maxRecDepth 100000 in
theorem b_X6_cut_186 {p : Program} {l : Launch} {e : Env} {s : State} {m : MethodId} {args : Array Value} {below : List Frame} {meth : Method} {c : Code} {E : gE} {G0 : gG} {n0 : Nat} (X : g_X E G0 n0 p s m args meth c cX6_cut 13 RX6 "cut" (some .long)) {G : gG} {n : Nat} {r : Int64} {H : Heap} {locs : List Loc} (hI : g_I E (g_A G0 n0) G n s.heap H locs) {x0 : Int64} {x6 : Int64} (h : f_X6_cut_186 x0 x6 = some r) {ls : Array Slot} (hl : lv_has ls 13 [(0, .long x0), (6, .long x6)]) : W p l e rm_X6_cut s m args below meth c H locs 0 0 (MQ below (g_Q E G0 n0 (some (.long r)) G n) args s rm_X6_cut.cells rm_X6_cut.slots (g_A G0 n0)) (F0 m 186 ls []) := by
  have hx := X.1
  have hb := X.2.1
  unfold f_X6_cut_186 at h
  refine lv_iconst (v := 1) hx hb dX6_cut_186 (by decide) ?_
  refine lv_goto (tgt := 191) hx hb dX6_cut_187 (by decide) ?_
  exact b_X6_cut_191 X hI h (lv_sub hl [0, 1] rfl)
def f_X6_cut_136 (x0 : Int64) (x6 : Int64) (s0 : Int32) : Option Int64 :=
  f_X6_cut_193 x0 x6 s0
set_option maxHeartbeats 4000000 in
set_option maxRecDepth 100000 in
theorem b_X6_cut_136 {p : Program} {l : Launch} {e : Env} {s : State} {m : MethodId} {args : Array Value} {below : List Frame} {meth : Method} {c : Code} {E : gE} {G0 : gG} {n0 : Nat} (X : g_X E G0 n0 p s m args meth c cX6_cut 13 RX6 "cut" (some .long)) {G : gG} {n : Nat} {r : Int64} {H : Heap} {locs : List Loc} (hI : g_I E (g_A G0 n0) G n s.heap H locs) {x0 : Int64} {x6 : Int64} {s0 : Int32} (h : f_X6_cut_136 x0 x6 s0 = some r) {ls : Array Slot} (hl : lv_has ls 13 [(0, .long x0), (6, .long x6)]) : W p l e rm_X6_cut s m args below meth c H locs 0 0 (MQ below (g_Q E G0 n0 (some (.long r)) G n) args s rm_X6_cut.cells rm_X6_cut.slots (g_A G0 n0)) (F0 m 136 ls [.int s0]) := by
  have hx := X.1
  have hb := X.2.1
  unfold f_X6_cut_136 at h
  refine lv_istore (lv' := [(10, .int s0), (0, .long x0), (6, .long x6)]) hx hb dX6_cut_136 hl (by decide) rfl (fun ls hl => ?_)
  refine lv_goto (tgt := 193) hx hb dX6_cut_138 (by decide) ?_
  exact b_X6_cut_193 X hI h (lv_sub hl [1, 2, 0] rfl)
def f_X6_cut_135 (x0 : Int64) (x6 : Int64) : Option Int64 :=
  f_X6_cut_136 x0 x6 0
set_option maxHeartbeats 4000000 in
set_option maxRecDepth 100000 in
theorem b_X6_cut_135 {p : Program} {l : Launch} {e : Env} {s : State} {m : MethodId} {args : Array Value} {below : List Frame} {meth : Method} {c : Code} {E : gE} {G0 : gG} {n0 : Nat} (X : g_X E G0 n0 p s m args meth c cX6_cut 13 RX6 "cut" (some .long)) {G : gG} {n : Nat} {r : Int64} {H : Heap} {locs : List Loc} (hI : g_I E (g_A G0 n0) G n s.heap H locs) {x0 : Int64} {x6 : Int64} (h : f_X6_cut_135 x0 x6 = some r) {ls : Array Slot} (hl : lv_has ls 13 [(0, .long x0), (6, .long x6)]) : W p l e rm_X6_cut s m args below meth c H locs 0 0 (MQ below (g_Q E G0 n0 (some (.long r)) G n) args s rm_X6_cut.cells rm_X6_cut.slots (g_A G0 n0)) (F0 m 135 ls []) := by
  have hx := X.1
  have hb := X.2.1
  unfold f_X6_cut_135 at h
  refine lv_iconst (v := 0) hx hb dX6_cut_135 (by decide) ?_
  exact b_X6_cut_136 X hI h (lv_sub hl [0, 1] rfl)
def f_X6_cut_128 (x0 : Int64) (x6 : Int64) (s0 : Int32) (s1 : Int32) : Option Int64 :=
  if s1 = s0 then
    f_X6_cut_136 x0 x6 1
  else
  f_X6_cut_135 x0 x6
set_option maxHeartbeats 4000000 in
set_option maxRecDepth 100000 in
theorem b_X6_cut_128 {p : Program} {l : Launch} {e : Env} {s : State} {m : MethodId} {args : Array Value} {below : List Frame} {meth : Method} {c : Code} {E : gE} {G0 : gG} {n0 : Nat} (X : g_X E G0 n0 p s m args meth c cX6_cut 13 RX6 "cut" (some .long)) {G : gG} {n : Nat} {r : Int64} {H : Heap} {locs : List Loc} (hI : g_I E (g_A G0 n0) G n s.heap H locs) {x0 : Int64} {x6 : Int64} {s0 : Int32} {s1 : Int32} (h : f_X6_cut_128 x0 x6 s0 s1 = some r) {ls : Array Slot} (hl : lv_has ls 13 [(0, .long x0), (6, .long x6)]) : W p l e rm_X6_cut s m args below meth c H locs 0 0 (MQ below (g_Q E G0 n0 (some (.long r)) G n) args s rm_X6_cut.cells rm_X6_cut.slots (g_A G0 n0)) (F0 m 128 ls [.int s0, .int s1]) := by
  have hx := X.1
  have hb := X.2.1
  unfold f_X6_cut_128 at h
  refine lv_icmp_ne (tgt := 135) hx hb dX6_cut_128 (by decide) (fun c => ?_) (fun c => ?_)
  · have h := g_f _ c h
    exact b_X6_cut_135 X hI h (lv_sub hl [0, 1] rfl)
  · have h := g_t _ c h
    refine lv_iconst (v := 1) hx hb dX6_cut_131 (by decide) ?_
    refine lv_goto (tgt := 136) hx hb dX6_cut_132 (by decide) ?_
    exact b_X6_cut_136 X hI h (lv_sub hl [0, 1] rfl)
def f_X6_cut_119 (x0 : Int64) (x2 : Int32) (x6 : Int64) (s0 : Int32) : Option Int64 :=
  if x2 = 0 then
    f_X6_cut_128 x0 x6 1 s0
  else
  f_X6_cut_128 x0 x6 0 s0
set_option maxHeartbeats 4000000 in
set_option maxRecDepth 100000 in
theorem b_X6_cut_119 {p : Program} {l : Launch} {e : Env} {s : State} {m : MethodId} {args : Array Value} {below : List Frame} {meth : Method} {c : Code} {E : gE} {G0 : gG} {n0 : Nat} (X : g_X E G0 n0 p s m args meth c cX6_cut 13 RX6 "cut" (some .long)) {G : gG} {n : Nat} {r : Int64} {H : Heap} {locs : List Loc} (hI : g_I E (g_A G0 n0) G n s.heap H locs) {x0 : Int64} {x2 : Int32} {x6 : Int64} {s0 : Int32} (h : f_X6_cut_119 x0 x2 x6 s0 = some r) {ls : Array Slot} (hl : lv_has ls 13 [(0, .long x0), (2, .int x2), (6, .long x6)]) : W p l e rm_X6_cut s m args below meth c H locs 0 0 (MQ below (g_Q E G0 n0 (some (.long r)) G n) args s rm_X6_cut.cells rm_X6_cut.slots (g_A G0 n0)) (F0 m 119 ls [.int s0]) := by
  have hx := X.1
  have hb := X.2.1
  unfold f_X6_cut_119 at h
  refine lv_iload_n hx hb dX6_cut_119 rfl (lv_at hl 1 rfl) ?_
  refine lv_if_ne (tgt := 127) hx hb dX6_cut_120 (by decide) (fun c => ?_) (fun c => ?_)
  · have h := g_f _ c h
    refine lv_iconst (v := 0) hx hb dX6_cut_127 (by decide) ?_
    exact b_X6_cut_128 X hI h (lv_sub hl [0, 2] rfl)
  · have h := g_t _ c h
    refine lv_iconst (v := 1) hx hb dX6_cut_123 (by decide) ?_
    refine lv_goto (tgt := 128) hx hb dX6_cut_124 (by decide) ?_
    exact b_X6_cut_128 X hI h (lv_sub hl [0, 2] rfl)
def f_X6_cut_91 (x0 : Int64) (x2 : Int32) (x5 : Int32) (x6 : Int64) (s0 : Int64) : Option Int64 :=
  if (2 : Int32) ≤ x2 then
    if x2 = 2 then
      if (62 : Int32) < x5 then
        f_X6_cut_193 x0 x6 0
      else
      gl ((g_lshl 1 (x5 - 1)) : Int64) fun v1 =>
      if v1 < s0 then
        f_X6_cut_186 x0 x6
      else
      if s0 = v1 then
        if (x6 &&& 1) = 1 then
          f_X6_cut_186 x0 x6
        else
        f_X6_cut_190 x0 x6
      else
      f_X6_cut_190 x0 x6
    else
    f_X6_cut_193 x0 x6 0
  else
  if s0 = 0 then
    f_X6_cut_135 x0 x6
  else
  if (0 : Int64) ≤ x0 then
    f_X6_cut_119 x0 x2 x6 0
  else
  f_X6_cut_119 x0 x2 x6 1
set_option maxHeartbeats 4000000 in
set_option maxRecDepth 100000 in
theorem b_X6_cut_91 {p : Program} {l : Launch} {e : Env} {s : State} {m : MethodId} {args : Array Value} {below : List Frame} {meth : Method} {c : Code} {E : gE} {G0 : gG} {n0 : Nat} (X : g_X E G0 n0 p s m args meth c cX6_cut 13 RX6 "cut" (some .long)) {G : gG} {n : Nat} {r : Int64} {H : Heap} {locs : List Loc} (hI : g_I E (g_A G0 n0) G n s.heap H locs) {x0 : Int64} {x2 : Int32} {x5 : Int32} {x6 : Int64} {s0 : Int64} (h : f_X6_cut_91 x0 x2 x5 x6 s0 = some r) {ls : Array Slot} (hl : lv_has ls 13 [(0, .long x0), (2, .int x2), (5, .int x5), (6, .long x6)]) : W p l e rm_X6_cut s m args below meth c H locs 0 0 (MQ below (g_Q E G0 n0 (some (.long r)) G n) args s rm_X6_cut.cells rm_X6_cut.slots (g_A G0 n0)) (F0 m 91 ls [.long s0]) := by
  have hx := X.1
  have hb := X.2.1
  unfold f_X6_cut_91 at h
  refine lv_lstore (lv' := [(8, .long s0), (0, .long x0), (2, .int x2), (5, .int x5), (6, .long x6)]) hx hb dX6_cut_91 hl (by decide) rfl (fun ls hl => ?_)
  refine lv_iconst (v := 0) hx hb dX6_cut_93 (by decide) ?_
  refine lv_istore (lv' := [(10, .int 0), (8, .long s0), (0, .long x0), (2, .int x2), (5, .int x5), (6, .long x6)]) hx hb dX6_cut_94 hl (by decide) rfl (fun ls hl => ?_)
  refine lv_iload_n hx hb dX6_cut_96 rfl (lv_at hl 3 rfl) ?_
  refine lv_iconst (v := 2) hx hb dX6_cut_97 (by decide) ?_
  refine lv_icmp_ge (tgt := 141) hx hb dX6_cut_98 (by decide) (fun c => ?_) (fun c => ?_)
  · have h := g_t _ c h
    refine lv_iload_n hx hb dX6_cut_141 rfl (lv_at hl 3 rfl) ?_
    refine lv_iconst (v := 2) hx hb dX6_cut_142 (by decide) ?_
    refine lv_icmp_ne (tgt := 193) hx hb dX6_cut_143 (by decide) (fun c => ?_) (fun c => ?_)
    · have h := g_f _ c h
      exact b_X6_cut_193 X hI h (lv_sub hl [2, 5, 0] rfl)
    · have h := g_t _ c h
      refine lv_iload hx hb dX6_cut_146 (lv_at hl 4 rfl) ?_
      refine lv_bipush (v := 62) hx hb dX6_cut_148 (by decide) ?_
      refine lv_icmp_gt (tgt := 193) hx hb dX6_cut_150 (by decide) (fun c => ?_) (fun c => ?_)
      · have h := g_t _ c h
        exact b_X6_cut_193 X hI h (lv_sub hl [2, 5, 0] rfl)
      · have h := g_f _ c h
        refine lv_lconst (v := 1) hx hb dX6_cut_153 (by decide) ?_
        refine lv_iload hx hb dX6_cut_154 (lv_at hl 4 rfl) ?_
        refine lv_iconst (v := 1) hx hb dX6_cut_156 (by decide) ?_
        refine lv_isub (x := x5) (y := 1) hx hb dX6_cut_157 ?_
        refine lv_lshl (v := (g_lshl 1 (x5 - 1))) hx hb dX6_cut_158 rfl ?_
        obtain ⟨v1, ev1, h⟩ := gl_s h
        refine g_topl ev1 ?_
        refine lv_lstore (lv' := [(11, .long v1), (10, .int 0), (8, .long s0), (0, .long x0), (2, .int x2), (5, .int x5), (6, .long x6)]) hx hb dX6_cut_159 hl (by decide) rfl (fun ls hl => ?_)
        refine lv_lload hx hb dX6_cut_161 (lv_at hl 2 rfl) ?_
        refine lv_lload hx hb dX6_cut_163 (lv_at hl 0 rfl) ?_
        refine W.lcmp hx hb dX6_cut_165 ?_
        refine lv_if_gt (tgt := 186) hx hb dX6_cut_166 (by decide) (fun c => ?_) (fun c => ?_)
        · have h := g_t _ ((lg_cmp_gt _ _).mp c) h
          exact b_X6_cut_186 X hI h (lv_sub hl [3, 6] rfl)
        · have h := g_f _ (fun q => c ((lg_cmp_gt _ _).mpr q)) h
          refine lv_lload hx hb dX6_cut_169 (lv_at hl 2 rfl) ?_
          refine lv_lload hx hb dX6_cut_171 (lv_at hl 0 rfl) ?_
          refine W.lcmp hx hb dX6_cut_173 ?_
          refine lv_if_ne (tgt := 190) hx hb dX6_cut_174 (by decide) (fun c => ?_) (fun c => ?_)
          · have h := g_f _ ((not_congr (lg_cmp_eq _ _)).mp c) h
            exact b_X6_cut_190 X hI h (lv_sub hl [3, 6] rfl)
          · have h := g_t _ ((lg_cmp_eq _ _).mp c) h
            refine lv_lload hx hb dX6_cut_177 (lv_at hl 6 rfl) ?_
            refine lv_lconst (v := 1) hx hb dX6_cut_179 (by decide) ?_
            refine lv_land (x := x6) (y := 1) hx hb dX6_cut_180 ?_
            refine lv_lconst (v := 1) hx hb dX6_cut_181 (by decide) ?_
            refine W.lcmp hx hb dX6_cut_182 ?_
            refine lv_if_ne (tgt := 190) hx hb dX6_cut_183 (by decide) (fun c => ?_) (fun c => ?_)
            · have h := g_f _ ((not_congr (lg_cmp_eq _ _)).mp c) h
              exact b_X6_cut_190 X hI h (lv_sub hl [3, 6] rfl)
            · have h := g_t _ ((lg_cmp_eq _ _).mp c) h
              exact b_X6_cut_186 X hI h (lv_sub hl [3, 6] rfl)
  · have h := g_f _ c h
    refine lv_lload hx hb dX6_cut_101 (lv_at hl 1 rfl) ?_
    refine lv_lconst (v := 0) hx hb dX6_cut_103 (by decide) ?_
    refine W.lcmp hx hb dX6_cut_104 ?_
    refine lv_if_eq (tgt := 135) hx hb dX6_cut_105 (by decide) (fun c => ?_) (fun c => ?_)
    · have h := g_t _ ((lg_cmp_eq _ _).mp c) h
      exact b_X6_cut_135 X hI h (lv_sub hl [2, 5] rfl)
    · have h := g_f _ (fun q => c ((lg_cmp_eq _ _).mpr q)) h
      refine lv_lload_n hx hb dX6_cut_108 rfl (lv_at hl 2 rfl) ?_
      refine lv_lconst (v := 0) hx hb dX6_cut_109 (by decide) ?_
      refine W.lcmp hx hb dX6_cut_110 ?_
      refine lv_if_ge (tgt := 118) hx hb dX6_cut_111 (by decide) (fun c => ?_) (fun c => ?_)
      · have h := g_t _ ((lg_cmp_ge _ _).mp c) h
        refine lv_iconst (v := 0) hx hb dX6_cut_118 (by decide) ?_
        exact b_X6_cut_119 X hI h (lv_sub hl [2, 3, 5] rfl)
      · have h := g_f _ (fun q => c ((lg_cmp_ge _ _).mpr q)) h
        refine lv_iconst (v := 1) hx hb dX6_cut_114 (by decide) ?_
        refine lv_goto (tgt := 119) hx hb dX6_cut_115 (by decide) ?_
        exact b_X6_cut_119 X hI h (lv_sub hl [2, 3, 5] rfl)
def f_X6_cut_70 (x0 : Int64) (x2 : Int32) (x3 : Int64) (x5 : Int32) (s0 : Int64) : Option Int64 :=
  if x5 ≤ 62 then
    f_X6_cut_91 x0 x2 x5 s0 (x3 &&& ((g_lshl 1 x5) - 1))
  else
  f_X6_cut_91 x0 x2 x5 s0 x3
set_option maxHeartbeats 4000000 in
set_option maxRecDepth 100000 in
theorem b_X6_cut_70 {p : Program} {l : Launch} {e : Env} {s : State} {m : MethodId} {args : Array Value} {below : List Frame} {meth : Method} {c : Code} {E : gE} {G0 : gG} {n0 : Nat} (X : g_X E G0 n0 p s m args meth c cX6_cut 13 RX6 "cut" (some .long)) {G : gG} {n : Nat} {r : Int64} {H : Heap} {locs : List Loc} (hI : g_I E (g_A G0 n0) G n s.heap H locs) {x0 : Int64} {x2 : Int32} {x3 : Int64} {x5 : Int32} {s0 : Int64} (h : f_X6_cut_70 x0 x2 x3 x5 s0 = some r) {ls : Array Slot} (hl : lv_has ls 13 [(0, .long x0), (2, .int x2), (3, .long x3), (5, .int x5)]) : W p l e rm_X6_cut s m args below meth c H locs 0 0 (MQ below (g_Q E G0 n0 (some (.long r)) G n) args s rm_X6_cut.cells rm_X6_cut.slots (g_A G0 n0)) (F0 m 70 ls [.long s0]) := by
  have hx := X.1
  have hb := X.2.1
  unfold f_X6_cut_70 at h
  refine lv_lstore (lv' := [(6, .long s0), (0, .long x0), (2, .int x2), (3, .long x3), (5, .int x5)]) hx hb dX6_cut_70 hl (by decide) rfl (fun ls hl => ?_)
  refine lv_iload hx hb dX6_cut_72 (lv_at hl 4 rfl) ?_
  refine lv_bipush (v := 62) hx hb dX6_cut_74 (by decide) ?_
  refine lv_icmp_le (tgt := 83) hx hb dX6_cut_76 (by decide) (fun c => ?_) (fun c => ?_)
  · have h := g_t _ c h
    refine lv_lload_n hx hb dX6_cut_83 rfl (lv_at hl 3 rfl) ?_
    refine lv_lconst (v := 1) hx hb dX6_cut_84 (by decide) ?_
    refine lv_iload hx hb dX6_cut_85 (lv_at hl 4 rfl) ?_
    refine lv_lshl (v := (g_lshl 1 x5)) hx hb dX6_cut_87 rfl ?_
    refine lv_lconst (v := 1) hx hb dX6_cut_88 (by decide) ?_
    refine lv_lsub (x := (g_lshl 1 x5)) (y := 1) hx hb dX6_cut_89 ?_
    refine lv_land (x := x3) (y := ((g_lshl 1 x5) - 1)) hx hb dX6_cut_90 ?_
    exact b_X6_cut_91 X hI h (lv_sub hl [1, 2, 4, 0] rfl)
  · have h := g_f _ c h
    refine lv_lload_n hx hb dX6_cut_79 rfl (lv_at hl 3 rfl) ?_
    refine lv_goto (tgt := 91) hx hb dX6_cut_80 (by decide) ?_
    exact b_X6_cut_91 X hI h (lv_sub hl [1, 2, 4, 0] rfl)
def f_X6_cut_28 (x0 : Int64) : Option Int64 :=
  if (f_X6_isNan x0) = 0 then
    some x0
  else
  some 9221120237041090560
set_option maxHeartbeats 4000000 in
set_option maxRecDepth 100000 in
theorem b_X6_cut_28 {p : Program} {l : Launch} {e : Env} {s : State} {m : MethodId} {args : Array Value} {below : List Frame} {meth : Method} {c : Code} {E : gE} {G0 : gG} {n0 : Nat} (X : g_X E G0 n0 p s m args meth c cX6_cut 13 RX6 "cut" (some .long)) {G : gG} {n : Nat} {r : Int64} {H : Heap} {locs : List Loc} (hI : g_I E (g_A G0 n0) G n s.heap H locs) {x0 : Int64} (h : f_X6_cut_28 x0 = some r) {ls : Array Slot} (hl : lv_has ls 13 [(0, .long x0)]) : W p l e rm_X6_cut s m args below meth c H locs 0 0 (MQ below (g_Q E G0 n0 (some (.long r)) G n) args s rm_X6_cut.cells rm_X6_cut.slots (g_A G0 n0)) (F0 m 28 ls []) := by
  have hx := X.1
  have hb := X.2.1
  unfold f_X6_cut_28 at h
  refine lv_lload_n hx hb dX6_cut_28 rfl (lv_at hl 0 rfl) ?_
  refine g_callS X hI (av := [.long x0]) (c_X6_isNan x0) gm_X6_isNan tw_3_137 tw_3_138 ⟨by decide, by decide⟩ hl.1 (rest := []) rfl (Nat.le_of_ble_eq_true rfl) dX6_cut_29 ⟨by decide, by decide⟩ (st1 := [.int (f_X6_isNan x0)]) rfl (cells' := 0) (slots' := 0) rfl rfl (fun H locs hI => ?_)
  refine lv_if_eq (tgt := 41) hx hb dX6_cut_32 (by decide) (fun c => ?_) (fun c => ?_)
  · have h := g_t _ c h
    refine lv_lload_n hx hb dX6_cut_41 rfl (lv_at hl 0 rfl) ?_
    have h := Option.some.inj h
    subst h
    exact g_lret X hI dX6_cut_42
  · have h := g_f _ c h
    refine lv_ldc2 (v := 9221120237041090560) hx hb X.2.2.2.1 (X.2.2.2.2.1 _ tw_3_142) dX6_cut_35 ?_
    refine lv_goto (tgt := 42) hx hb dX6_cut_38 (by decide) ?_
    have h := Option.some.inj h
    subst h
    exact g_lret X hI dX6_cut_42
def f_X6_cut (a0 : Int64) (a2 : Int32) : Option Int64 :=
  if (f_X6_isNan a0) = 0 then
    if (f_X6_isInfinite a0) = 0 then
      if (f_X6_isZero a0) = 0 then
        if (f_X6_exponent a0) < 0 then
          gl ((f_X6_mantissa a0) : Int64) fun v1 =>
          gl ((-(f_X6_exponent a0)) : Int32) fun v2 =>
          if v2 ≤ 62 then
            f_X6_cut_70 a0 a2 v1 v2 (g_lshr v1 v2)
          else
          f_X6_cut_70 a0 a2 v1 v2 0
        else
        f_X6_cut_28 a0
      else
      f_X6_cut_28 a0
    else
    f_X6_cut_28 a0
  else
  f_X6_cut_28 a0
theorem gm_X6_cut : g_M yX6_cut cX6_cut 13 (some .long) 2 := ⟨tw_4_42, tw_1_5, by decide +kernel, Or.inl (by decide +kernel)⟩
set_option maxHeartbeats 4000000 in
set_option maxRecDepth 100000 in
theorem c_X6_cut {l : Launch} {E : gE} {G : gG} {n : Nat} {a0 : Int64} {a2 : Int32} {r : Int64} (h : f_X6_cut a0 a2 = some r) : g_Met l yX6_cut cX6_cut 13 (some .long) rm_X6_cut E G n [.long a0, .int a2] (some (.long r)) G n := by
  refine g_ofW gm_X6_cut (Nat.le_of_ble_eq_true rfl) ?_
  intro p e s m below meth c ls X hl hI
  have hx := X.1
  have hb := X.2.1
  have X : g_X E G n p s m _ meth c cX6_cut 13 RX6 "cut" (some .long) := X
  have hl : lv_has ls 13 [(0, .long a0), (2, .int a2)] := hl
  unfold f_X6_cut at h
  refine lv_lload_n hx hb dX6_cut_0 rfl (lv_at hl 0 rfl) ?_
  refine g_callS X hI (av := [.long a0]) (c_X6_isNan a0) gm_X6_isNan tw_3_137 tw_3_138 ⟨by decide, by decide⟩ hl.1 (rest := []) rfl (Nat.le_of_ble_eq_true rfl) dX6_cut_1 ⟨by decide, by decide⟩ (st1 := [.int (f_X6_isNan a0)]) rfl (cells' := 0) (slots' := 0) rfl rfl (fun H locs hI => ?_)
  refine lv_if_ne (tgt := 28) hx hb dX6_cut_4 (by decide) (fun c => ?_) (fun c => ?_)
  · have h := g_f _ c h
    exact b_X6_cut_28 X hI h (lv_sub hl [0] rfl)
  · have h := g_t _ c h
    refine lv_lload_n hx hb dX6_cut_7 rfl (lv_at hl 0 rfl) ?_
    refine g_callS X hI (av := [.long a0]) (c_X6_isInfinite a0) gm_X6_isInfinite tw_3_229 tw_3_230 ⟨by decide, by decide⟩ hl.1 (rest := []) rfl (Nat.le_of_ble_eq_true rfl) dX6_cut_8 ⟨by decide, by decide⟩ (st1 := [.int (f_X6_isInfinite a0)]) rfl (cells' := 0) (slots' := 0) rfl rfl (fun H locs hI => ?_)
    refine lv_if_ne (tgt := 28) hx hb dX6_cut_11 (by decide) (fun c => ?_) (fun c => ?_)
    · have h := g_f _ c h
      exact b_X6_cut_28 X hI h (lv_sub hl [0] rfl)
    · have h := g_t _ c h
      refine lv_lload_n hx hb dX6_cut_14 rfl (lv_at hl 0 rfl) ?_
      refine g_callS X hI (av := [.long a0]) (c_X6_isZero a0) gm_X6_isZero tw_4_1 tw_4_2 ⟨by decide, by decide⟩ hl.1 (rest := []) rfl (Nat.le_of_ble_eq_true rfl) dX6_cut_15 ⟨by decide, by decide⟩ (st1 := [.int (f_X6_isZero a0)]) rfl (cells' := 0) (slots' := 0) rfl rfl (fun H locs hI => ?_)
      refine lv_if_ne (tgt := 28) hx hb dX6_cut_18 (by decide) (fun c => ?_) (fun c => ?_)
      · have h := g_f _ c h
        exact b_X6_cut_28 X hI h (lv_sub hl [0] rfl)
      · have h := g_t _ c h
        refine lv_lload_n hx hb dX6_cut_21 rfl (lv_at hl 0 rfl) ?_
        refine g_callS X hI (av := [.long a0]) (c_X6_exponent a0) gm_X6_exponent tw_3_238 tw_3_239 ⟨by decide, by decide⟩ hl.1 (rest := []) rfl (Nat.le_of_ble_eq_true rfl) dX6_cut_22 ⟨by decide, by decide⟩ (st1 := [.int (f_X6_exponent a0)]) rfl (cells' := 0) (slots' := 0) rfl rfl (fun H locs hI => ?_)
        refine lv_if_lt (tgt := 43) hx hb dX6_cut_25 (by decide) (fun c => ?_) (fun c => ?_)
        · have h := g_t _ c h
          refine lv_lload_n hx hb dX6_cut_43 rfl (lv_at hl 0 rfl) ?_
          refine g_callS X hI (av := [.long a0]) (c_X6_mantissa a0) gm_X6_mantissa tw_3_233 tw_3_234 ⟨by decide, by decide⟩ hl.1 (rest := []) rfl (Nat.le_of_ble_eq_true rfl) dX6_cut_44 ⟨by decide, by decide⟩ (st1 := [.long (f_X6_mantissa a0)]) rfl (cells' := 0) (slots' := 0) rfl rfl (fun H locs hI => ?_)
          obtain ⟨v1, ev1, h⟩ := gl_s h
          refine g_topl ev1 ?_
          refine lv_lstore_n (lv' := [(3, .long v1), (0, .long a0), (2, .int a2)]) hx hb dX6_cut_47 rfl hl (by decide) rfl (fun ls hl => ?_)
          refine lv_lload_n hx hb dX6_cut_48 rfl (lv_at hl 1 rfl) ?_
          refine g_callS X hI (av := [.long a0]) (c_X6_exponent a0) gm_X6_exponent tw_3_238 tw_3_239 ⟨by decide, by decide⟩ hl.1 (rest := []) rfl (Nat.le_of_ble_eq_true rfl) dX6_cut_49 ⟨by decide, by decide⟩ (st1 := [.int (f_X6_exponent a0)]) rfl (cells' := 0) (slots' := 0) rfl rfl (fun H locs hI => ?_)
          refine lv_ineg hx hb dX6_cut_52 ?_
          obtain ⟨v2, ev2, h⟩ := gl_s h
          refine g_topi ev2 ?_
          refine lv_istore (lv' := [(5, .int v2), (3, .long v1), (0, .long a0), (2, .int a2)]) hx hb dX6_cut_53 hl (by decide) rfl (fun ls hl => ?_)
          refine lv_iload hx hb dX6_cut_55 (lv_at hl 0 rfl) ?_
          refine lv_bipush (v := 62) hx hb dX6_cut_57 (by decide) ?_
          refine lv_icmp_le (tgt := 66) hx hb dX6_cut_59 (by decide) (fun c => ?_) (fun c => ?_)
          · have h := g_t _ c h
            refine lv_lload_n hx hb dX6_cut_66 rfl (lv_at hl 1 rfl) ?_
            refine lv_iload hx hb dX6_cut_67 (lv_at hl 0 rfl) ?_
            refine lv_lshr (v := (g_lshr v1 v2)) hx hb dX6_cut_69 rfl ?_
            exact b_X6_cut_70 X hI h (lv_sub hl [2, 3, 1, 0] rfl)
          · have h := g_f _ c h
            refine lv_lconst (v := 0) hx hb dX6_cut_62 (by decide) ?_
            refine lv_goto (tgt := 70) hx hb dX6_cut_63 (by decide) ?_
            exact b_X6_cut_70 X hI h (lv_sub hl [2, 3, 1, 0] rfl)
        · have h := g_f _ c h
          exact b_X6_cut_28 X hI h (lv_sub hl [0] rfl)
abbrev rm_X6_rank : Room := { frames := 0, cells := 0, slots := 0, locals := 0 }
def f_X6_rank (a0 : Int64) : Int64 :=
  if (0 : Int64) ≤ a0 then
    a0
  else
  ((-1 : Int64) - (a0 &&& 9223372036854775807))
theorem gm_X6_rank : g_M yX6_rank cX6_rank 2 (some .long) 1 := ⟨tw_4_22, tw_1_5, by decide +kernel, Or.inl (by decide +kernel)⟩
set_option maxHeartbeats 4000000 in
set_option maxRecDepth 100000 in
theorem c_X6_rank {l : Launch} {E : gE} {G : gG} {n : Nat} (a0 : Int64) : g_Met l yX6_rank cX6_rank 2 (some .long) rm_X6_rank E G n [.long a0] (some (.long (f_X6_rank a0))) G n := by
  generalize h : f_X6_rank a0 = r
  refine g_ofW gm_X6_rank (Nat.le_of_ble_eq_true rfl) ?_
  intro p e s m below meth c ls X hl hI
  have hx := X.1
  have hb := X.2.1
  have X : g_X E G n p s m _ meth c cX6_rank 2 RX6 "rank" (some .long) := X
  have hl : lv_has ls 2 [(0, .long a0)] := hl
  unfold f_X6_rank at h
  refine lv_lload_n hx hb dX6_rank_0 rfl (lv_at hl 0 rfl) ?_
  refine lv_lconst (v := 0) hx hb dX6_rank_1 (by decide) ?_
  refine W.lcmp hx hb dX6_rank_2 ?_
  refine lv_if_ge (tgt := 18) hx hb dX6_rank_3 (by decide) (fun c => ?_) (fun c => ?_)
  · have h := g_t _ ((lg_cmp_ge _ _).mp c) h
    refine lv_lload_n hx hb dX6_rank_18 rfl (lv_at hl 0 rfl) ?_
    subst h
    exact g_lret X hI dX6_rank_19
  · have h := g_f _ (fun q => c ((lg_cmp_ge _ _).mpr q)) h
    refine lv_ldc2 (v := (-1)) hx hb X.2.2.2.1 (X.2.2.2.2.1 _ tw_3_147) dX6_rank_6 ?_
    refine lv_lload_n hx hb dX6_rank_9 rfl (lv_at hl 0 rfl) ?_
    refine lv_ldc2 (v := 9223372036854775807) hx hb X.2.2.2.1 (X.2.2.2.2.1 _ tw_3_140) dX6_rank_10 ?_
    refine lv_land (x := a0) (y := 9223372036854775807) hx hb dX6_rank_13 ?_
    refine lv_lsub (x := (-1)) (y := (a0 &&& 9223372036854775807)) hx hb dX6_rank_14 ?_
    refine lv_goto (tgt := 19) hx hb dX6_rank_15 (by decide) ?_
    subst h
    exact g_lret X hI dX6_rank_19
abbrev rm_X6_number : Room := { frames := 1, cells := 0, slots := 0, locals := 24 }
def f_X6_number_127 (x2 : Int64) (x4 : Int64) (s0 : Int64) : Option Int64 :=
  if x2 ≤ s0 then
    if s0 ≤ x4 then
      some s0
    else
    some x4
  else
  some x2
set_option maxHeartbeats 4000000 in
set_option maxRecDepth 100000 in
theorem b_X6_number_127 {p : Program} {l : Launch} {e : Env} {s : State} {m : MethodId} {args : Array Value} {below : List Frame} {meth : Method} {c : Code} {E : gE} {G0 : gG} {n0 : Nat} (X : g_X E G0 n0 p s m args meth c cX6_number 11 RX6 "number" (some .long)) {G : gG} {n : Nat} {r : Int64} {H : Heap} {locs : List Loc} (hI : g_I E (g_A G0 n0) G n s.heap H locs) {x2 : Int64} {x4 : Int64} {s0 : Int64} (h : f_X6_number_127 x2 x4 s0 = some r) {ls : Array Slot} (hl : lv_has ls 11 [(2, .long x2), (4, .long x4)]) : W p l e rm_X6_number s m args below meth c H locs 0 0 (MQ below (g_Q E G0 n0 (some (.long r)) G n) args s rm_X6_number.cells rm_X6_number.slots (g_A G0 n0)) (F0 m 127 ls [.long s0]) := by
  have hx := X.1
  have hb := X.2.1
  unfold f_X6_number_127 at h
  refine lv_lstore (lv' := [(9, .long s0), (2, .long x2), (4, .long x4)]) hx hb dX6_number_127 hl (by decide) rfl (fun ls hl => ?_)
  refine lv_lload hx hb dX6_number_129 (lv_at hl 0 rfl) ?_
  refine lv_lload_n hx hb dX6_number_131 rfl (lv_at hl 1 rfl) ?_
  refine W.lcmp hx hb dX6_number_132 ?_
  refine lv_if_ge (tgt := 140) hx hb dX6_number_133 (by decide) (fun c => ?_) (fun c => ?_)
  · have h := g_t _ ((lg_cmp_ge _ _).mp c) h
    refine lv_lload hx hb dX6_number_140 (lv_at hl 0 rfl) ?_
    refine lv_lload hx hb dX6_number_142 (lv_at hl 2 rfl) ?_
    refine W.lcmp hx hb dX6_number_144 ?_
    refine lv_if_le (tgt := 153) hx hb dX6_number_145 (by decide) (fun c => ?_) (fun c => ?_)
    · have h := g_t _ ((lg_cmp_le _ _).mp c) h
      refine lv_lload hx hb dX6_number_153 (lv_at hl 0 rfl) ?_
      have h := Option.some.inj h
      subst h
      exact g_lret X hI dX6_number_155
    · have h := g_f _ (fun q => c ((lg_cmp_le _ _).mpr q)) h
      refine lv_lload hx hb dX6_number_148 (lv_at hl 2 rfl) ?_
      refine lv_goto (tgt := 155) hx hb dX6_number_150 (by decide) ?_
      have h := Option.some.inj h
      subst h
      exact g_lret X hI dX6_number_155
  · have h := g_f _ (fun q => c ((lg_cmp_ge _ _).mpr q)) h
    refine lv_lload_n hx hb dX6_number_136 rfl (lv_at hl 1 rfl) ?_
    refine lv_goto (tgt := 155) hx hb dX6_number_137 (by decide) ?_
    have h := Option.some.inj h
    subst h
    exact g_lret X hI dX6_number_155
def f_X6_number_112 (x2 : Int64) (x4 : Int64) (x6 : Int32) (s0 : Int64) : Option Int64 :=
  if x6 = 0 then
    f_X6_number_127 x2 x4 s0
  else
  f_X6_number_127 x2 x4 (-s0)
set_option maxHeartbeats 4000000 in
set_option maxRecDepth 100000 in
theorem b_X6_number_112 {p : Program} {l : Launch} {e : Env} {s : State} {m : MethodId} {args : Array Value} {below : List Frame} {meth : Method} {c : Code} {E : gE} {G0 : gG} {n0 : Nat} (X : g_X E G0 n0 p s m args meth c cX6_number 11 RX6 "number" (some .long)) {G : gG} {n : Nat} {r : Int64} {H : Heap} {locs : List Loc} (hI : g_I E (g_A G0 n0) G n s.heap H locs) {x2 : Int64} {x4 : Int64} {x6 : Int32} {s0 : Int64} (h : f_X6_number_112 x2 x4 x6 s0 = some r) {ls : Array Slot} (hl : lv_has ls 11 [(2, .long x2), (4, .long x4), (6, .int x6)]) : W p l e rm_X6_number s m args below meth c H locs 0 0 (MQ below (g_Q E G0 n0 (some (.long r)) G n) args s rm_X6_number.cells rm_X6_number.slots (g_A G0 n0)) (F0 m 112 ls [.long s0]) := by
  have hx := X.1
  have hb := X.2.1
  unfold f_X6_number_112 at h
  refine lv_lstore (lv' := [(9, .long s0), (2, .long x2), (4, .long x4), (6, .int x6)]) hx hb dX6_number_112 hl (by decide) rfl (fun ls hl => ?_)
  refine lv_iload hx hb dX6_number_114 (lv_at hl 3 rfl) ?_
  refine lv_if_eq (tgt := 125) hx hb dX6_number_116 (by decide) (fun c => ?_) (fun c => ?_)
  · have h := g_t _ c h
    refine lv_lload hx hb dX6_number_125 (lv_at hl 0 rfl) ?_
    exact b_X6_number_127 X hI h (lv_sub hl [1, 2] rfl)
  · have h := g_f _ c h
    refine lv_lload hx hb dX6_number_119 (lv_at hl 0 rfl) ?_
    refine lv_lneg hx hb dX6_number_121 ?_
    refine lv_goto (tgt := 127) hx hb dX6_number_122 (by decide) ?_
    exact b_X6_number_127 X hI h (lv_sub hl [1, 2] rfl)
def f_X6_number_71 (x0 : Int64) (x2 : Int64) (x4 : Int64) (x6 : Int32) : Option Int64 :=
  gl ((f_X6_exponent x0) : Int32) fun v1 =>
  if v1 < 0 then
    if (-v1) ≤ 62 then
      f_X6_number_112 x2 x4 x6 (g_lshr (f_X6_mantissa x0) (-v1))
    else
    f_X6_number_112 x2 x4 x6 0
  else
  f_X6_number_112 x2 x4 x6 (g_lshl (f_X6_mantissa x0) v1)
set_option maxHeartbeats 4000000 in
set_option maxRecDepth 100000 in
theorem b_X6_number_71 {p : Program} {l : Launch} {e : Env} {s : State} {m : MethodId} {args : Array Value} {below : List Frame} {meth : Method} {c : Code} {E : gE} {G0 : gG} {n0 : Nat} (X : g_X E G0 n0 p s m args meth c cX6_number 11 RX6 "number" (some .long)) {G : gG} {n : Nat} {r : Int64} {H : Heap} {locs : List Loc} (hI : g_I E (g_A G0 n0) G n s.heap H locs) {x0 : Int64} {x2 : Int64} {x4 : Int64} {x6 : Int32} (h : f_X6_number_71 x0 x2 x4 x6 = some r) {ls : Array Slot} (hl : lv_has ls 11 [(0, .long x0), (2, .long x2), (4, .long x4), (6, .int x6)]) : W p l e rm_X6_number s m args below meth c H locs 0 0 (MQ below (g_Q E G0 n0 (some (.long r)) G n) args s rm_X6_number.cells rm_X6_number.slots (g_A G0 n0)) (F0 m 71 ls []) := by
  have hx := X.1
  have hb := X.2.1
  unfold f_X6_number_71 at h
  refine lv_lload_n hx hb dX6_number_71 rfl (lv_at hl 0 rfl) ?_
  refine g_callS X hI (av := [.long x0]) (c_X6_exponent x0) gm_X6_exponent tw_3_238 tw_3_239 ⟨by decide, by decide⟩ hl.1 (rest := []) rfl (Nat.le_of_ble_eq_true rfl) dX6_number_72 ⟨by decide, by decide⟩ (st1 := [.int (f_X6_exponent x0)]) rfl (cells' := 0) (slots' := 0) rfl rfl (fun H locs hI => ?_)
  obtain ⟨v1, ev1, h⟩ := gl_s h
  refine g_topi ev1 ?_
  refine lv_istore (lv' := [(8, .int v1), (0, .long x0), (2, .long x2), (4, .long x4), (6, .int x6)]) hx hb dX6_number_75 hl (by decide) rfl (fun ls hl => ?_)
  refine lv_iload hx hb dX6_number_77 (lv_at hl 0 rfl) ?_
  refine lv_if_lt (tgt := 92) hx hb dX6_number_79 (by decide) (fun c => ?_) (fun c => ?_)
  · have h := g_t _ c h
    refine lv_iload hx hb dX6_number_92 (lv_at hl 0 rfl) ?_
    refine lv_ineg hx hb dX6_number_94 ?_
    refine lv_bipush (v := 62) hx hb dX6_number_95 (by decide) ?_
    refine lv_icmp_le (tgt := 104) hx hb dX6_number_97 (by decide) (fun c => ?_) (fun c => ?_)
    · have h := g_t _ c h
      refine lv_lload_n hx hb dX6_number_104 rfl (lv_at hl 1 rfl) ?_
      refine g_callS X hI (av := [.long x0]) (c_X6_mantissa x0) gm_X6_mantissa tw_3_233 tw_3_234 ⟨by decide, by decide⟩ hl.1 (rest := []) rfl (Nat.le_of_ble_eq_true rfl) dX6_number_105 ⟨by decide, by decide⟩ (st1 := [.long (f_X6_mantissa x0)]) rfl (cells' := 0) (slots' := 0) rfl rfl (fun H locs hI => ?_)
      refine lv_iload hx hb dX6_number_108 (lv_at hl 0 rfl) ?_
      refine lv_ineg hx hb dX6_number_110 ?_
      refine lv_lshr (v := (g_lshr (f_X6_mantissa x0) (-v1))) hx hb dX6_number_111 rfl ?_
      exact b_X6_number_112 X hI h (lv_sub hl [2, 3, 4] rfl)
    · have h := g_f _ c h
      refine lv_lconst (v := 0) hx hb dX6_number_100 (by decide) ?_
      refine lv_goto (tgt := 112) hx hb dX6_number_101 (by decide) ?_
      exact b_X6_number_112 X hI h (lv_sub hl [2, 3, 4] rfl)
  · have h := g_f _ c h
    refine lv_lload_n hx hb dX6_number_82 rfl (lv_at hl 1 rfl) ?_
    refine g_callS X hI (av := [.long x0]) (c_X6_mantissa x0) gm_X6_mantissa tw_3_233 tw_3_234 ⟨by decide, by decide⟩ hl.1 (rest := []) rfl (Nat.le_of_ble_eq_true rfl) dX6_number_83 ⟨by decide, by decide⟩ (st1 := [.long (f_X6_mantissa x0)]) rfl (cells' := 0) (slots' := 0) rfl rfl (fun H locs hI => ?_)
    refine lv_iload hx hb dX6_number_86 (lv_at hl 0 rfl) ?_
    refine lv_lshl (v := (g_lshl (f_X6_mantissa x0) v1)) hx hb dX6_number_88 rfl ?_
    refine lv_goto (tgt := 112) hx hb dX6_number_89 (by decide) ?_
    exact b_X6_number_112 X hI h (lv_sub hl [2, 3, 4] rfl)
def f_X6_number_59 (x2 : Int64) (x4 : Int64) (x6 : Int32) : Option Int64 :=
  if x6 = 0 then
    some x4
  else
  some x2
set_option maxHeartbeats 4000000 in
set_option maxRecDepth 100000 in
theorem b_X6_number_59 {p : Program} {l : Launch} {e : Env} {s : State} {m : MethodId} {args : Array Value} {below : List Frame} {meth : Method} {c : Code} {E : gE} {G0 : gG} {n0 : Nat} (X : g_X E G0 n0 p s m args meth c cX6_number 11 RX6 "number" (some .long)) {G : gG} {n : Nat} {r : Int64} {H : Heap} {locs : List Loc} (hI : g_I E (g_A G0 n0) G n s.heap H locs) {x2 : Int64} {x4 : Int64} {x6 : Int32} (h : f_X6_number_59 x2 x4 x6 = some r) {ls : Array Slot} (hl : lv_has ls 11 [(2, .long x2), (4, .long x4), (6, .int x6)]) : W p l e rm_X6_number s m args below meth c H locs 0 0 (MQ below (g_Q E G0 n0 (some (.long r)) G n) args s rm_X6_number.cells rm_X6_number.slots (g_A G0 n0)) (F0 m 59 ls []) := by
  have hx := X.1
  have hb := X.2.1
  unfold f_X6_number_59 at h
  refine lv_iload hx hb dX6_number_59 (lv_at hl 2 rfl) ?_
  refine lv_if_eq (tgt := 68) hx hb dX6_number_61 (by decide) (fun c => ?_) (fun c => ?_)
  · have h := g_t _ c h
    refine lv_lload hx hb dX6_number_68 (lv_at hl 1 rfl) ?_
    have h := Option.some.inj h
    subst h
    exact g_lret X hI dX6_number_70
  · have h := g_f _ c h
    refine lv_lload_n hx hb dX6_number_64 rfl (lv_at hl 0 rfl) ?_
    refine lv_goto (tgt := 70) hx hb dX6_number_65 (by decide) ?_
    have h := Option.some.inj h
    subst h
    exact g_lret X hI dX6_number_70
def f_X6_number_20 (x0 : Int64) (x2 : Int64) (x4 : Int64) (s0 : Int32) : Option Int64 :=
  gb (f_X6_length (f_X6_mantissa x0)) fun r1 =>
  gl (((r1 + (f_X6_exponent x0)) - 1) : Int32) fun v2 =>
  if (f_X6_isInfinite x0) = 0 then
    if (f_X6_isZero x0) = 0 then
      if v2 ≤ 62 then
        f_X6_number_71 x0 x2 x4 s0
      else
      f_X6_number_59 x2 x4 s0
    else
    f_X6_number_71 x0 x2 x4 s0
  else
  f_X6_number_59 x2 x4 s0
set_option maxHeartbeats 4000000 in
set_option maxRecDepth 100000 in
theorem b_X6_number_20 {p : Program} {l : Launch} {e : Env} {s : State} {m : MethodId} {args : Array Value} {below : List Frame} {meth : Method} {c : Code} {E : gE} {G0 : gG} {n0 : Nat} (X : g_X E G0 n0 p s m args meth c cX6_number 11 RX6 "number" (some .long)) {G : gG} {n : Nat} {r : Int64} {H : Heap} {locs : List Loc} (hI : g_I E (g_A G0 n0) G n s.heap H locs) {x0 : Int64} {x2 : Int64} {x4 : Int64} {s0 : Int32} (h : f_X6_number_20 x0 x2 x4 s0 = some r) {ls : Array Slot} (hl : lv_has ls 11 [(0, .long x0), (2, .long x2), (4, .long x4)]) : W p l e rm_X6_number s m args below meth c H locs 0 0 (MQ below (g_Q E G0 n0 (some (.long r)) G n) args s rm_X6_number.cells rm_X6_number.slots (g_A G0 n0)) (F0 m 20 ls [.int s0]) := by
  have hx := X.1
  have hb := X.2.1
  unfold f_X6_number_20 at h
  refine lv_istore (lv' := [(6, .int s0), (0, .long x0), (2, .long x2), (4, .long x4)]) hx hb dX6_number_20 hl (by decide) rfl (fun ls hl => ?_)
  refine lv_lload_n hx hb dX6_number_22 rfl (lv_at hl 1 rfl) ?_
  refine g_callS X hI (av := [.long x0]) (c_X6_mantissa x0) gm_X6_mantissa tw_3_233 tw_3_234 ⟨by decide, by decide⟩ hl.1 (rest := []) rfl (Nat.le_of_ble_eq_true rfl) dX6_number_23 ⟨by decide, by decide⟩ (st1 := [.long (f_X6_mantissa x0)]) rfl (cells' := 0) (slots' := 0) rfl rfl (fun H locs hI => ?_)
  obtain ⟨r1, er1, h⟩ := gb_s h
  refine g_callS X hI (av := [.long (f_X6_mantissa x0)]) (c_X6_length er1) gm_X6_length tw_3_201 tw_3_202 ⟨by decide, by decide⟩ hl.1 (rest := []) rfl (Nat.le_of_ble_eq_true rfl) dX6_number_26 ⟨by decide, by decide⟩ (st1 := [.int r1]) rfl (cells' := 0) (slots' := 0) rfl rfl (fun H locs hI => ?_)
  refine lv_lload_n hx hb dX6_number_29 rfl (lv_at hl 1 rfl) ?_
  refine g_callS X hI (av := [.long x0]) (c_X6_exponent x0) gm_X6_exponent tw_3_238 tw_3_239 ⟨by decide, by decide⟩ hl.1 (rest := [.int r1]) rfl (Nat.le_of_ble_eq_true rfl) dX6_number_30 ⟨by decide, by decide⟩ (st1 := [.int (f_X6_exponent x0), .int r1]) rfl (cells' := 0) (slots' := 0) rfl rfl (fun H locs hI => ?_)
  refine lv_iadd (x := r1) (y := (f_X6_exponent x0)) hx hb dX6_number_33 ?_
  refine lv_iconst (v := 1) hx hb dX6_number_34 (by decide) ?_
  refine lv_isub (x := (r1 + (f_X6_exponent x0))) (y := 1) hx hb dX6_number_35 ?_
  obtain ⟨v2, ev2, h⟩ := gl_s h
  refine g_topi ev2 ?_
  refine lv_istore (lv' := [(7, .int v2), (6, .int s0), (0, .long x0), (2, .long x2), (4, .long x4)]) hx hb dX6_number_36 hl (by decide) rfl (fun ls hl => ?_)
  refine lv_lload_n hx hb dX6_number_38 rfl (lv_at hl 2 rfl) ?_
  refine g_callS X hI (av := [.long x0]) (c_X6_isInfinite x0) gm_X6_isInfinite tw_3_229 tw_3_230 ⟨by decide, by decide⟩ hl.1 (rest := []) rfl (Nat.le_of_ble_eq_true rfl) dX6_number_39 ⟨by decide, by decide⟩ (st1 := [.int (f_X6_isInfinite x0)]) rfl (cells' := 0) (slots' := 0) rfl rfl (fun H locs hI => ?_)
  refine lv_if_ne (tgt := 59) hx hb dX6_number_42 (by decide) (fun c => ?_) (fun c => ?_)
  · have h := g_f _ c h
    exact b_X6_number_59 X hI h (lv_sub hl [3, 4, 1] rfl)
  · have h := g_t _ c h
    refine lv_lload_n hx hb dX6_number_45 rfl (lv_at hl 2 rfl) ?_
    refine g_callS X hI (av := [.long x0]) (c_X6_isZero x0) gm_X6_isZero tw_4_1 tw_4_2 ⟨by decide, by decide⟩ hl.1 (rest := []) rfl (Nat.le_of_ble_eq_true rfl) dX6_number_46 ⟨by decide, by decide⟩ (st1 := [.int (f_X6_isZero x0)]) rfl (cells' := 0) (slots' := 0) rfl rfl (fun H locs hI => ?_)
    refine lv_if_ne (tgt := 71) hx hb dX6_number_49 (by decide) (fun c => ?_) (fun c => ?_)
    · have h := g_f _ c h
      exact b_X6_number_71 X hI h (lv_sub hl [2, 3, 4, 1] rfl)
    · have h := g_t _ c h
      refine lv_iload hx hb dX6_number_52 (lv_at hl 0 rfl) ?_
      refine lv_bipush (v := 62) hx hb dX6_number_54 (by decide) ?_
      refine lv_icmp_le (tgt := 71) hx hb dX6_number_56 (by decide) (fun c => ?_) (fun c => ?_)
      · have h := g_t _ c h
        exact b_X6_number_71 X hI h (lv_sub hl [2, 3, 4, 1] rfl)
      · have h := g_f _ c h
        exact b_X6_number_59 X hI h (lv_sub hl [3, 4, 1] rfl)
def f_X6_number (a0 : Int64) (a2 : Int64) (a4 : Int64) : Option Int64 :=
  if (f_X6_isNan a0) = 0 then
    if (0 : Int64) ≤ a0 then
      f_X6_number_20 a0 a2 a4 0
    else
    f_X6_number_20 a0 a2 a4 1
  else
  some 0
theorem gm_X6_number : g_M yX6_number cX6_number 11 (some .long) 3 := ⟨tw_4_12, tw_1_5, by decide +kernel, Or.inl (by decide +kernel)⟩
set_option maxHeartbeats 4000000 in
set_option maxRecDepth 100000 in
theorem c_X6_number {l : Launch} {E : gE} {G : gG} {n : Nat} {a0 : Int64} {a2 : Int64} {a4 : Int64} {r : Int64} (h : f_X6_number a0 a2 a4 = some r) : g_Met l yX6_number cX6_number 11 (some .long) rm_X6_number E G n [.long a0, .long a2, .long a4] (some (.long r)) G n := by
  refine g_ofW gm_X6_number (Nat.le_of_ble_eq_true rfl) ?_
  intro p e s m below meth c ls X hl hI
  have hx := X.1
  have hb := X.2.1
  have X : g_X E G n p s m _ meth c cX6_number 11 RX6 "number" (some .long) := X
  have hl : lv_has ls 11 [(0, .long a0), (2, .long a2), (4, .long a4)] := hl
  unfold f_X6_number at h
  refine lv_lload_n hx hb dX6_number_0 rfl (lv_at hl 0 rfl) ?_
  refine g_callS X hI (av := [.long a0]) (c_X6_isNan a0) gm_X6_isNan tw_3_137 tw_3_138 ⟨by decide, by decide⟩ hl.1 (rest := []) rfl (Nat.le_of_ble_eq_true rfl) dX6_number_1 ⟨by decide, by decide⟩ (st1 := [.int (f_X6_isNan a0)]) rfl (cells' := 0) (slots' := 0) rfl rfl (fun H locs hI => ?_)
  refine lv_if_eq (tgt := 9) hx hb dX6_number_4 (by decide) (fun c => ?_) (fun c => ?_)
  · have h := g_t _ c h
    refine lv_lload_n hx hb dX6_number_9 rfl (lv_at hl 0 rfl) ?_
    refine lv_lconst (v := 0) hx hb dX6_number_10 (by decide) ?_
    refine W.lcmp hx hb dX6_number_11 ?_
    refine lv_if_ge (tgt := 19) hx hb dX6_number_12 (by decide) (fun c => ?_) (fun c => ?_)
    · have h := g_t _ ((lg_cmp_ge _ _).mp c) h
      refine lv_iconst (v := 0) hx hb dX6_number_19 (by decide) ?_
      exact b_X6_number_20 X hI h (lv_sub hl [0, 1, 2] rfl)
    · have h := g_f _ (fun q => c ((lg_cmp_ge _ _).mpr q)) h
      refine lv_iconst (v := 1) hx hb dX6_number_15 (by decide) ?_
      refine lv_goto (tgt := 20) hx hb dX6_number_16 (by decide) ?_
      exact b_X6_number_20 X hI h (lv_sub hl [0, 1, 2] rfl)
  · have h := g_f _ c h
    refine lv_lconst (v := 0) hx hb dX6_number_7 (by decide) ?_
    have h := Option.some.inj h
    subst h
    exact g_lret X hI dX6_number_8
abbrev rm_X6_kept : Room := { frames := 1, cells := 0, slots := 0, locals := 21 }
def f_X6_kept (a0 : Int64) (a2 : Int32) : Int64 :=
  if a2 = 0 then
    (a0 &&& 1)
  else
  if a2 = 1 then
    (Int32.toInt64 (Int8.toInt32 (Int32.toInt8 (Int64.toInt32 a0))))
  else
  if a2 = 2 then
    (Int32.toInt64 (Int64.toInt32 a0))
  else
  if a2 = 3 then
    a0
  else
  if a2 = 4 then
    gl ((Int64.toInt32 a0) : Int32) fun v1 =>
    if (v1 &&& 2147483647) ≤ 2139095040 then
      (Int32.toInt64 v1)
    else
    2143289344
  else
  if (f_X6_isNan a0) = 0 then
    a0
  else
  9221120237041090560
theorem gm_X6_kept : g_M yX6_kept cX6_kept 4 (some .long) 2 := ⟨tw_3_133, tw_1_5, by decide +kernel, Or.inl (by decide +kernel)⟩
set_option maxHeartbeats 4000000 in
set_option maxRecDepth 100000 in
theorem c_X6_kept {l : Launch} {E : gE} {G : gG} {n : Nat} (a0 : Int64) (a2 : Int32) : g_Met l yX6_kept cX6_kept 4 (some .long) rm_X6_kept E G n [.long a0, .int a2] (some (.long (f_X6_kept a0 a2))) G n := by
  generalize h : f_X6_kept a0 a2 = r
  refine g_ofW gm_X6_kept (Nat.le_of_ble_eq_true rfl) ?_
  intro p e s m below meth c ls X hl hI
  have hx := X.1
  have hb := X.2.1
  have X : g_X E G n p s m _ meth c cX6_kept 4 RX6 "kept" (some .long) := X
  have hl : lv_has ls 4 [(0, .long a0), (2, .int a2)] := hl
  unfold f_X6_kept at h
  refine lv_iload_n hx hb dX6_kept_0 rfl (lv_at hl 1 rfl) ?_
  by_cases c0 : a2 = 0
  · have h := g_t _ c0 h
    refine lv_tableIn (off := 35) (tgt := 36) hx hb dX6_kept_1 (by rw [c0]; decide) (by rw [c0]; decide) (by rw [c0]; rfl) (by decide) ?_
    refine lv_lload_n hx hb dX6_kept_36 rfl (lv_at hl 0 rfl) ?_
    refine lv_lconst (v := 1) hx hb dX6_kept_37 (by decide) ?_
    refine lv_land (x := a0) (y := 1) hx hb dX6_kept_38 ?_
    subst h
    exact g_lret X hI dX6_kept_39
  · have h := g_f _ c0 h
    by_cases c1 : a2 = 1
    · have h := g_t _ c1 h
      refine lv_tableIn (off := 39) (tgt := 40) hx hb dX6_kept_1 (by rw [c1]; decide) (by rw [c1]; decide) (by rw [c1]; rfl) (by decide) ?_
      refine lv_lload_n hx hb dX6_kept_40 rfl (lv_at hl 0 rfl) ?_
      refine lv_l2i (v := (Int64.toInt32 a0)) hx hb dX6_kept_41 rfl ?_
      refine lv_i2b (v := (Int8.toInt32 (Int32.toInt8 (Int64.toInt32 a0)))) hx hb dX6_kept_42 rfl ?_
      refine lv_i2l (v := (Int32.toInt64 (Int8.toInt32 (Int32.toInt8 (Int64.toInt32 a0))))) hx hb dX6_kept_43 rfl ?_
      subst h
      exact g_lret X hI dX6_kept_44
    · have h := g_f _ c1 h
      by_cases c2 : a2 = 2
      · have h := g_t _ c2 h
        refine lv_tableIn (off := 44) (tgt := 45) hx hb dX6_kept_1 (by rw [c2]; decide) (by rw [c2]; decide) (by rw [c2]; rfl) (by decide) ?_
        refine lv_lload_n hx hb dX6_kept_45 rfl (lv_at hl 0 rfl) ?_
        refine lv_l2i (v := (Int64.toInt32 a0)) hx hb dX6_kept_46 rfl ?_
        refine lv_i2l (v := (Int32.toInt64 (Int64.toInt32 a0))) hx hb dX6_kept_47 rfl ?_
        subst h
        exact g_lret X hI dX6_kept_48
      · have h := g_f _ c2 h
        by_cases c3 : a2 = 3
        · have h := g_t _ c3 h
          refine lv_tableIn (off := 48) (tgt := 49) hx hb dX6_kept_1 (by rw [c3]; decide) (by rw [c3]; decide) (by rw [c3]; rfl) (by decide) ?_
          refine lv_lload_n hx hb dX6_kept_49 rfl (lv_at hl 0 rfl) ?_
          subst h
          exact g_lret X hI dX6_kept_50
        · have h := g_f _ c3 h
          by_cases c4 : a2 = 4
          · have h := g_t _ c4 h
            refine lv_tableIn (off := 50) (tgt := 51) hx hb dX6_kept_1 (by rw [c4]; decide) (by rw [c4]; decide) (by rw [c4]; rfl) (by decide) ?_
            refine lv_lload_n hx hb dX6_kept_51 rfl (lv_at hl 0 rfl) ?_
            refine lv_l2i (v := (Int64.toInt32 a0)) hx hb dX6_kept_52 rfl ?_
            obtain ⟨v1, ev1, h⟩ := gl_s h
            refine g_topi ev1 ?_
            refine lv_istore_n (lv' := [(3, .int v1), (0, .long a0), (2, .int a2)]) hx hb dX6_kept_53 rfl hl (by decide) rfl (fun ls hl => ?_)
            refine lv_iload_n hx hb dX6_kept_54 rfl (lv_at hl 0 rfl) ?_
            refine lv_ldc (v := 2147483647) hx hb X.2.2.2.1 (X.2.2.2.2.1 _ tw_3_134) dX6_kept_55 ?_
            refine lv_iand (x := v1) (y := 2147483647) hx hb dX6_kept_57 ?_
            refine lv_ldc (v := 2139095040) hx hb X.2.2.2.1 (X.2.2.2.2.1 _ tw_3_135) dX6_kept_58 ?_
            refine lv_icmp_le (tgt := 69) hx hb dX6_kept_60 (by decide) (fun c => ?_) (fun c => ?_)
            · have h := g_t _ c h
              refine lv_iload_n hx hb dX6_kept_69 rfl (lv_at hl 0 rfl) ?_
              refine lv_i2l (v := (Int32.toInt64 v1)) hx hb dX6_kept_70 rfl ?_
              subst h
              exact g_lret X hI dX6_kept_71
            · have h := g_f _ c h
              refine lv_ldc2 (v := 2143289344) hx hb X.2.2.2.1 (X.2.2.2.2.1 _ tw_3_136) dX6_kept_63 ?_
              refine lv_goto (tgt := 71) hx hb dX6_kept_66 (by decide) ?_
              subst h
              exact g_lret X hI dX6_kept_71
          · have h := g_f _ c4 h
            refine lv_tableOut (tgt := 72) hx hb dX6_kept_1 (by have q0 := lv_neT (a := 0) c0 (by decide); have q1 := lv_neT (a := 1) c1 (by decide); have q2 := lv_neT (a := 2) c2 (by decide); have q3 := lv_neT (a := 3) c3 (by decide); have q4 := lv_neT (a := 4) c4 (by decide); omega) (by decide) ?_
            refine lv_lload_n hx hb dX6_kept_72 rfl (lv_at hl 0 rfl) ?_
            refine g_callS X hI (av := [.long a0]) (c_X6_isNan a0) gm_X6_isNan tw_3_137 tw_3_138 ⟨by decide, by decide⟩ hl.1 (rest := []) rfl (Nat.le_of_ble_eq_true rfl) dX6_kept_73 ⟨by decide, by decide⟩ (st1 := [.int (f_X6_isNan a0)]) rfl (cells' := 0) (slots' := 0) rfl rfl (fun H locs hI => ?_)
            refine lv_if_eq (tgt := 85) hx hb dX6_kept_76 (by decide) (fun c => ?_) (fun c => ?_)
            · have h := g_t _ c h
              refine lv_lload_n hx hb dX6_kept_85 rfl (lv_at hl 0 rfl) ?_
              subst h
              exact g_lret X hI dX6_kept_86
            · have h := g_f _ c h
              refine lv_ldc2 (v := 9221120237041090560) hx hb X.2.2.2.1 (X.2.2.2.2.1 _ tw_3_142) dX6_kept_79 ?_
              refine lv_goto (tgt := 86) hx hb dX6_kept_82 (by decide) ?_
              subst h
              exact g_lret X hI dX6_kept_86
abbrev rm_X6_to : Room := { frames := 4, cells := 0, slots := 0, locals := 110 }
def f_X6_to_75 (x3 : Int32) (s0 : Int64) : Option Int64 :=
  if x3 = 0 then
    if (f_X6_isZero s0) = 0 then
      some 1
    else
    some 0
  else
  if x3 = 3 then
    gb (f_X6_number s0 (-9223372036854775808 : Int64) (9223372036854775807 : Int64)) fun r4 =>
    some r4
  else
  if (3 : Int32) ≤ x3 then
    if x3 = 4 then
      gb (f_X6_nearest s0 (4 : Int32)) fun r1 =>
      gb (f_X6_floatBits r1) fun r2 =>
      some r2
    else
    some s0
  else
  gb (f_X6_number s0 (-2147483648 : Int64) (2147483647 : Int64)) fun r3 =>
  some (f_X6_kept r3 x3)
set_option maxHeartbeats 4000000 in
set_option maxRecDepth 100000 in
theorem b_X6_to_75 {p : Program} {l : Launch} {e : Env} {s : State} {m : MethodId} {args : Array Value} {below : List Frame} {meth : Method} {c : Code} {E : gE} {G0 : gG} {n0 : Nat} (X : g_X E G0 n0 p s m args meth c cX6_to 6 RX6 "to" (some .long)) {G : gG} {n : Nat} {r : Int64} {H : Heap} {locs : List Loc} (hI : g_I E (g_A G0 n0) G n s.heap H locs) {x3 : Int32} {s0 : Int64} (h : f_X6_to_75 x3 s0 = some r) {ls : Array Slot} (hl : lv_has ls 6 [(3, .int x3)]) : W p l e rm_X6_to s m args below meth c H locs 0 0 (MQ below (g_Q E G0 n0 (some (.long r)) G n) args s rm_X6_to.cells rm_X6_to.slots (g_A G0 n0)) (F0 m 75 ls [.long s0]) := by
  have hx := X.1
  have hb := X.2.1
  unfold f_X6_to_75 at h
  refine lv_lstore (lv' := [(4, .long s0), (3, .int x3)]) hx hb dX6_to_75 hl (by decide) rfl (fun ls hl => ?_)
  refine lv_iload_n hx hb dX6_to_77 rfl (lv_at hl 1 rfl) ?_
  refine lv_if_ne (tgt := 95) hx hb dX6_to_78 (by decide) (fun c => ?_) (fun c => ?_)
  · have h := g_f _ c h
    refine lv_iload_n hx hb dX6_to_95 rfl (lv_at hl 1 rfl) ?_
    refine lv_iconst (v := 3) hx hb dX6_to_96 (by decide) ?_
    refine lv_icmp_ne (tgt := 112) hx hb dX6_to_97 (by decide) (fun c => ?_) (fun c => ?_)
    · have h := g_f _ c h
      refine lv_iload_n hx hb dX6_to_112 rfl (lv_at hl 1 rfl) ?_
      refine lv_iconst (v := 3) hx hb dX6_to_113 (by decide) ?_
      refine lv_icmp_ge (tgt := 133) hx hb dX6_to_114 (by decide) (fun c => ?_) (fun c => ?_)
      · have h := g_t _ c h
        refine lv_iload_n hx hb dX6_to_133 rfl (lv_at hl 1 rfl) ?_
        refine lv_iconst (v := 4) hx hb dX6_to_134 (by decide) ?_
        refine lv_icmp_ne (tgt := 150) hx hb dX6_to_135 (by decide) (fun c => ?_) (fun c => ?_)
        · have h := g_f _ c h
          refine lv_lload hx hb dX6_to_150 (lv_at hl 0 rfl) ?_
          have h := Option.some.inj h
          subst h
          exact g_lret X hI dX6_to_152
        · have h := g_t _ c h
          refine lv_lload hx hb dX6_to_138 (lv_at hl 0 rfl) ?_
          refine lv_iconst (v := 4) hx hb dX6_to_140 (by decide) ?_
          obtain ⟨r1, er1, h⟩ := gb_s h
          refine g_callS X hI (av := [.long s0, .int 4]) (c_X6_nearest er1) gm_X6_nearest tw_4_14 tw_4_15 ⟨by decide, by decide⟩ hl.1 (rest := []) rfl (Nat.le_of_ble_eq_true rfl) dX6_to_141 ⟨by decide, by decide⟩ (st1 := [.long r1]) rfl (cells' := 0) (slots' := 0) rfl rfl (fun H locs hI => ?_)
          obtain ⟨r2, er2, h⟩ := gb_s h
          refine g_callS X hI (av := [.long r1]) (c_X6_floatBits er2) gm_X6_floatBits tw_3_225 tw_3_226 ⟨by decide, by decide⟩ hl.1 (rest := []) rfl (Nat.le_of_ble_eq_true rfl) dX6_to_144 ⟨by decide, by decide⟩ (st1 := [.long r2]) rfl (cells' := 0) (slots' := 0) rfl rfl (fun H locs hI => ?_)
          refine lv_goto (tgt := 152) hx hb dX6_to_147 (by decide) ?_
          have h := Option.some.inj h
          subst h
          exact g_lret X hI dX6_to_152
      · have h := g_f _ c h
        refine lv_lload hx hb dX6_to_117 (lv_at hl 0 rfl) ?_
        refine lv_ldc2 (v := (-2147483648)) hx hb X.2.2.2.1 (X.2.2.2.2.1 _ tw_3_228) dX6_to_119 ?_
        refine lv_ldc2 (v := 2147483647) hx hb X.2.2.2.1 (X.2.2.2.2.1 _ tw_4_13) dX6_to_122 ?_
        obtain ⟨r3, er3, h⟩ := gb_s h
        refine g_callS X hI (av := [.long s0, .long (-2147483648), .long 2147483647]) (c_X6_number er3) gm_X6_number tw_4_10 tw_4_11 ⟨by decide, by decide⟩ hl.1 (rest := []) rfl (Nat.le_of_ble_eq_true rfl) dX6_to_125 ⟨by decide, by decide⟩ (st1 := [.long r3]) rfl (cells' := 0) (slots' := 0) rfl rfl (fun H locs hI => ?_)
        refine lv_iload_n hx hb dX6_to_128 rfl (lv_at hl 1 rfl) ?_
        refine g_callS X hI (av := [.long r3, .int x3]) (c_X6_kept r3 x3) gm_X6_kept tw_3_131 tw_3_132 ⟨by decide, by decide⟩ hl.1 (rest := []) rfl (Nat.le_of_ble_eq_true rfl) dX6_to_129 ⟨by decide, by decide⟩ (st1 := [.long (f_X6_kept r3 x3)]) rfl (cells' := 0) (slots' := 0) rfl rfl (fun H locs hI => ?_)
        have h := Option.some.inj h
        subst h
        exact g_lret X hI dX6_to_132
    · have h := g_t _ c h
      refine lv_lload hx hb dX6_to_100 (lv_at hl 0 rfl) ?_
      refine lv_ldc2 (v := (-9223372036854775808)) hx hb X.2.2.2.1 (X.2.2.2.2.1 _ tw_3_210) dX6_to_102 ?_
      refine lv_ldc2 (v := 9223372036854775807) hx hb X.2.2.2.1 (X.2.2.2.2.1 _ tw_3_140) dX6_to_105 ?_
      obtain ⟨r4, er4, h⟩ := gb_s h
      refine g_callS X hI (av := [.long s0, .long (-9223372036854775808), .long 9223372036854775807]) (c_X6_number er4) gm_X6_number tw_4_10 tw_4_11 ⟨by decide, by decide⟩ hl.1 (rest := []) rfl (Nat.le_of_ble_eq_true rfl) dX6_to_108 ⟨by decide, by decide⟩ (st1 := [.long r4]) rfl (cells' := 0) (slots' := 0) rfl rfl (fun H locs hI => ?_)
      have h := Option.some.inj h
      subst h
      exact g_lret X hI dX6_to_111
  · have h := g_t _ c h
    refine lv_lload hx hb dX6_to_81 (lv_at hl 0 rfl) ?_
    refine g_callS X hI (av := [.long s0]) (c_X6_isZero s0) gm_X6_isZero tw_4_1 tw_4_2 ⟨by decide, by decide⟩ hl.1 (rest := []) rfl (Nat.le_of_ble_eq_true rfl) dX6_to_83 ⟨by decide, by decide⟩ (st1 := [.int (f_X6_isZero s0)]) rfl (cells' := 0) (slots' := 0) rfl rfl (fun H locs hI => ?_)
    refine lv_if_eq (tgt := 93) hx hb dX6_to_86 (by decide) (fun c => ?_) (fun c => ?_)
    · have h := g_t _ c h
      refine lv_lconst (v := 1) hx hb dX6_to_93 (by decide) ?_
      have h := Option.some.inj h
      subst h
      exact g_lret X hI dX6_to_94
    · have h := g_f _ c h
      refine lv_lconst (v := 0) hx hb dX6_to_89 (by decide) ?_
      refine lv_goto (tgt := 94) hx hb dX6_to_90 (by decide) ?_
      have h := Option.some.inj h
      subst h
      exact g_lret X hI dX6_to_94
def f_X6_to (a0 : Int64) (a2 : Int32) (a3 : Int32) : Option Int64 :=
  if a2 = a3 then
    some a0
  else
  if (4 : Int32) ≤ a2 then
    if a2 = 4 then
      gb (f_X6_wide a0) fun r1 =>
      f_X6_to_75 a3 r1
    else
    f_X6_to_75 a3 a0
  else
  if a3 = 0 then
    if a0 = 0 then
      some 0
    else
    some 1
  else
  if (4 : Int32) ≤ a3 then
    gb (f_X6_ofWhole a0 a3) fun r2 =>
    if a3 = 4 then
      gb (f_X6_floatBits r2) fun r3 =>
      some r3
    else
    some r2
  else
  some (f_X6_kept a0 a3)
theorem gm_X6_to : g_M yX6_to cX6_to 6 (some .long) 3 := ⟨tw_3_197, tw_1_5, by decide +kernel, Or.inl (by decide +kernel)⟩
set_option maxHeartbeats 4000000 in
set_option maxRecDepth 100000 in
theorem c_X6_to {l : Launch} {E : gE} {G : gG} {n : Nat} {a0 : Int64} {a2 : Int32} {a3 : Int32} {r : Int64} (h : f_X6_to a0 a2 a3 = some r) : g_Met l yX6_to cX6_to 6 (some .long) rm_X6_to E G n [.long a0, .int a2, .int a3] (some (.long r)) G n := by
  refine g_ofW gm_X6_to (Nat.le_of_ble_eq_true rfl) ?_
  intro p e s m below meth c ls X hl hI
  have hx := X.1
  have hb := X.2.1
  have X : g_X E G n p s m _ meth c cX6_to 6 RX6 "to" (some .long) := X
  have hl : lv_has ls 6 [(0, .long a0), (2, .int a2), (3, .int a3)] := hl
  unfold f_X6_to at h
  refine lv_iload_n hx hb dX6_to_0 rfl (lv_at hl 1 rfl) ?_
  refine lv_iload_n hx hb dX6_to_1 rfl (lv_at hl 2 rfl) ?_
  refine lv_icmp_ne (tgt := 7) hx hb dX6_to_2 (by decide) (fun c => ?_) (fun c => ?_)
  · have h := g_f _ c h
    refine lv_iload_n hx hb dX6_to_7 rfl (lv_at hl 1 rfl) ?_
    refine lv_iconst (v := 4) hx hb dX6_to_8 (by decide) ?_
    refine lv_icmp_ge (tgt := 62) hx hb dX6_to_9 (by decide) (fun c => ?_) (fun c => ?_)
    · have h := g_t _ c h
      refine lv_iload_n hx hb dX6_to_62 rfl (lv_at hl 1 rfl) ?_
      refine lv_iconst (v := 4) hx hb dX6_to_63 (by decide) ?_
      refine lv_icmp_ne (tgt := 74) hx hb dX6_to_64 (by decide) (fun c => ?_) (fun c => ?_)
      · have h := g_f _ c h
        refine lv_lload_n hx hb dX6_to_74 rfl (lv_at hl 0 rfl) ?_
        exact b_X6_to_75 X hI h (lv_sub hl [2] rfl)
      · have h := g_t _ c h
        refine lv_lload_n hx hb dX6_to_67 rfl (lv_at hl 0 rfl) ?_
        obtain ⟨r1, er1, h⟩ := gb_s h
        refine g_callS X hI (av := [.long a0]) (c_X6_wide er1) gm_X6_wide tw_4_5 tw_4_6 ⟨by decide, by decide⟩ hl.1 (rest := []) rfl (Nat.le_of_ble_eq_true rfl) dX6_to_68 ⟨by decide, by decide⟩ (st1 := [.long r1]) rfl (cells' := 0) (slots' := 0) rfl rfl (fun H locs hI => ?_)
        refine lv_goto (tgt := 75) hx hb dX6_to_71 (by decide) ?_
        exact b_X6_to_75 X hI h (lv_sub hl [2] rfl)
    · have h := g_f _ c h
      refine lv_iload_n hx hb dX6_to_12 rfl (lv_at hl 2 rfl) ?_
      refine lv_if_ne (tgt := 28) hx hb dX6_to_13 (by decide) (fun c => ?_) (fun c => ?_)
      · have h := g_f _ c h
        refine lv_iload_n hx hb dX6_to_28 rfl (lv_at hl 2 rfl) ?_
        refine lv_iconst (v := 4) hx hb dX6_to_29 (by decide) ?_
        refine lv_icmp_ge (tgt := 39) hx hb dX6_to_30 (by decide) (fun c => ?_) (fun c => ?_)
        · have h := g_t _ c h
          refine lv_lload_n hx hb dX6_to_39 rfl (lv_at hl 0 rfl) ?_
          refine lv_iload_n hx hb dX6_to_40 rfl (lv_at hl 2 rfl) ?_
          obtain ⟨r2, er2, h⟩ := gb_s h
          refine g_callS X hI (av := [.long a0, .int a3]) (c_X6_ofWhole er2) gm_X6_ofWhole tw_3_198 tw_3_199 ⟨by decide, by decide⟩ hl.1 (rest := []) rfl (Nat.le_of_ble_eq_true rfl) dX6_to_41 ⟨by decide, by decide⟩ (st1 := [.long r2]) rfl (cells' := 0) (slots' := 0) rfl rfl (fun H locs hI => ?_)
          refine lv_lstore (lv' := [(4, .long r2), (0, .long a0), (2, .int a2), (3, .int a3)]) hx hb dX6_to_44 hl (by decide) rfl (fun ls hl => ?_)
          refine lv_iload_n hx hb dX6_to_46 rfl (lv_at hl 3 rfl) ?_
          refine lv_iconst (v := 4) hx hb dX6_to_47 (by decide) ?_
          refine lv_icmp_ne (tgt := 59) hx hb dX6_to_48 (by decide) (fun c => ?_) (fun c => ?_)
          · have h := g_f _ c h
            refine lv_lload hx hb dX6_to_59 (lv_at hl 0 rfl) ?_
            have h := Option.some.inj h
            subst h
            exact g_lret X hI dX6_to_61
          · have h := g_t _ c h
            refine lv_lload hx hb dX6_to_51 (lv_at hl 0 rfl) ?_
            obtain ⟨r3, er3, h⟩ := gb_s h
            refine g_callS X hI (av := [.long r2]) (c_X6_floatBits er3) gm_X6_floatBits tw_3_225 tw_3_226 ⟨by decide, by decide⟩ hl.1 (rest := []) rfl (Nat.le_of_ble_eq_true rfl) dX6_to_53 ⟨by decide, by decide⟩ (st1 := [.long r3]) rfl (cells' := 0) (slots' := 0) rfl rfl (fun H locs hI => ?_)
            refine lv_goto (tgt := 61) hx hb dX6_to_56 (by decide) ?_
            have h := Option.some.inj h
            subst h
            exact g_lret X hI dX6_to_61
        · have h := g_f _ c h
          refine lv_lload_n hx hb dX6_to_33 rfl (lv_at hl 0 rfl) ?_
          refine lv_iload_n hx hb dX6_to_34 rfl (lv_at hl 2 rfl) ?_
          refine g_callS X hI (av := [.long a0, .int a3]) (c_X6_kept a0 a3) gm_X6_kept tw_3_131 tw_3_132 ⟨by decide, by decide⟩ hl.1 (rest := []) rfl (Nat.le_of_ble_eq_true rfl) dX6_to_35 ⟨by decide, by decide⟩ (st1 := [.long (f_X6_kept a0 a3)]) rfl (cells' := 0) (slots' := 0) rfl rfl (fun H locs hI => ?_)
          have h := Option.some.inj h
          subst h
          exact g_lret X hI dX6_to_38
      · have h := g_t _ c h
        refine lv_lload_n hx hb dX6_to_16 rfl (lv_at hl 0 rfl) ?_
        refine lv_lconst (v := 0) hx hb dX6_to_17 (by decide) ?_
        refine W.lcmp hx hb dX6_to_18 ?_
        refine lv_if_eq (tgt := 26) hx hb dX6_to_19 (by decide) (fun c => ?_) (fun c => ?_)
        · have h := g_t _ ((lg_cmp_eq _ _).mp c) h
          refine lv_lconst (v := 0) hx hb dX6_to_26 (by decide) ?_
          have h := Option.some.inj h
          subst h
          exact g_lret X hI dX6_to_27
        · have h := g_f _ (fun q => c ((lg_cmp_eq _ _).mpr q)) h
          refine lv_lconst (v := 1) hx hb dX6_to_22 (by decide) ?_
          refine lv_goto (tgt := 27) hx hb dX6_to_23 (by decide) ?_
          have h := Option.some.inj h
          subst h
          exact g_lret X hI dX6_to_27
  · have h := g_t _ c h
    refine lv_lload_n hx hb dX6_to_5 rfl (lv_at hl 0 rfl) ?_
    have h := Option.some.inj h
    subst h
    exact g_lret X hI dX6_to_6
abbrev rm_X6_joined : Room := { frames := 0, cells := 0, slots := 0, locals := 0 }
def f_X6_joined_21 (x2 : Int32) (s0 : Int32) : Int32 :=
  if x2 = 4 then
    if s0 = 2 then
      5
    else
    if s0 = 3 then
      5
    else
    x2
  else
  x2
set_option maxHeartbeats 4000000 in
set_option maxRecDepth 100000 in
theorem b_X6_joined_21 {p : Program} {l : Launch} {e : Env} {s : State} {m : MethodId} {args : Array Value} {below : List Frame} {meth : Method} {c : Code} {E : gE} {G0 : gG} {n0 : Nat} (X : g_X E G0 n0 p s m args meth c cX6_joined 4 RX6 "joined" (some .int)) {G : gG} {n : Nat} {r : Int32} {H : Heap} {locs : List Loc} (hI : g_I E (g_A G0 n0) G n s.heap H locs) {x2 : Int32} {s0 : Int32} (h : f_X6_joined_21 x2 s0 = r) {ls : Array Slot} (hl : lv_has ls 4 [(2, .int x2)]) : W p l e rm_X6_joined s m args below meth c H locs 0 0 (MQ below (g_Q E G0 n0 (some (.int r)) G n) args s rm_X6_joined.cells rm_X6_joined.slots (g_A G0 n0)) (F0 m 21 ls [.int s0]) := by
  have hx := X.1
  have hb := X.2.1
  unfold f_X6_joined_21 at h
  refine lv_istore_n (lv' := [(3, .int s0), (2, .int x2)]) hx hb dX6_joined_21 rfl hl (by decide) rfl (fun ls hl => ?_)
  refine lv_iload_n hx hb dX6_joined_22 rfl (lv_at hl 1 rfl) ?_
  refine lv_iconst (v := 4) hx hb dX6_joined_23 (by decide) ?_
  refine lv_icmp_ne (tgt := 41) hx hb dX6_joined_24 (by decide) (fun c => ?_) (fun c => ?_)
  · have h := g_f _ c h
    refine lv_iload_n hx hb dX6_joined_41 rfl (lv_at hl 1 rfl) ?_
    subst h
    exact g_iret X hI dX6_joined_42
  · have h := g_t _ c h
    refine lv_iload_n hx hb dX6_joined_27 rfl (lv_at hl 0 rfl) ?_
    refine lv_iconst (v := 2) hx hb dX6_joined_28 (by decide) ?_
    refine lv_icmp_eq (tgt := 37) hx hb dX6_joined_29 (by decide) (fun c => ?_) (fun c => ?_)
    · have h := g_t _ c h
      refine lv_iconst (v := 5) hx hb dX6_joined_37 (by decide) ?_
      refine lv_goto (tgt := 42) hx hb dX6_joined_38 (by decide) ?_
      subst h
      exact g_iret X hI dX6_joined_42
    · have h := g_f _ c h
      refine lv_iload_n hx hb dX6_joined_32 rfl (lv_at hl 0 rfl) ?_
      refine lv_iconst (v := 3) hx hb dX6_joined_33 (by decide) ?_
      refine lv_icmp_ne (tgt := 41) hx hb dX6_joined_34 (by decide) (fun c => ?_) (fun c => ?_)
      · have h := g_f _ c h
        refine lv_iload_n hx hb dX6_joined_41 rfl (lv_at hl 1 rfl) ?_
        subst h
        exact g_iret X hI dX6_joined_42
      · have h := g_t _ c h
        refine lv_iconst (v := 5) hx hb dX6_joined_37 (by decide) ?_
        refine lv_goto (tgt := 42) hx hb dX6_joined_38 (by decide) ?_
        subst h
        exact g_iret X hI dX6_joined_42
def f_X6_joined_10 (x0 : Int32) (x1 : Int32) (s0 : Int32) : Int32 :=
  if x0 ≤ x1 then
    f_X6_joined_21 s0 x0
  else
  f_X6_joined_21 s0 x1
set_option maxHeartbeats 4000000 in
set_option maxRecDepth 100000 in
theorem b_X6_joined_10 {p : Program} {l : Launch} {e : Env} {s : State} {m : MethodId} {args : Array Value} {below : List Frame} {meth : Method} {c : Code} {E : gE} {G0 : gG} {n0 : Nat} (X : g_X E G0 n0 p s m args meth c cX6_joined 4 RX6 "joined" (some .int)) {G : gG} {n : Nat} {r : Int32} {H : Heap} {locs : List Loc} (hI : g_I E (g_A G0 n0) G n s.heap H locs) {x0 : Int32} {x1 : Int32} {s0 : Int32} (h : f_X6_joined_10 x0 x1 s0 = r) {ls : Array Slot} (hl : lv_has ls 4 [(0, .int x0), (1, .int x1)]) : W p l e rm_X6_joined s m args below meth c H locs 0 0 (MQ below (g_Q E G0 n0 (some (.int r)) G n) args s rm_X6_joined.cells rm_X6_joined.slots (g_A G0 n0)) (F0 m 10 ls [.int s0]) := by
  have hx := X.1
  have hb := X.2.1
  unfold f_X6_joined_10 at h
  refine lv_istore_n (lv' := [(2, .int s0), (0, .int x0), (1, .int x1)]) hx hb dX6_joined_10 rfl hl (by decide) rfl (fun ls hl => ?_)
  refine lv_iload_n hx hb dX6_joined_11 rfl (lv_at hl 1 rfl) ?_
  refine lv_iload_n hx hb dX6_joined_12 rfl (lv_at hl 2 rfl) ?_
  refine lv_icmp_le (tgt := 20) hx hb dX6_joined_13 (by decide) (fun c => ?_) (fun c => ?_)
  · have h := g_t _ c h
    refine lv_iload_n hx hb dX6_joined_20 rfl (lv_at hl 1 rfl) ?_
    exact b_X6_joined_21 X hI h (lv_sub hl [0] rfl)
  · have h := g_f _ c h
    refine lv_iload_n hx hb dX6_joined_16 rfl (lv_at hl 2 rfl) ?_
    refine lv_goto (tgt := 21) hx hb dX6_joined_17 (by decide) ?_
    exact b_X6_joined_21 X hI h (lv_sub hl [0] rfl)
def f_X6_joined (a0 : Int32) (a1 : Int32) : Int32 :=
  if a0 ≤ a1 then
    f_X6_joined_10 a0 a1 a1
  else
  f_X6_joined_10 a0 a1 a0
theorem gm_X6_joined : g_M yX6_joined cX6_joined 4 (some .int) 2 := ⟨tw_3_167, tw_1_5, by decide +kernel, Or.inl (by decide +kernel)⟩
set_option maxHeartbeats 4000000 in
set_option maxRecDepth 100000 in
theorem c_X6_joined {l : Launch} {E : gE} {G : gG} {n : Nat} (a0 : Int32) (a1 : Int32) : g_Met l yX6_joined cX6_joined 4 (some .int) rm_X6_joined E G n [.int a0, .int a1] (some (.int (f_X6_joined a0 a1))) G n := by
  generalize h : f_X6_joined a0 a1 = r
  refine g_ofW gm_X6_joined (Nat.le_of_ble_eq_true rfl) ?_
  intro p e s m below meth c ls X hl hI
  have hx := X.1
  have hb := X.2.1
  have X : g_X E G n p s m _ meth c cX6_joined 4 RX6 "joined" (some .int) := X
  have hl : lv_has ls 4 [(0, .int a0), (1, .int a1)] := hl
  unfold f_X6_joined at h
  refine lv_iload_n hx hb dX6_joined_0 rfl (lv_at hl 0 rfl) ?_
  refine lv_iload_n hx hb dX6_joined_1 rfl (lv_at hl 1 rfl) ?_
  refine lv_icmp_le (tgt := 9) hx hb dX6_joined_2 (by decide) (fun c => ?_) (fun c => ?_)
  · have h := g_t _ c h
    refine lv_iload_n hx hb dX6_joined_9 rfl (lv_at hl 1 rfl) ?_
    exact b_X6_joined_10 X hI h (lv_sub hl [0, 1] rfl)
  · have h := g_f _ c h
    refine lv_iload_n hx hb dX6_joined_5 rfl (lv_at hl 0 rfl) ?_
    refine lv_goto (tgt := 10) hx hb dX6_joined_6 (by decide) ?_
    exact b_X6_joined_10 X hI h (lv_sub hl [0, 1] rfl)
abbrev rm_X6_laneOf : Room := { frames := 0, cells := 0, slots := 0, locals := 0 }
def f_X6_laneOf_64 (x1 : Int32) (s0 : Int32) : Int32 :=
  if s0 = 0 then
    x1
  else
  if x1 = 0 then
    2
  else
  x1
set_option maxHeartbeats 4000000 in
set_option maxRecDepth 100000 in
theorem b_X6_laneOf_64 {p : Program} {l : Launch} {e : Env} {s : State} {m : MethodId} {args : Array Value} {below : List Frame} {meth : Method} {c : Code} {E : gE} {G0 : gG} {n0 : Nat} (X : g_X E G0 n0 p s m args meth c cX6_laneOf 3 RX6 "laneOf" (some .int)) {G : gG} {n : Nat} {r : Int32} {H : Heap} {locs : List Loc} (hI : g_I E (g_A G0 n0) G n s.heap H locs) {x1 : Int32} {s0 : Int32} (h : f_X6_laneOf_64 x1 s0 = r) {ls : Array Slot} (hl : lv_has ls 3 [(1, .int x1)]) : W p l e rm_X6_laneOf s m args below meth c H locs 0 0 (MQ below (g_Q E G0 n0 (some (.int r)) G n) args s rm_X6_laneOf.cells rm_X6_laneOf.slots (g_A G0 n0)) (F0 m 64 ls [.int s0]) := by
  have hx := X.1
  have hb := X.2.1
  unfold f_X6_laneOf_64 at h
  refine lv_istore_n (lv' := [(2, .int s0), (1, .int x1)]) hx hb dX6_laneOf_64 rfl hl (by decide) rfl (fun ls hl => ?_)
  refine lv_iload_n hx hb dX6_laneOf_65 rfl (lv_at hl 0 rfl) ?_
  refine lv_if_eq (tgt := 77) hx hb dX6_laneOf_66 (by decide) (fun c => ?_) (fun c => ?_)
  · have h := g_t _ c h
    refine lv_iload_n hx hb dX6_laneOf_77 rfl (lv_at hl 1 rfl) ?_
    subst h
    exact g_iret X hI dX6_laneOf_78
  · have h := g_f _ c h
    refine lv_iload_n hx hb dX6_laneOf_69 rfl (lv_at hl 1 rfl) ?_
    refine lv_if_ne (tgt := 77) hx hb dX6_laneOf_70 (by decide) (fun c => ?_) (fun c => ?_)
    · have h := g_f _ c h
      refine lv_iload_n hx hb dX6_laneOf_77 rfl (lv_at hl 1 rfl) ?_
      subst h
      exact g_iret X hI dX6_laneOf_78
    · have h := g_t _ c h
      refine lv_iconst (v := 2) hx hb dX6_laneOf_73 (by decide) ?_
      refine lv_goto (tgt := 78) hx hb dX6_laneOf_74 (by decide) ?_
      subst h
      exact g_iret X hI dX6_laneOf_78
def f_X6_laneOf_59 (x1 : Int32) : Int32 :=
  f_X6_laneOf_64 x1 1
set_option maxHeartbeats 4000000 in
set_option maxRecDepth 100000 in
theorem b_X6_laneOf_59 {p : Program} {l : Launch} {e : Env} {s : State} {m : MethodId} {args : Array Value} {below : List Frame} {meth : Method} {c : Code} {E : gE} {G0 : gG} {n0 : Nat} (X : g_X E G0 n0 p s m args meth c cX6_laneOf 3 RX6 "laneOf" (some .int)) {G : gG} {n : Nat} {r : Int32} {H : Heap} {locs : List Loc} (hI : g_I E (g_A G0 n0) G n s.heap H locs) {x1 : Int32} (h : f_X6_laneOf_59 x1 = r) {ls : Array Slot} (hl : lv_has ls 3 [(1, .int x1)]) : W p l e rm_X6_laneOf s m args below meth c H locs 0 0 (MQ below (g_Q E G0 n0 (some (.int r)) G n) args s rm_X6_laneOf.cells rm_X6_laneOf.slots (g_A G0 n0)) (F0 m 59 ls []) := by
  have hx := X.1
  have hb := X.2.1
  unfold f_X6_laneOf_59 at h
  refine lv_iconst (v := 1) hx hb dX6_laneOf_59 (by decide) ?_
  refine lv_goto (tgt := 64) hx hb dX6_laneOf_60 (by decide) ?_
  exact b_X6_laneOf_64 X hI h (lv_sub hl [0] rfl)
def f_X6_laneOf_53 (x0 : Int32) (x1 : Int32) : Int32 :=
  if x0 = 22 then
    f_X6_laneOf_59 x1
  else
  f_X6_laneOf_64 x1 0
set_option maxHeartbeats 4000000 in
set_option maxRecDepth 100000 in
theorem b_X6_laneOf_53 {p : Program} {l : Launch} {e : Env} {s : State} {m : MethodId} {args : Array Value} {below : List Frame} {meth : Method} {c : Code} {E : gE} {G0 : gG} {n0 : Nat} (X : g_X E G0 n0 p s m args meth c cX6_laneOf 3 RX6 "laneOf" (some .int)) {G : gG} {n : Nat} {r : Int32} {H : Heap} {locs : List Loc} (hI : g_I E (g_A G0 n0) G n s.heap H locs) {x0 : Int32} {x1 : Int32} (h : f_X6_laneOf_53 x0 x1 = r) {ls : Array Slot} (hl : lv_has ls 3 [(0, .int x0), (1, .int x1)]) : W p l e rm_X6_laneOf s m args below meth c H locs 0 0 (MQ below (g_Q E G0 n0 (some (.int r)) G n) args s rm_X6_laneOf.cells rm_X6_laneOf.slots (g_A G0 n0)) (F0 m 53 ls []) := by
  have hx := X.1
  have hb := X.2.1
  unfold f_X6_laneOf_53 at h
  refine lv_iload_n hx hb dX6_laneOf_53 rfl (lv_at hl 0 rfl) ?_
  refine lv_bipush (v := 22) hx hb dX6_laneOf_54 (by decide) ?_
  refine lv_icmp_ne (tgt := 63) hx hb dX6_laneOf_56 (by decide) (fun c => ?_) (fun c => ?_)
  · have h := g_f _ c h
    refine lv_iconst (v := 0) hx hb dX6_laneOf_63 (by decide) ?_
    exact b_X6_laneOf_64 X hI h (lv_sub hl [1] rfl)
  · have h := g_t _ c h
    exact b_X6_laneOf_59 X hI h (lv_sub hl [1] rfl)
def f_X6_laneOf_35 (x0 : Int32) (x1 : Int32) : Int32 :=
  if x0 < 8 then
    f_X6_laneOf_59 x1
  else
  if x0 < 15 then
    f_X6_laneOf_53 x0 x1
  else
  if x0 ≤ 17 then
    f_X6_laneOf_59 x1
  else
  f_X6_laneOf_53 x0 x1
set_option maxHeartbeats 4000000 in
set_option maxRecDepth 100000 in
theorem b_X6_laneOf_35 {p : Program} {l : Launch} {e : Env} {s : State} {m : MethodId} {args : Array Value} {below : List Frame} {meth : Method} {c : Code} {E : gE} {G0 : gG} {n0 : Nat} (X : g_X E G0 n0 p s m args meth c cX6_laneOf 3 RX6 "laneOf" (some .int)) {G : gG} {n : Nat} {r : Int32} {H : Heap} {locs : List Loc} (hI : g_I E (g_A G0 n0) G n s.heap H locs) {x0 : Int32} {x1 : Int32} (h : f_X6_laneOf_35 x0 x1 = r) {ls : Array Slot} (hl : lv_has ls 3 [(0, .int x0), (1, .int x1)]) : W p l e rm_X6_laneOf s m args below meth c H locs 0 0 (MQ below (g_Q E G0 n0 (some (.int r)) G n) args s rm_X6_laneOf.cells rm_X6_laneOf.slots (g_A G0 n0)) (F0 m 35 ls []) := by
  have hx := X.1
  have hb := X.2.1
  unfold f_X6_laneOf_35 at h
  refine lv_iload_n hx hb dX6_laneOf_35 rfl (lv_at hl 0 rfl) ?_
  refine lv_bipush (v := 8) hx hb dX6_laneOf_36 (by decide) ?_
  refine lv_icmp_lt (tgt := 59) hx hb dX6_laneOf_38 (by decide) (fun c => ?_) (fun c => ?_)
  · have h := g_t _ c h
    exact b_X6_laneOf_59 X hI h (lv_sub hl [1] rfl)
  · have h := g_f _ c h
    refine lv_iload_n hx hb dX6_laneOf_41 rfl (lv_at hl 0 rfl) ?_
    refine lv_bipush (v := 15) hx hb dX6_laneOf_42 (by decide) ?_
    refine lv_icmp_lt (tgt := 53) hx hb dX6_laneOf_44 (by decide) (fun c => ?_) (fun c => ?_)
    · have h := g_t _ c h
      exact b_X6_laneOf_53 X hI h (lv_sub hl [0, 1] rfl)
    · have h := g_f _ c h
      refine lv_iload_n hx hb dX6_laneOf_47 rfl (lv_at hl 0 rfl) ?_
      refine lv_bipush (v := 17) hx hb dX6_laneOf_48 (by decide) ?_
      refine lv_icmp_le (tgt := 59) hx hb dX6_laneOf_50 (by decide) (fun c => ?_) (fun c => ?_)
      · have h := g_t _ c h
        exact b_X6_laneOf_59 X hI h (lv_sub hl [1] rfl)
      · have h := g_f _ c h
        exact b_X6_laneOf_53 X hI h (lv_sub hl [0, 1] rfl)
def f_X6_laneOf (a0 : Int32) (a1 : Int32) : Int32 :=
  if a0 = 3 then
    if (4 : Int32) ≤ a1 then
      a1
    else
    5
  else
  if a0 < 12 then
    f_X6_laneOf_35 a0 a1
  else
  if (17 : Int32) < a0 then
    f_X6_laneOf_35 a0 a1
  else
  if a1 ≤ 3 then
    f_X6_laneOf_35 a0 a1
  else
  (-1)
theorem gm_X6_laneOf : g_M yX6_laneOf cX6_laneOf 3 (some .int) 2 := ⟨tw_3_170, tw_1_5, by decide +kernel, Or.inl (by decide +kernel)⟩
set_option maxHeartbeats 4000000 in
set_option maxRecDepth 100000 in
theorem c_X6_laneOf {l : Launch} {E : gE} {G : gG} {n : Nat} (a0 : Int32) (a1 : Int32) : g_Met l yX6_laneOf cX6_laneOf 3 (some .int) rm_X6_laneOf E G n [.int a0, .int a1] (some (.int (f_X6_laneOf a0 a1))) G n := by
  generalize h : f_X6_laneOf a0 a1 = r
  refine g_ofW gm_X6_laneOf (Nat.le_of_ble_eq_true rfl) ?_
  intro p e s m below meth c ls X hl hI
  have hx := X.1
  have hb := X.2.1
  have X : g_X E G n p s m _ meth c cX6_laneOf 3 RX6 "laneOf" (some .int) := X
  have hl : lv_has ls 3 [(0, .int a0), (1, .int a1)] := hl
  unfold f_X6_laneOf at h
  refine lv_iload_n hx hb dX6_laneOf_0 rfl (lv_at hl 0 rfl) ?_
  refine lv_iconst (v := 3) hx hb dX6_laneOf_1 (by decide) ?_
  refine lv_icmp_ne (tgt := 16) hx hb dX6_laneOf_2 (by decide) (fun c => ?_) (fun c => ?_)
  · have h := g_f _ c h
    refine lv_iload_n hx hb dX6_laneOf_16 rfl (lv_at hl 0 rfl) ?_
    refine lv_bipush (v := 12) hx hb dX6_laneOf_17 (by decide) ?_
    refine lv_icmp_lt (tgt := 35) hx hb dX6_laneOf_19 (by decide) (fun c => ?_) (fun c => ?_)
    · have h := g_t _ c h
      exact b_X6_laneOf_35 X hI h (lv_sub hl [0, 1] rfl)
    · have h := g_f _ c h
      refine lv_iload_n hx hb dX6_laneOf_22 rfl (lv_at hl 0 rfl) ?_
      refine lv_bipush (v := 17) hx hb dX6_laneOf_23 (by decide) ?_
      refine lv_icmp_gt (tgt := 35) hx hb dX6_laneOf_25 (by decide) (fun c => ?_) (fun c => ?_)
      · have h := g_t _ c h
        exact b_X6_laneOf_35 X hI h (lv_sub hl [0, 1] rfl)
      · have h := g_f _ c h
        refine lv_iload_n hx hb dX6_laneOf_28 rfl (lv_at hl 1 rfl) ?_
        refine lv_iconst (v := 3) hx hb dX6_laneOf_29 (by decide) ?_
        refine lv_icmp_le (tgt := 35) hx hb dX6_laneOf_30 (by decide) (fun c => ?_) (fun c => ?_)
        · have h := g_t _ c h
          exact b_X6_laneOf_35 X hI h (lv_sub hl [0, 1] rfl)
        · have h := g_f _ c h
          refine lv_iconst (v := (-1)) hx hb dX6_laneOf_33 (by decide) ?_
          subst h
          exact g_iret X hI dX6_laneOf_34
  · have h := g_t _ c h
    refine lv_iload_n hx hb dX6_laneOf_5 rfl (lv_at hl 1 rfl) ?_
    refine lv_iconst (v := 4) hx hb dX6_laneOf_6 (by decide) ?_
    refine lv_icmp_ge (tgt := 14) hx hb dX6_laneOf_7 (by decide) (fun c => ?_) (fun c => ?_)
    · have h := g_t _ c h
      refine lv_iload_n hx hb dX6_laneOf_14 rfl (lv_at hl 1 rfl) ?_
      subst h
      exact g_iret X hI dX6_laneOf_15
    · have h := g_f _ c h
      refine lv_iconst (v := 5) hx hb dX6_laneOf_10 (by decide) ?_
      refine lv_goto (tgt := 15) hx hb dX6_laneOf_11 (by decide) ?_
      subst h
      exact g_iret X hI dX6_laneOf_15
abbrev rm_X6_extreme : Room := { frames := 1, cells := 0, slots := 0, locals := 21 }
def f_X6_extreme_71 (x1 : Int64) (x3 : Int64) (s0 : Int32) (s1 : Int32) : Int64 :=
  if s1 = s0 then
    x1
  else
  x3
set_option maxHeartbeats 4000000 in
set_option maxRecDepth 100000 in
theorem b_X6_extreme_71 {p : Program} {l : Launch} {e : Env} {s : State} {m : MethodId} {args : Array Value} {below : List Frame} {meth : Method} {c : Code} {E : gE} {G0 : gG} {n0 : Nat} (X : g_X E G0 n0 p s m args meth c cX6_extreme 6 RX6 "extreme" (some .long)) {G : gG} {n : Nat} {r : Int64} {H : Heap} {locs : List Loc} (hI : g_I E (g_A G0 n0) G n s.heap H locs) {x1 : Int64} {x3 : Int64} {s0 : Int32} {s1 : Int32} (h : f_X6_extreme_71 x1 x3 s0 s1 = r) {ls : Array Slot} (hl : lv_has ls 6 [(1, .long x1), (3, .long x3)]) : W p l e rm_X6_extreme s m args below meth c H locs 0 0 (MQ below (g_Q E G0 n0 (some (.long r)) G n) args s rm_X6_extreme.cells rm_X6_extreme.slots (g_A G0 n0)) (F0 m 71 ls [.int s0, .int s1]) := by
  have hx := X.1
  have hb := X.2.1
  unfold f_X6_extreme_71 at h
  refine lv_icmp_ne (tgt := 78) hx hb dX6_extreme_71 (by decide) (fun c => ?_) (fun c => ?_)
  · have h := g_f _ c h
    refine lv_lload_n hx hb dX6_extreme_78 rfl (lv_at hl 1 rfl) ?_
    subst h
    exact g_lret X hI dX6_extreme_79
  · have h := g_t _ c h
    refine lv_lload_n hx hb dX6_extreme_74 rfl (lv_at hl 0 rfl) ?_
    refine lv_goto (tgt := 79) hx hb dX6_extreme_75 (by decide) ?_
    subst h
    exact g_lret X hI dX6_extreme_79
def f_X6_extreme_56 (x0 : Int32) (x1 : Int64) (x3 : Int64) (s0 : Int32) : Int64 :=
  if (g_irem x0 2) = 0 then
    f_X6_extreme_71 x1 x3 1 s0
  else
  f_X6_extreme_71 x1 x3 0 s0
set_option maxHeartbeats 4000000 in
set_option maxRecDepth 100000 in
theorem b_X6_extreme_56 {p : Program} {l : Launch} {e : Env} {s : State} {m : MethodId} {args : Array Value} {below : List Frame} {meth : Method} {c : Code} {E : gE} {G0 : gG} {n0 : Nat} (X : g_X E G0 n0 p s m args meth c cX6_extreme 6 RX6 "extreme" (some .long)) {G : gG} {n : Nat} {r : Int64} {H : Heap} {locs : List Loc} (hI : g_I E (g_A G0 n0) G n s.heap H locs) {x0 : Int32} {x1 : Int64} {x3 : Int64} {s0 : Int32} (h : f_X6_extreme_56 x0 x1 x3 s0 = r) {ls : Array Slot} (hl : lv_has ls 6 [(0, .int x0), (1, .long x1), (3, .long x3)]) : W p l e rm_X6_extreme s m args below meth c H locs 0 0 (MQ below (g_Q E G0 n0 (some (.long r)) G n) args s rm_X6_extreme.cells rm_X6_extreme.slots (g_A G0 n0)) (F0 m 56 ls [.int s0]) := by
  have hx := X.1
  have hb := X.2.1
  unfold f_X6_extreme_56 at h
  refine lv_istore (lv' := [(5, .int s0), (0, .int x0), (1, .long x1), (3, .long x3)]) hx hb dX6_extreme_56 hl (by decide) rfl (fun ls hl => ?_)
  refine lv_iload hx hb dX6_extreme_58 (lv_at hl 0 rfl) ?_
  refine lv_iload_n hx hb dX6_extreme_60 rfl (lv_at hl 1 rfl) ?_
  refine lv_iconst (v := 2) hx hb dX6_extreme_61 (by decide) ?_
  refine lv_irem hx hb dX6_extreme_62 (by decide) ?_
  refine lv_if_ne (tgt := 70) hx hb dX6_extreme_63 (by decide) (fun c => ?_) (fun c => ?_)
  · have h := g_f _ c h
    refine lv_iconst (v := 0) hx hb dX6_extreme_70 (by decide) ?_
    exact b_X6_extreme_71 X hI h (lv_sub hl [2, 3] rfl)
  · have h := g_t _ c h
    refine lv_iconst (v := 1) hx hb dX6_extreme_66 (by decide) ?_
    refine lv_goto (tgt := 71) hx hb dX6_extreme_67 (by decide) ?_
    exact b_X6_extreme_71 X hI h (lv_sub hl [2, 3] rfl)
def f_X6_extreme_14 (x0 : Int32) (x1 : Int64) (x3 : Int64) : Int64 :=
  if (10 : Int32) ≤ x0 then
    if (f_X6_isNan x1) = 0 then
      x1
    else
    x3
  else
  9221120237041090560
set_option maxHeartbeats 4000000 in
set_option maxRecDepth 100000 in
theorem b_X6_extreme_14 {p : Program} {l : Launch} {e : Env} {s : State} {m : MethodId} {args : Array Value} {below : List Frame} {meth : Method} {c : Code} {E : gE} {G0 : gG} {n0 : Nat} (X : g_X E G0 n0 p s m args meth c cX6_extreme 6 RX6 "extreme" (some .long)) {G : gG} {n : Nat} {r : Int64} {H : Heap} {locs : List Loc} (hI : g_I E (g_A G0 n0) G n s.heap H locs) {x0 : Int32} {x1 : Int64} {x3 : Int64} (h : f_X6_extreme_14 x0 x1 x3 = r) {ls : Array Slot} (hl : lv_has ls 6 [(0, .int x0), (1, .long x1), (3, .long x3)]) : W p l e rm_X6_extreme s m args below meth c H locs 0 0 (MQ below (g_Q E G0 n0 (some (.long r)) G n) args s rm_X6_extreme.cells rm_X6_extreme.slots (g_A G0 n0)) (F0 m 14 ls []) := by
  have hx := X.1
  have hb := X.2.1
  unfold f_X6_extreme_14 at h
  refine lv_iload_n hx hb dX6_extreme_14 rfl (lv_at hl 0 rfl) ?_
  refine lv_bipush (v := 10) hx hb dX6_extreme_15 (by decide) ?_
  refine lv_icmp_ge (tgt := 26) hx hb dX6_extreme_17 (by decide) (fun c => ?_) (fun c => ?_)
  · have h := g_t _ c h
    refine lv_lload_n hx hb dX6_extreme_26 rfl (lv_at hl 1 rfl) ?_
    refine g_callS X hI (av := [.long x1]) (c_X6_isNan x1) gm_X6_isNan tw_3_137 tw_3_138 ⟨by decide, by decide⟩ hl.1 (rest := []) rfl (Nat.le_of_ble_eq_true rfl) dX6_extreme_27 ⟨by decide, by decide⟩ (st1 := [.int (f_X6_isNan x1)]) rfl (cells' := 0) (slots' := 0) rfl rfl (fun H locs hI => ?_)
    refine lv_if_eq (tgt := 37) hx hb dX6_extreme_30 (by decide) (fun c => ?_) (fun c => ?_)
    · have h := g_t _ c h
      refine lv_lload_n hx hb dX6_extreme_37 rfl (lv_at hl 1 rfl) ?_
      subst h
      exact g_lret X hI dX6_extreme_38
    · have h := g_f _ c h
      refine lv_lload_n hx hb dX6_extreme_33 rfl (lv_at hl 2 rfl) ?_
      refine lv_goto (tgt := 38) hx hb dX6_extreme_34 (by decide) ?_
      subst h
      exact g_lret X hI dX6_extreme_38
  · have h := g_f _ c h
    refine lv_ldc2 (v := 9221120237041090560) hx hb X.2.2.2.1 (X.2.2.2.2.1 _ tw_3_142) dX6_extreme_20 ?_
    refine lv_goto (tgt := 38) hx hb dX6_extreme_23 (by decide) ?_
    subst h
    exact g_lret X hI dX6_extreme_38
def f_X6_extreme (a0 : Int32) (a1 : Int64) (a3 : Int64) : Int64 :=
  if (f_X6_isNan a1) = 0 then
    if (f_X6_isNan a3) = 0 then
      if (f_X6_rank a3) ≤ (f_X6_rank a1) then
        f_X6_extreme_56 a0 a1 a3 0
      else
      f_X6_extreme_56 a0 a1 a3 1
    else
    f_X6_extreme_14 a0 a1 a3
  else
  f_X6_extreme_14 a0 a1 a3
theorem gm_X6_extreme : g_M yX6_extreme cX6_extreme 6 (some .long) 3 := ⟨tw_4_49, tw_1_5, by decide +kernel, Or.inl (by decide +kernel)⟩
set_option maxHeartbeats 4000000 in
set_option maxRecDepth 100000 in
theorem c_X6_extreme {l : Launch} {E : gE} {G : gG} {n : Nat} (a0 : Int32) (a1 : Int64) (a3 : Int64) : g_Met l yX6_extreme cX6_extreme 6 (some .long) rm_X6_extreme E G n [.int a0, .long a1, .long a3] (some (.long (f_X6_extreme a0 a1 a3))) G n := by
  generalize h : f_X6_extreme a0 a1 a3 = r
  refine g_ofW gm_X6_extreme (Nat.le_of_ble_eq_true rfl) ?_
  intro p e s m below meth c ls X hl hI
  have hx := X.1
  have hb := X.2.1
  have X : g_X E G n p s m _ meth c cX6_extreme 6 RX6 "extreme" (some .long) := X
  have hl : lv_has ls 6 [(0, .int a0), (1, .long a1), (3, .long a3)] := hl
  unfold f_X6_extreme at h
  refine lv_lload_n hx hb dX6_extreme_0 rfl (lv_at hl 1 rfl) ?_
  refine g_callS X hI (av := [.long a1]) (c_X6_isNan a1) gm_X6_isNan tw_3_137 tw_3_138 ⟨by decide, by decide⟩ hl.1 (rest := []) rfl (Nat.le_of_ble_eq_true rfl) dX6_extreme_1 ⟨by decide, by decide⟩ (st1 := [.int (f_X6_isNan a1)]) rfl (cells' := 0) (slots' := 0) rfl rfl (fun H locs hI => ?_)
  refine lv_if_ne (tgt := 14) hx hb dX6_extreme_4 (by decide) (fun c => ?_) (fun c => ?_)
  · have h := g_f _ c h
    exact b_X6_extreme_14 X hI h (lv_sub hl [0, 1, 2] rfl)
  · have h := g_t _ c h
    refine lv_lload_n hx hb dX6_extreme_7 rfl (lv_at hl 2 rfl) ?_
    refine g_callS X hI (av := [.long a3]) (c_X6_isNan a3) gm_X6_isNan tw_3_137 tw_3_138 ⟨by decide, by decide⟩ hl.1 (rest := []) rfl (Nat.le_of_ble_eq_true rfl) dX6_extreme_8 ⟨by decide, by decide⟩ (st1 := [.int (f_X6_isNan a3)]) rfl (cells' := 0) (slots' := 0) rfl rfl (fun H locs hI => ?_)
    refine lv_if_eq (tgt := 39) hx hb dX6_extreme_11 (by decide) (fun c => ?_) (fun c => ?_)
    · have h := g_t _ c h
      refine lv_lload_n hx hb dX6_extreme_39 rfl (lv_at hl 1 rfl) ?_
      refine g_callS X hI (av := [.long a1]) (c_X6_rank a1) gm_X6_rank tw_4_20 tw_4_21 ⟨by decide, by decide⟩ hl.1 (rest := []) rfl (Nat.le_of_ble_eq_true rfl) dX6_extreme_40 ⟨by decide, by decide⟩ (st1 := [.long (f_X6_rank a1)]) rfl (cells' := 0) (slots' := 0) rfl rfl (fun H locs hI => ?_)
      refine lv_lload_n hx hb dX6_extreme_43 rfl (lv_at hl 2 rfl) ?_
      refine g_callS X hI (av := [.long a3]) (c_X6_rank a3) gm_X6_rank tw_4_20 tw_4_21 ⟨by decide, by decide⟩ hl.1 (rest := [.long (f_X6_rank a1)]) rfl (Nat.le_of_ble_eq_true rfl) dX6_extreme_44 ⟨by decide, by decide⟩ (st1 := [.long (f_X6_rank a3), .long (f_X6_rank a1)]) rfl (cells' := 0) (slots' := 0) rfl rfl (fun H locs hI => ?_)
      refine W.lcmp hx hb dX6_extreme_47 ?_
      refine lv_if_ge (tgt := 55) hx hb dX6_extreme_48 (by decide) (fun c => ?_) (fun c => ?_)
      · have h := g_t _ ((lg_cmp_ge _ _).mp c) h
        refine lv_iconst (v := 0) hx hb dX6_extreme_55 (by decide) ?_
        exact b_X6_extreme_56 X hI h (lv_sub hl [0, 1, 2] rfl)
      · have h := g_f _ (fun q => c ((lg_cmp_ge _ _).mpr q)) h
        refine lv_iconst (v := 1) hx hb dX6_extreme_51 (by decide) ?_
        refine lv_goto (tgt := 56) hx hb dX6_extreme_52 (by decide) ?_
        exact b_X6_extreme_56 X hI h (lv_sub hl [0, 1, 2] rfl)
    · have h := g_f _ c h
      exact b_X6_extreme_14 X hI h (lv_sub hl [0, 1, 2] rfl)
abbrev rm_X6_reckoned : Room := { frames := 4, cells := 0, slots := 0, locals := 125 }
def f_X6_reckoned_276 (x0 : Int32) (x1 : Int64) (x3 : Int64) : Option Int64 :=
  some (f_X6_extreme x0 x1 x3)
set_option maxHeartbeats 4000000 in
set_option maxRecDepth 100000 in
theorem b_X6_reckoned_276 {p : Program} {l : Launch} {e : Env} {s : State} {m : MethodId} {args : Array Value} {below : List Frame} {meth : Method} {c : Code} {E : gE} {G0 : gG} {n0 : Nat} (X : g_X E G0 n0 p s m args meth c cX6_reckoned 8 RX6 "reckoned" (some .long)) {G : gG} {n : Nat} {r : Int64} {H : Heap} {locs : List Loc} (hI : g_I E (g_A G0 n0) G n s.heap H locs) {x0 : Int32} {x1 : Int64} {x3 : Int64} (h : f_X6_reckoned_276 x0 x1 x3 = some r) {ls : Array Slot} (hl : lv_has ls 8 [(0, .int x0), (1, .long x1), (3, .long x3)]) : W p l e rm_X6_reckoned s m args below meth c H locs 0 0 (MQ below (g_Q E G0 n0 (some (.long r)) G n) args s rm_X6_reckoned.cells rm_X6_reckoned.slots (g_A G0 n0)) (F0 m 276 ls []) := by
  have hx := X.1
  have hb := X.2.1
  unfold f_X6_reckoned_276 at h
  refine lv_iload_n hx hb dX6_reckoned_276 rfl (lv_at hl 0 rfl) ?_
  refine lv_lload_n hx hb dX6_reckoned_277 rfl (lv_at hl 1 rfl) ?_
  refine lv_lload_n hx hb dX6_reckoned_278 rfl (lv_at hl 2 rfl) ?_
  refine g_callS X hI (av := [.int x0, .long x1, .long x3]) (c_X6_extreme x0 x1 x3) gm_X6_extreme tw_4_47 tw_4_48 ⟨by decide, by decide⟩ hl.1 (rest := []) rfl (Nat.le_of_ble_eq_true rfl) dX6_reckoned_279 ⟨by decide, by decide⟩ (st1 := [.long (f_X6_extreme x0 x1 x3)]) rfl (cells' := 0) (slots' := 0) rfl rfl (fun H locs hI => ?_)
  have h := Option.some.inj h
  subst h
  exact g_lret X hI dX6_reckoned_282
def f_X6_reckoned_267 (x1 : Int64) (s0 : Int32) : Option Int64 :=
  some (f_X6_signed s0 (x1 &&& 9223372036854775807))
set_option maxHeartbeats 4000000 in
set_option maxRecDepth 100000 in
theorem b_X6_reckoned_267 {p : Program} {l : Launch} {e : Env} {s : State} {m : MethodId} {args : Array Value} {below : List Frame} {meth : Method} {c : Code} {E : gE} {G0 : gG} {n0 : Nat} (X : g_X E G0 n0 p s m args meth c cX6_reckoned 8 RX6 "reckoned" (some .long)) {G : gG} {n : Nat} {r : Int64} {H : Heap} {locs : List Loc} (hI : g_I E (g_A G0 n0) G n s.heap H locs) {x1 : Int64} {s0 : Int32} (h : f_X6_reckoned_267 x1 s0 = some r) {ls : Array Slot} (hl : lv_has ls 8 [(1, .long x1)]) : W p l e rm_X6_reckoned s m args below meth c H locs 0 0 (MQ below (g_Q E G0 n0 (some (.long r)) G n) args s rm_X6_reckoned.cells rm_X6_reckoned.slots (g_A G0 n0)) (F0 m 267 ls [.int s0]) := by
  have hx := X.1
  have hb := X.2.1
  unfold f_X6_reckoned_267 at h
  refine lv_lload_n hx hb dX6_reckoned_267 rfl (lv_at hl 0 rfl) ?_
  refine lv_ldc2 (v := 9223372036854775807) hx hb X.2.2.2.1 (X.2.2.2.2.1 _ tw_3_140) dX6_reckoned_268 ?_
  refine lv_land (x := x1) (y := 9223372036854775807) hx hb dX6_reckoned_271 ?_
  refine g_callS X hI (av := [.int s0, .long (x1 &&& 9223372036854775807)]) (c_X6_signed s0 (x1 &&& 9223372036854775807)) gm_X6_signed tw_3_207 tw_3_208 ⟨by decide, by decide⟩ hl.1 (rest := []) rfl (Nat.le_of_ble_eq_true rfl) dX6_reckoned_272 ⟨by decide, by decide⟩ (st1 := [.long (f_X6_signed s0 (x1 &&& 9223372036854775807))]) rfl (cells' := 0) (slots' := 0) rfl rfl (fun H locs hI => ?_)
  have h := Option.some.inj h
  subst h
  exact g_lret X hI dX6_reckoned_275
def f_X6_reckoned_266 (x1 : Int64) : Option Int64 :=
  f_X6_reckoned_267 x1 0
set_option maxHeartbeats 4000000 in
set_option maxRecDepth 100000 in
theorem b_X6_reckoned_266 {p : Program} {l : Launch} {e : Env} {s : State} {m : MethodId} {args : Array Value} {below : List Frame} {meth : Method} {c : Code} {E : gE} {G0 : gG} {n0 : Nat} (X : g_X E G0 n0 p s m args meth c cX6_reckoned 8 RX6 "reckoned" (some .long)) {G : gG} {n : Nat} {r : Int64} {H : Heap} {locs : List Loc} (hI : g_I E (g_A G0 n0) G n s.heap H locs) {x1 : Int64} (h : f_X6_reckoned_266 x1 = some r) {ls : Array Slot} (hl : lv_has ls 8 [(1, .long x1)]) : W p l e rm_X6_reckoned s m args below meth c H locs 0 0 (MQ below (g_Q E G0 n0 (some (.long r)) G n) args s rm_X6_reckoned.cells rm_X6_reckoned.slots (g_A G0 n0)) (F0 m 266 ls []) := by
  have hx := X.1
  have hb := X.2.1
  unfold f_X6_reckoned_266 at h
  refine lv_iconst (v := 0) hx hb dX6_reckoned_266 (by decide) ?_
  exact b_X6_reckoned_267 X hI h (lv_sub hl [0] rfl)
def f_X6_reckoned_219 (x3 : Int64) (x5 : Int32) (x6 : Int64) (s0 : Int32) (s1 : Int32) : Option Int64 :=
  if s1 = s0 then
    some x6
  else
  gb (f_X6_plus x6 x3 x5) fun r1 =>
  some r1
set_option maxHeartbeats 4000000 in
set_option maxRecDepth 100000 in
theorem b_X6_reckoned_219 {p : Program} {l : Launch} {e : Env} {s : State} {m : MethodId} {args : Array Value} {below : List Frame} {meth : Method} {c : Code} {E : gE} {G0 : gG} {n0 : Nat} (X : g_X E G0 n0 p s m args meth c cX6_reckoned 8 RX6 "reckoned" (some .long)) {G : gG} {n : Nat} {r : Int64} {H : Heap} {locs : List Loc} (hI : g_I E (g_A G0 n0) G n s.heap H locs) {x3 : Int64} {x5 : Int32} {x6 : Int64} {s0 : Int32} {s1 : Int32} (h : f_X6_reckoned_219 x3 x5 x6 s0 s1 = some r) {ls : Array Slot} (hl : lv_has ls 8 [(3, .long x3), (5, .int x5), (6, .long x6)]) : W p l e rm_X6_reckoned s m args below meth c H locs 0 0 (MQ below (g_Q E G0 n0 (some (.long r)) G n) args s rm_X6_reckoned.cells rm_X6_reckoned.slots (g_A G0 n0)) (F0 m 219 ls [.int s0, .int s1]) := by
  have hx := X.1
  have hb := X.2.1
  unfold f_X6_reckoned_219 at h
  refine lv_icmp_eq (tgt := 233) hx hb dX6_reckoned_219 (by decide) (fun c => ?_) (fun c => ?_)
  · have h := g_t _ c h
    refine lv_lload hx hb dX6_reckoned_233 (lv_at hl 2 rfl) ?_
    have h := Option.some.inj h
    subst h
    exact g_lret X hI dX6_reckoned_235
  · have h := g_f _ c h
    refine lv_lload hx hb dX6_reckoned_222 (lv_at hl 2 rfl) ?_
    refine lv_lload_n hx hb dX6_reckoned_224 rfl (lv_at hl 0 rfl) ?_
    refine lv_iload hx hb dX6_reckoned_225 (lv_at hl 1 rfl) ?_
    obtain ⟨r1, er1, h⟩ := gb_s h
    refine g_callS X hI (av := [.long x6, .long x3, .int x5]) (c_X6_plus er1) gm_X6_plus tw_4_26 tw_4_27 ⟨by decide, by decide⟩ hl.1 (rest := []) rfl (Nat.le_of_ble_eq_true rfl) dX6_reckoned_227 ⟨by decide, by decide⟩ (st1 := [.long r1]) rfl (cells' := 0) (slots' := 0) rfl rfl (fun H locs hI => ?_)
    refine lv_goto (tgt := 235) hx hb dX6_reckoned_230 (by decide) ?_
    have h := Option.some.inj h
    subst h
    exact g_lret X hI dX6_reckoned_235
def f_X6_reckoned_208 (x3 : Int64) (x5 : Int32) (x6 : Int64) (s0 : Int32) : Option Int64 :=
  if (0 : Int64) ≤ x3 then
    f_X6_reckoned_219 x3 x5 x6 0 s0
  else
  f_X6_reckoned_219 x3 x5 x6 1 s0
set_option maxHeartbeats 4000000 in
set_option maxRecDepth 100000 in
theorem b_X6_reckoned_208 {p : Program} {l : Launch} {e : Env} {s : State} {m : MethodId} {args : Array Value} {below : List Frame} {meth : Method} {c : Code} {E : gE} {G0 : gG} {n0 : Nat} (X : g_X E G0 n0 p s m args meth c cX6_reckoned 8 RX6 "reckoned" (some .long)) {G : gG} {n : Nat} {r : Int64} {H : Heap} {locs : List Loc} (hI : g_I E (g_A G0 n0) G n s.heap H locs) {x3 : Int64} {x5 : Int32} {x6 : Int64} {s0 : Int32} (h : f_X6_reckoned_208 x3 x5 x6 s0 = some r) {ls : Array Slot} (hl : lv_has ls 8 [(3, .long x3), (5, .int x5), (6, .long x6)]) : W p l e rm_X6_reckoned s m args below meth c H locs 0 0 (MQ below (g_Q E G0 n0 (some (.long r)) G n) args s rm_X6_reckoned.cells rm_X6_reckoned.slots (g_A G0 n0)) (F0 m 208 ls [.int s0]) := by
  have hx := X.1
  have hb := X.2.1
  unfold f_X6_reckoned_208 at h
  refine lv_lload_n hx hb dX6_reckoned_208 rfl (lv_at hl 0 rfl) ?_
  refine lv_lconst (v := 0) hx hb dX6_reckoned_209 (by decide) ?_
  refine W.lcmp hx hb dX6_reckoned_210 ?_
  refine lv_if_ge (tgt := 218) hx hb dX6_reckoned_211 (by decide) (fun c => ?_) (fun c => ?_)
  · have h := g_t _ ((lg_cmp_ge _ _).mp c) h
    refine lv_iconst (v := 0) hx hb dX6_reckoned_218 (by decide) ?_
    exact b_X6_reckoned_219 X hI h (lv_sub hl [0, 1, 2] rfl)
  · have h := g_f _ (fun q => c ((lg_cmp_ge _ _).mpr q)) h
    refine lv_iconst (v := 1) hx hb dX6_reckoned_214 (by decide) ?_
    refine lv_goto (tgt := 219) hx hb dX6_reckoned_215 (by decide) ?_
    exact b_X6_reckoned_219 X hI h (lv_sub hl [0, 1, 2] rfl)
def f_X6_reckoned (a0 : Int32) (a1 : Int64) (a3 : Int64) (a5 : Int32) : Option Int64 :=
  if a0 = 0 then
    gb (f_X6_plus a1 a3 a5) fun r1 =>
    some r1
  else
  if a0 = 1 then
    gb (f_X6_plus a1 (f_X6_other a3) a5) fun r2 =>
    some r2
  else
  if a0 = 2 then
    gb (f_X6_times a1 a3 a5) fun r3 =>
    some r3
  else
  if a0 = 3 then
    gb (f_X6_over a1 a3 a5) fun r4 =>
    some r4
  else
  if a0 = 4 then
    gb (f_X6_over a1 a3 a5) fun r5 =>
    gb (f_X6_cut r5 (3 : Int32)) fun r6 =>
    some r6
  else
  if a0 = 5 then
    gb (f_X6_over a1 a3 a5) fun r7 =>
    gb (f_X6_cut r7 (0 : Int32)) fun r8 =>
    some r8
  else
  if a0 = 6 then
    gb (f_X6_left a1 a3) fun r9 =>
    some r9
  else
  if a0 = 7 then
    gb (f_X6_left a1 a3) fun r10 =>
    if (f_X6_isNan r10) = 0 then
      if (f_X6_isZero r10) = 0 then
        if (0 : Int64) ≤ r10 then
          f_X6_reckoned_208 a3 a5 r10 0
        else
        f_X6_reckoned_208 a3 a5 r10 1
      else
      some r10
    else
    some r10
  else
  if a0 = 8 then
    f_X6_reckoned_276 a0 a1 a3
  else
  if a0 = 9 then
    f_X6_reckoned_276 a0 a1 a3
  else
  if a0 = 10 then
    f_X6_reckoned_276 a0 a1 a3
  else
  if a0 = 11 then
    f_X6_reckoned_276 a0 a1 a3
  else
  if a0 = 12 then
    f_X6_reckoned_276 a0 a1 a3
  else
  if a0 = 13 then
    f_X6_reckoned_276 a0 a1 a3
  else
  if a0 = 14 then
    f_X6_reckoned_276 a0 a1 a3
  else
  if a0 = 15 then
    f_X6_reckoned_276 a0 a1 a3
  else
  if a0 = 16 then
    f_X6_reckoned_276 a0 a1 a3
  else
  if a0 = 17 then
    f_X6_reckoned_276 a0 a1 a3
  else
  if a0 = 18 then
    f_X6_reckoned_276 a0 a1 a3
  else
  if a0 = 19 then
    f_X6_reckoned_276 a0 a1 a3
  else
  if a0 = 20 then
    f_X6_reckoned_276 a0 a1 a3
  else
  if a0 = 21 then
    f_X6_reckoned_276 a0 a1 a3
  else
  if a0 = 22 then
    if (f_X6_isNan a1) = 0 then
      if (f_X6_isNan a3) = 0 then
        if (0 : Int64) ≤ a3 then
          f_X6_reckoned_266 a1
        else
        f_X6_reckoned_267 a1 1
      else
      f_X6_reckoned_266 a1
    else
    some 9221120237041090560
  else
  f_X6_reckoned_276 a0 a1 a3
theorem gm_X6_reckoned : g_M yX6_reckoned cX6_reckoned 8 (some .long) 4 := ⟨tw_4_25, tw_1_5, by decide +kernel, Or.inl (by decide +kernel)⟩
set_option maxHeartbeats 4000000 in
set_option maxRecDepth 100000 in
theorem c_X6_reckoned {l : Launch} {E : gE} {G : gG} {n : Nat} {a0 : Int32} {a1 : Int64} {a3 : Int64} {a5 : Int32} {r : Int64} (h : f_X6_reckoned a0 a1 a3 a5 = some r) : g_Met l yX6_reckoned cX6_reckoned 8 (some .long) rm_X6_reckoned E G n [.int a0, .long a1, .long a3, .int a5] (some (.long r)) G n := by
  refine g_ofW gm_X6_reckoned (Nat.le_of_ble_eq_true rfl) ?_
  intro p e s m below meth c ls X hl hI
  have hx := X.1
  have hb := X.2.1
  have X : g_X E G n p s m _ meth c cX6_reckoned 8 RX6 "reckoned" (some .long) := X
  have hl : lv_has ls 8 [(0, .int a0), (1, .long a1), (3, .long a3), (5, .int a5)] := hl
  unfold f_X6_reckoned at h
  refine lv_iload_n hx hb dX6_reckoned_0 rfl (lv_at hl 0 rfl) ?_
  by_cases c0 : a0 = 0
  · have h := g_t _ c0 h
    refine lv_tableIn (off := 107) (tgt := 108) hx hb dX6_reckoned_1 (by rw [c0]; decide) (by rw [c0]; decide) (by rw [c0]; rfl) (by decide) ?_
    refine lv_lload_n hx hb dX6_reckoned_108 rfl (lv_at hl 1 rfl) ?_
    refine lv_lload_n hx hb dX6_reckoned_109 rfl (lv_at hl 2 rfl) ?_
    refine lv_iload hx hb dX6_reckoned_110 (lv_at hl 3 rfl) ?_
    obtain ⟨r1, er1, h⟩ := gb_s h
    refine g_callS X hI (av := [.long a1, .long a3, .int a5]) (c_X6_plus er1) gm_X6_plus tw_4_26 tw_4_27 ⟨by decide, by decide⟩ hl.1 (rest := []) rfl (Nat.le_of_ble_eq_true rfl) dX6_reckoned_112 ⟨by decide, by decide⟩ (st1 := [.long r1]) rfl (cells' := 0) (slots' := 0) rfl rfl (fun H locs hI => ?_)
    have h := Option.some.inj h
    subst h
    exact g_lret X hI dX6_reckoned_115
  · have h := g_f _ c0 h
    by_cases c1 : a0 = 1
    · have h := g_t _ c1 h
      refine lv_tableIn (off := 115) (tgt := 116) hx hb dX6_reckoned_1 (by rw [c1]; decide) (by rw [c1]; decide) (by rw [c1]; rfl) (by decide) ?_
      refine lv_lload_n hx hb dX6_reckoned_116 rfl (lv_at hl 1 rfl) ?_
      refine lv_lload_n hx hb dX6_reckoned_117 rfl (lv_at hl 2 rfl) ?_
      refine g_callS X hI (av := [.long a3]) (c_X6_other a3) gm_X6_other tw_4_29 tw_4_30 ⟨by decide, by decide⟩ hl.1 (rest := [.long a1]) rfl (Nat.le_of_ble_eq_true rfl) dX6_reckoned_118 ⟨by decide, by decide⟩ (st1 := [.long (f_X6_other a3), .long a1]) rfl (cells' := 0) (slots' := 0) rfl rfl (fun H locs hI => ?_)
      refine lv_iload hx hb dX6_reckoned_121 (lv_at hl 3 rfl) ?_
      obtain ⟨r2, er2, h⟩ := gb_s h
      refine g_callS X hI (av := [.long a1, .long (f_X6_other a3), .int a5]) (c_X6_plus er2) gm_X6_plus tw_4_26 tw_4_27 ⟨by decide, by decide⟩ hl.1 (rest := []) rfl (Nat.le_of_ble_eq_true rfl) dX6_reckoned_123 ⟨by decide, by decide⟩ (st1 := [.long r2]) rfl (cells' := 0) (slots' := 0) rfl rfl (fun H locs hI => ?_)
      have h := Option.some.inj h
      subst h
      exact g_lret X hI dX6_reckoned_126
    · have h := g_f _ c1 h
      by_cases c2 : a0 = 2
      · have h := g_t _ c2 h
        refine lv_tableIn (off := 126) (tgt := 127) hx hb dX6_reckoned_1 (by rw [c2]; decide) (by rw [c2]; decide) (by rw [c2]; rfl) (by decide) ?_
        refine lv_lload_n hx hb dX6_reckoned_127 rfl (lv_at hl 1 rfl) ?_
        refine lv_lload_n hx hb dX6_reckoned_128 rfl (lv_at hl 2 rfl) ?_
        refine lv_iload hx hb dX6_reckoned_129 (lv_at hl 3 rfl) ?_
        obtain ⟨r3, er3, h⟩ := gb_s h
        refine g_callS X hI (av := [.long a1, .long a3, .int a5]) (c_X6_times er3) gm_X6_times tw_4_32 tw_4_33 ⟨by decide, by decide⟩ hl.1 (rest := []) rfl (Nat.le_of_ble_eq_true rfl) dX6_reckoned_131 ⟨by decide, by decide⟩ (st1 := [.long r3]) rfl (cells' := 0) (slots' := 0) rfl rfl (fun H locs hI => ?_)
        have h := Option.some.inj h
        subst h
        exact g_lret X hI dX6_reckoned_134
      · have h := g_f _ c2 h
        by_cases c3 : a0 = 3
        · have h := g_t _ c3 h
          refine lv_tableIn (off := 134) (tgt := 135) hx hb dX6_reckoned_1 (by rw [c3]; decide) (by rw [c3]; decide) (by rw [c3]; rfl) (by decide) ?_
          refine lv_lload_n hx hb dX6_reckoned_135 rfl (lv_at hl 1 rfl) ?_
          refine lv_lload_n hx hb dX6_reckoned_136 rfl (lv_at hl 2 rfl) ?_
          refine lv_iload hx hb dX6_reckoned_137 (lv_at hl 3 rfl) ?_
          obtain ⟨r4, er4, h⟩ := gb_s h
          refine g_callS X hI (av := [.long a1, .long a3, .int a5]) (c_X6_over er4) gm_X6_over tw_4_37 tw_4_38 ⟨by decide, by decide⟩ hl.1 (rest := []) rfl (Nat.le_of_ble_eq_true rfl) dX6_reckoned_139 ⟨by decide, by decide⟩ (st1 := [.long r4]) rfl (cells' := 0) (slots' := 0) rfl rfl (fun H locs hI => ?_)
          have h := Option.some.inj h
          subst h
          exact g_lret X hI dX6_reckoned_142
        · have h := g_f _ c3 h
          by_cases c4 : a0 = 4
          · have h := g_t _ c4 h
            refine lv_tableIn (off := 142) (tgt := 143) hx hb dX6_reckoned_1 (by rw [c4]; decide) (by rw [c4]; decide) (by rw [c4]; rfl) (by decide) ?_
            refine lv_lload_n hx hb dX6_reckoned_143 rfl (lv_at hl 1 rfl) ?_
            refine lv_lload_n hx hb dX6_reckoned_144 rfl (lv_at hl 2 rfl) ?_
            refine lv_iload hx hb dX6_reckoned_145 (lv_at hl 3 rfl) ?_
            obtain ⟨r5, er5, h⟩ := gb_s h
            refine g_callS X hI (av := [.long a1, .long a3, .int a5]) (c_X6_over er5) gm_X6_over tw_4_37 tw_4_38 ⟨by decide, by decide⟩ hl.1 (rest := []) rfl (Nat.le_of_ble_eq_true rfl) dX6_reckoned_147 ⟨by decide, by decide⟩ (st1 := [.long r5]) rfl (cells' := 0) (slots' := 0) rfl rfl (fun H locs hI => ?_)
            refine lv_iconst (v := 3) hx hb dX6_reckoned_150 (by decide) ?_
            obtain ⟨r6, er6, h⟩ := gb_s h
            refine g_callS X hI (av := [.long r5, .int 3]) (c_X6_cut er6) gm_X6_cut tw_4_40 tw_4_41 ⟨by decide, by decide⟩ hl.1 (rest := []) rfl (Nat.le_of_ble_eq_true rfl) dX6_reckoned_151 ⟨by decide, by decide⟩ (st1 := [.long r6]) rfl (cells' := 0) (slots' := 0) rfl rfl (fun H locs hI => ?_)
            have h := Option.some.inj h
            subst h
            exact g_lret X hI dX6_reckoned_154
          · have h := g_f _ c4 h
            by_cases c5 : a0 = 5
            · have h := g_t _ c5 h
              refine lv_tableIn (off := 154) (tgt := 155) hx hb dX6_reckoned_1 (by rw [c5]; decide) (by rw [c5]; decide) (by rw [c5]; rfl) (by decide) ?_
              refine lv_lload_n hx hb dX6_reckoned_155 rfl (lv_at hl 1 rfl) ?_
              refine lv_lload_n hx hb dX6_reckoned_156 rfl (lv_at hl 2 rfl) ?_
              refine lv_iload hx hb dX6_reckoned_157 (lv_at hl 3 rfl) ?_
              obtain ⟨r7, er7, h⟩ := gb_s h
              refine g_callS X hI (av := [.long a1, .long a3, .int a5]) (c_X6_over er7) gm_X6_over tw_4_37 tw_4_38 ⟨by decide, by decide⟩ hl.1 (rest := []) rfl (Nat.le_of_ble_eq_true rfl) dX6_reckoned_159 ⟨by decide, by decide⟩ (st1 := [.long r7]) rfl (cells' := 0) (slots' := 0) rfl rfl (fun H locs hI => ?_)
              refine lv_iconst (v := 0) hx hb dX6_reckoned_162 (by decide) ?_
              obtain ⟨r8, er8, h⟩ := gb_s h
              refine g_callS X hI (av := [.long r7, .int 0]) (c_X6_cut er8) gm_X6_cut tw_4_40 tw_4_41 ⟨by decide, by decide⟩ hl.1 (rest := []) rfl (Nat.le_of_ble_eq_true rfl) dX6_reckoned_163 ⟨by decide, by decide⟩ (st1 := [.long r8]) rfl (cells' := 0) (slots' := 0) rfl rfl (fun H locs hI => ?_)
              have h := Option.some.inj h
              subst h
              exact g_lret X hI dX6_reckoned_166
            · have h := g_f _ c5 h
              by_cases c6 : a0 = 6
              · have h := g_t _ c6 h
                refine lv_tableIn (off := 166) (tgt := 167) hx hb dX6_reckoned_1 (by rw [c6]; decide) (by rw [c6]; decide) (by rw [c6]; rfl) (by decide) ?_
                refine lv_lload_n hx hb dX6_reckoned_167 rfl (lv_at hl 1 rfl) ?_
                refine lv_lload_n hx hb dX6_reckoned_168 rfl (lv_at hl 2 rfl) ?_
                obtain ⟨r9, er9, h⟩ := gb_s h
                refine g_callS X hI (av := [.long a1, .long a3]) (c_X6_left er9) gm_X6_left tw_4_43 tw_4_44 ⟨by decide, by decide⟩ hl.1 (rest := []) rfl (Nat.le_of_ble_eq_true rfl) dX6_reckoned_169 ⟨by decide, by decide⟩ (st1 := [.long r9]) rfl (cells' := 0) (slots' := 0) rfl rfl (fun H locs hI => ?_)
                have h := Option.some.inj h
                subst h
                exact g_lret X hI dX6_reckoned_172
              · have h := g_f _ c6 h
                by_cases c7 : a0 = 7
                · have h := g_t _ c7 h
                  refine lv_tableIn (off := 172) (tgt := 173) hx hb dX6_reckoned_1 (by rw [c7]; decide) (by rw [c7]; decide) (by rw [c7]; rfl) (by decide) ?_
                  refine lv_lload_n hx hb dX6_reckoned_173 rfl (lv_at hl 1 rfl) ?_
                  refine lv_lload_n hx hb dX6_reckoned_174 rfl (lv_at hl 2 rfl) ?_
                  obtain ⟨r10, er10, h⟩ := gb_s h
                  refine g_callS X hI (av := [.long a1, .long a3]) (c_X6_left er10) gm_X6_left tw_4_43 tw_4_44 ⟨by decide, by decide⟩ hl.1 (rest := []) rfl (Nat.le_of_ble_eq_true rfl) dX6_reckoned_175 ⟨by decide, by decide⟩ (st1 := [.long r10]) rfl (cells' := 0) (slots' := 0) rfl rfl (fun H locs hI => ?_)
                  refine lv_lstore (lv' := [(6, .long r10), (0, .int a0), (1, .long a1), (3, .long a3), (5, .int a5)]) hx hb dX6_reckoned_178 hl (by decide) rfl (fun ls hl => ?_)
                  refine lv_lload hx hb dX6_reckoned_180 (lv_at hl 0 rfl) ?_
                  refine g_callS X hI (av := [.long r10]) (c_X6_isNan r10) gm_X6_isNan tw_3_137 tw_3_138 ⟨by decide, by decide⟩ hl.1 (rest := []) rfl (Nat.le_of_ble_eq_true rfl) dX6_reckoned_182 ⟨by decide, by decide⟩ (st1 := [.int (f_X6_isNan r10)]) rfl (cells' := 0) (slots' := 0) rfl rfl (fun H locs hI => ?_)
                  refine lv_if_ne (tgt := 233) hx hb dX6_reckoned_185 (by decide) (fun c => ?_) (fun c => ?_)
                  · have h := g_f _ c h
                    refine lv_lload hx hb dX6_reckoned_233 (lv_at hl 0 rfl) ?_
                    have h := Option.some.inj h
                    subst h
                    exact g_lret X hI dX6_reckoned_235
                  · have h := g_t _ c h
                    refine lv_lload hx hb dX6_reckoned_188 (lv_at hl 0 rfl) ?_
                    refine g_callS X hI (av := [.long r10]) (c_X6_isZero r10) gm_X6_isZero tw_4_1 tw_4_2 ⟨by decide, by decide⟩ hl.1 (rest := []) rfl (Nat.le_of_ble_eq_true rfl) dX6_reckoned_190 ⟨by decide, by decide⟩ (st1 := [.int (f_X6_isZero r10)]) rfl (cells' := 0) (slots' := 0) rfl rfl (fun H locs hI => ?_)
                    refine lv_if_ne (tgt := 233) hx hb dX6_reckoned_193 (by decide) (fun c => ?_) (fun c => ?_)
                    · have h := g_f _ c h
                      refine lv_lload hx hb dX6_reckoned_233 (lv_at hl 0 rfl) ?_
                      have h := Option.some.inj h
                      subst h
                      exact g_lret X hI dX6_reckoned_235
                    · have h := g_t _ c h
                      refine lv_lload hx hb dX6_reckoned_196 (lv_at hl 0 rfl) ?_
                      refine lv_lconst (v := 0) hx hb dX6_reckoned_198 (by decide) ?_
                      refine W.lcmp hx hb dX6_reckoned_199 ?_
                      refine lv_if_ge (tgt := 207) hx hb dX6_reckoned_200 (by decide) (fun c => ?_) (fun c => ?_)
                      · have h := g_t _ ((lg_cmp_ge _ _).mp c) h
                        refine lv_iconst (v := 0) hx hb dX6_reckoned_207 (by decide) ?_
                        exact b_X6_reckoned_208 X hI h (lv_sub hl [3, 4, 0] rfl)
                      · have h := g_f _ (fun q => c ((lg_cmp_ge _ _).mpr q)) h
                        refine lv_iconst (v := 1) hx hb dX6_reckoned_203 (by decide) ?_
                        refine lv_goto (tgt := 208) hx hb dX6_reckoned_204 (by decide) ?_
                        exact b_X6_reckoned_208 X hI h (lv_sub hl [3, 4, 0] rfl)
                · have h := g_f _ c7 h
                  by_cases c8 : a0 = 8
                  · have h := g_t _ c8 h
                    refine lv_tableIn (off := 275) (tgt := 276) hx hb dX6_reckoned_1 (by rw [c8]; decide) (by rw [c8]; decide) (by rw [c8]; rfl) (by decide) ?_
                    exact b_X6_reckoned_276 X hI h (lv_sub hl [0, 1, 2] rfl)
                  · have h := g_f _ c8 h
                    by_cases c9 : a0 = 9
                    · have h := g_t _ c9 h
                      refine lv_tableIn (off := 275) (tgt := 276) hx hb dX6_reckoned_1 (by rw [c9]; decide) (by rw [c9]; decide) (by rw [c9]; rfl) (by decide) ?_
                      exact b_X6_reckoned_276 X hI h (lv_sub hl [0, 1, 2] rfl)
                    · have h := g_f _ c9 h
                      by_cases c10 : a0 = 10
                      · have h := g_t _ c10 h
                        refine lv_tableIn (off := 275) (tgt := 276) hx hb dX6_reckoned_1 (by rw [c10]; decide) (by rw [c10]; decide) (by rw [c10]; rfl) (by decide) ?_
                        exact b_X6_reckoned_276 X hI h (lv_sub hl [0, 1, 2] rfl)
                      · have h := g_f _ c10 h
                        by_cases c11 : a0 = 11
                        · have h := g_t _ c11 h
                          refine lv_tableIn (off := 275) (tgt := 276) hx hb dX6_reckoned_1 (by rw [c11]; decide) (by rw [c11]; decide) (by rw [c11]; rfl) (by decide) ?_
                          exact b_X6_reckoned_276 X hI h (lv_sub hl [0, 1, 2] rfl)
                        · have h := g_f _ c11 h
                          by_cases c12 : a0 = 12
                          · have h := g_t _ c12 h
                            refine lv_tableIn (off := 275) (tgt := 276) hx hb dX6_reckoned_1 (by rw [c12]; decide) (by rw [c12]; decide) (by rw [c12]; rfl) (by decide) ?_
                            exact b_X6_reckoned_276 X hI h (lv_sub hl [0, 1, 2] rfl)
                          · have h := g_f _ c12 h
                            by_cases c13 : a0 = 13
                            · have h := g_t _ c13 h
                              refine lv_tableIn (off := 275) (tgt := 276) hx hb dX6_reckoned_1 (by rw [c13]; decide) (by rw [c13]; decide) (by rw [c13]; rfl) (by decide) ?_
                              exact b_X6_reckoned_276 X hI h (lv_sub hl [0, 1, 2] rfl)
                            · have h := g_f _ c13 h
                              by_cases c14 : a0 = 14
                              · have h := g_t _ c14 h
                                refine lv_tableIn (off := 275) (tgt := 276) hx hb dX6_reckoned_1 (by rw [c14]; decide) (by rw [c14]; decide) (by rw [c14]; rfl) (by decide) ?_
                                exact b_X6_reckoned_276 X hI h (lv_sub hl [0, 1, 2] rfl)
                              · have h := g_f _ c14 h
                                by_cases c15 : a0 = 15
                                · have h := g_t _ c15 h
                                  refine lv_tableIn (off := 275) (tgt := 276) hx hb dX6_reckoned_1 (by rw [c15]; decide) (by rw [c15]; decide) (by rw [c15]; rfl) (by decide) ?_
                                  exact b_X6_reckoned_276 X hI h (lv_sub hl [0, 1, 2] rfl)
                                · have h := g_f _ c15 h
                                  by_cases c16 : a0 = 16
                                  · have h := g_t _ c16 h
                                    refine lv_tableIn (off := 275) (tgt := 276) hx hb dX6_reckoned_1 (by rw [c16]; decide) (by rw [c16]; decide) (by rw [c16]; rfl) (by decide) ?_
                                    exact b_X6_reckoned_276 X hI h (lv_sub hl [0, 1, 2] rfl)
                                  · have h := g_f _ c16 h
                                    by_cases c17 : a0 = 17
                                    · have h := g_t _ c17 h
                                      refine lv_tableIn (off := 275) (tgt := 276) hx hb dX6_reckoned_1 (by rw [c17]; decide) (by rw [c17]; decide) (by rw [c17]; rfl) (by decide) ?_
                                      exact b_X6_reckoned_276 X hI h (lv_sub hl [0, 1, 2] rfl)
                                    · have h := g_f _ c17 h
                                      by_cases c18 : a0 = 18
                                      · have h := g_t _ c18 h
                                        refine lv_tableIn (off := 275) (tgt := 276) hx hb dX6_reckoned_1 (by rw [c18]; decide) (by rw [c18]; decide) (by rw [c18]; rfl) (by decide) ?_
                                        exact b_X6_reckoned_276 X hI h (lv_sub hl [0, 1, 2] rfl)
                                      · have h := g_f _ c18 h
                                        by_cases c19 : a0 = 19
                                        · have h := g_t _ c19 h
                                          refine lv_tableIn (off := 275) (tgt := 276) hx hb dX6_reckoned_1 (by rw [c19]; decide) (by rw [c19]; decide) (by rw [c19]; rfl) (by decide) ?_
                                          exact b_X6_reckoned_276 X hI h (lv_sub hl [0, 1, 2] rfl)
                                        · have h := g_f _ c19 h
                                          by_cases c20 : a0 = 20
                                          · have h := g_t _ c20 h
                                            refine lv_tableIn (off := 275) (tgt := 276) hx hb dX6_reckoned_1 (by rw [c20]; decide) (by rw [c20]; decide) (by rw [c20]; rfl) (by decide) ?_
                                            exact b_X6_reckoned_276 X hI h (lv_sub hl [0, 1, 2] rfl)
                                          · have h := g_f _ c20 h
                                            by_cases c21 : a0 = 21
                                            · have h := g_t _ c21 h
                                              refine lv_tableIn (off := 275) (tgt := 276) hx hb dX6_reckoned_1 (by rw [c21]; decide) (by rw [c21]; decide) (by rw [c21]; rfl) (by decide) ?_
                                              exact b_X6_reckoned_276 X hI h (lv_sub hl [0, 1, 2] rfl)
                                            · have h := g_f _ c21 h
                                              by_cases c22 : a0 = 22
                                              · have h := g_t _ c22 h
                                                refine lv_tableIn (off := 235) (tgt := 236) hx hb dX6_reckoned_1 (by rw [c22]; decide) (by rw [c22]; decide) (by rw [c22]; rfl) (by decide) ?_
                                                refine lv_lload_n hx hb dX6_reckoned_236 rfl (lv_at hl 1 rfl) ?_
                                                refine g_callS X hI (av := [.long a1]) (c_X6_isNan a1) gm_X6_isNan tw_3_137 tw_3_138 ⟨by decide, by decide⟩ hl.1 (rest := []) rfl (Nat.le_of_ble_eq_true rfl) dX6_reckoned_237 ⟨by decide, by decide⟩ (st1 := [.int (f_X6_isNan a1)]) rfl (cells' := 0) (slots' := 0) rfl rfl (fun H locs hI => ?_)
                                                refine lv_if_eq (tgt := 249) hx hb dX6_reckoned_240 (by decide) (fun c => ?_) (fun c => ?_)
                                                · have h := g_t _ c h
                                                  refine lv_lload_n hx hb dX6_reckoned_249 rfl (lv_at hl 2 rfl) ?_
                                                  refine g_callS X hI (av := [.long a3]) (c_X6_isNan a3) gm_X6_isNan tw_3_137 tw_3_138 ⟨by decide, by decide⟩ hl.1 (rest := []) rfl (Nat.le_of_ble_eq_true rfl) dX6_reckoned_250 ⟨by decide, by decide⟩ (st1 := [.int (f_X6_isNan a3)]) rfl (cells' := 0) (slots' := 0) rfl rfl (fun H locs hI => ?_)
                                                  refine lv_if_ne (tgt := 266) hx hb dX6_reckoned_253 (by decide) (fun c => ?_) (fun c => ?_)
                                                  · have h := g_f _ c h
                                                    exact b_X6_reckoned_266 X hI h (lv_sub hl [1] rfl)
                                                  · have h := g_t _ c h
                                                    refine lv_lload_n hx hb dX6_reckoned_256 rfl (lv_at hl 2 rfl) ?_
                                                    refine lv_lconst (v := 0) hx hb dX6_reckoned_257 (by decide) ?_
                                                    refine W.lcmp hx hb dX6_reckoned_258 ?_
                                                    refine lv_if_ge (tgt := 266) hx hb dX6_reckoned_259 (by decide) (fun c => ?_) (fun c => ?_)
                                                    · have h := g_t _ ((lg_cmp_ge _ _).mp c) h
                                                      exact b_X6_reckoned_266 X hI h (lv_sub hl [1] rfl)
                                                    · have h := g_f _ (fun q => c ((lg_cmp_ge _ _).mpr q)) h
                                                      refine lv_iconst (v := 1) hx hb dX6_reckoned_262 (by decide) ?_
                                                      refine lv_goto (tgt := 267) hx hb dX6_reckoned_263 (by decide) ?_
                                                      exact b_X6_reckoned_267 X hI h (lv_sub hl [1] rfl)
                                                · have h := g_f _ c h
                                                  refine lv_ldc2 (v := 9221120237041090560) hx hb X.2.2.2.1 (X.2.2.2.2.1 _ tw_3_142) dX6_reckoned_243 ?_
                                                  refine lv_goto (tgt := 275) hx hb dX6_reckoned_246 (by decide) ?_
                                                  have h := Option.some.inj h
                                                  subst h
                                                  exact g_lret X hI dX6_reckoned_275
                                              · have h := g_f _ c22 h
                                                refine lv_tableOut (tgt := 276) hx hb dX6_reckoned_1 (by have q0 := lv_neT (a := 0) c0 (by decide); have q1 := lv_neT (a := 1) c1 (by decide); have q2 := lv_neT (a := 2) c2 (by decide); have q3 := lv_neT (a := 3) c3 (by decide); have q4 := lv_neT (a := 4) c4 (by decide); have q5 := lv_neT (a := 5) c5 (by decide); have q6 := lv_neT (a := 6) c6 (by decide); have q7 := lv_neT (a := 7) c7 (by decide); have q8 := lv_neT (a := 8) c8 (by decide); have q9 := lv_neT (a := 9) c9 (by decide); have q10 := lv_neT (a := 10) c10 (by decide); have q11 := lv_neT (a := 11) c11 (by decide); have q12 := lv_neT (a := 12) c12 (by decide); have q13 := lv_neT (a := 13) c13 (by decide); have q14 := lv_neT (a := 14) c14 (by decide); have q15 := lv_neT (a := 15) c15 (by decide); have q16 := lv_neT (a := 16) c16 (by decide); have q17 := lv_neT (a := 17) c17 (by decide); have q18 := lv_neT (a := 18) c18 (by decide); have q19 := lv_neT (a := 19) c19 (by decide); have q20 := lv_neT (a := 20) c20 (by decide); have q21 := lv_neT (a := 21) c21 (by decide); have q22 := lv_neT (a := 22) c22 (by decide); omega) (by decide) ?_
                                                exact b_X6_reckoned_276 X hI h (lv_sub hl [0, 1, 2] rfl)
abbrev rm_X6_holds : Room := { frames := 3, cells := 0, slots := 0, locals := 76 }
def f_X6_holds_151 (x0 : Int32) (x6 : Int32) : Option Int32 :=
  if x0 = 18 then
    if (0 : Int32) ≤ x6 then
      some 0
    else
    some 1
  else
  if x0 = 19 then
    if (0 : Int32) < x6 then
      some 0
    else
    some 1
  else
  if x0 = 20 then
    if x6 = 0 then
      some 1
    else
    some 0
  else
  if x6 = 0 then
    some 0
  else
  some 1
set_option maxHeartbeats 4000000 in
set_option maxRecDepth 100000 in
theorem b_X6_holds_151 {p : Program} {l : Launch} {e : Env} {s : State} {m : MethodId} {args : Array Value} {below : List Frame} {meth : Method} {c : Code} {E : gE} {G0 : gG} {n0 : Nat} (X : g_X E G0 n0 p s m args meth c cX6_holds 11 RX6 "holds" (some .boolean)) {G : gG} {n : Nat} {r : Int32} {H : Heap} {locs : List Loc} (hI : g_I E (g_A G0 n0) G n s.heap H locs) {x0 : Int32} {x6 : Int32} (h : f_X6_holds_151 x0 x6 = some r) {ls : Array Slot} (hl : lv_has ls 11 [(0, .int x0), (6, .int x6)]) : W p l e rm_X6_holds s m args below meth c H locs 0 0 (MQ below (g_Q E G0 n0 (some (.int r)) G n) args s rm_X6_holds.cells rm_X6_holds.slots (g_A G0 n0)) (F0 m 151 ls []) := by
  have hx := X.1
  have hb := X.2.1
  unfold f_X6_holds_151 at h
  refine lv_iload_n hx hb dX6_holds_151 rfl (lv_at hl 0 rfl) ?_
  refine lv_bipush (v := 18) hx hb dX6_holds_152 (by decide) ?_
  refine lv_icmp_ne (tgt := 170) hx hb dX6_holds_154 (by decide) (fun c => ?_) (fun c => ?_)
  · have h := g_f _ c h
    refine lv_iload_n hx hb dX6_holds_170 rfl (lv_at hl 0 rfl) ?_
    refine lv_bipush (v := 19) hx hb dX6_holds_171 (by decide) ?_
    refine lv_icmp_ne (tgt := 189) hx hb dX6_holds_173 (by decide) (fun c => ?_) (fun c => ?_)
    · have h := g_f _ c h
      refine lv_iload_n hx hb dX6_holds_189 rfl (lv_at hl 0 rfl) ?_
      refine lv_bipush (v := 20) hx hb dX6_holds_190 (by decide) ?_
      refine lv_icmp_ne (tgt := 208) hx hb dX6_holds_192 (by decide) (fun c => ?_) (fun c => ?_)
      · have h := g_f _ c h
        refine lv_iload hx hb dX6_holds_208 (lv_at hl 1 rfl) ?_
        refine lv_if_eq (tgt := 217) hx hb dX6_holds_210 (by decide) (fun c => ?_) (fun c => ?_)
        · have h := g_t _ c h
          refine lv_iconst (v := 0) hx hb dX6_holds_217 (by decide) ?_
          have h := Option.some.inj h
          subst h
          exact g_zret X hI (Or.inl rfl) dX6_holds_218
        · have h := g_f _ c h
          refine lv_iconst (v := 1) hx hb dX6_holds_213 (by decide) ?_
          refine lv_goto (tgt := 218) hx hb dX6_holds_214 (by decide) ?_
          have h := Option.some.inj h
          subst h
          exact g_zret X hI (Or.inr rfl) dX6_holds_218
      · have h := g_t _ c h
        refine lv_iload hx hb dX6_holds_195 (lv_at hl 1 rfl) ?_
        refine lv_if_ne (tgt := 204) hx hb dX6_holds_197 (by decide) (fun c => ?_) (fun c => ?_)
        · have h := g_f _ c h
          refine lv_iconst (v := 0) hx hb dX6_holds_204 (by decide) ?_
          refine lv_goto (tgt := 218) hx hb dX6_holds_205 (by decide) ?_
          have h := Option.some.inj h
          subst h
          exact g_zret X hI (Or.inl rfl) dX6_holds_218
        · have h := g_t _ c h
          refine lv_iconst (v := 1) hx hb dX6_holds_200 (by decide) ?_
          refine lv_goto (tgt := 218) hx hb dX6_holds_201 (by decide) ?_
          have h := Option.some.inj h
          subst h
          exact g_zret X hI (Or.inr rfl) dX6_holds_218
    · have h := g_t _ c h
      refine lv_iload hx hb dX6_holds_176 (lv_at hl 1 rfl) ?_
      refine lv_if_gt (tgt := 185) hx hb dX6_holds_178 (by decide) (fun c => ?_) (fun c => ?_)
      · have h := g_t _ c h
        refine lv_iconst (v := 0) hx hb dX6_holds_185 (by decide) ?_
        refine lv_goto (tgt := 218) hx hb dX6_holds_186 (by decide) ?_
        have h := Option.some.inj h
        subst h
        exact g_zret X hI (Or.inl rfl) dX6_holds_218
      · have h := g_f _ c h
        refine lv_iconst (v := 1) hx hb dX6_holds_181 (by decide) ?_
        refine lv_goto (tgt := 218) hx hb dX6_holds_182 (by decide) ?_
        have h := Option.some.inj h
        subst h
        exact g_zret X hI (Or.inr rfl) dX6_holds_218
  · have h := g_t _ c h
    refine lv_iload hx hb dX6_holds_157 (lv_at hl 1 rfl) ?_
    refine lv_if_ge (tgt := 166) hx hb dX6_holds_159 (by decide) (fun c => ?_) (fun c => ?_)
    · have h := g_t _ c h
      refine lv_iconst (v := 0) hx hb dX6_holds_166 (by decide) ?_
      refine lv_goto (tgt := 218) hx hb dX6_holds_167 (by decide) ?_
      have h := Option.some.inj h
      subst h
      exact g_zret X hI (Or.inl rfl) dX6_holds_218
    · have h := g_f _ c h
      refine lv_iconst (v := 1) hx hb dX6_holds_162 (by decide) ?_
      refine lv_goto (tgt := 218) hx hb dX6_holds_163 (by decide) ?_
      have h := Option.some.inj h
      subst h
      exact g_zret X hI (Or.inr rfl) dX6_holds_218
def f_X6_holds_149 (x0 : Int32) (s0 : Int32) : Option Int32 :=
  f_X6_holds_151 x0 s0
set_option maxHeartbeats 4000000 in
set_option maxRecDepth 100000 in
theorem b_X6_holds_149 {p : Program} {l : Launch} {e : Env} {s : State} {m : MethodId} {args : Array Value} {below : List Frame} {meth : Method} {c : Code} {E : gE} {G0 : gG} {n0 : Nat} (X : g_X E G0 n0 p s m args meth c cX6_holds 11 RX6 "holds" (some .boolean)) {G : gG} {n : Nat} {r : Int32} {H : Heap} {locs : List Loc} (hI : g_I E (g_A G0 n0) G n s.heap H locs) {x0 : Int32} {s0 : Int32} (h : f_X6_holds_149 x0 s0 = some r) {ls : Array Slot} (hl : lv_has ls 11 [(0, .int x0)]) : W p l e rm_X6_holds s m args below meth c H locs 0 0 (MQ below (g_Q E G0 n0 (some (.int r)) G n) args s rm_X6_holds.cells rm_X6_holds.slots (g_A G0 n0)) (F0 m 149 ls [.int s0]) := by
  have hx := X.1
  have hb := X.2.1
  unfold f_X6_holds_149 at h
  refine lv_istore (lv' := [(6, .int s0), (0, .int x0)]) hx hb dX6_holds_149 hl (by decide) rfl (fun ls hl => ?_)
  exact b_X6_holds_151 X hI h (lv_sub hl [1, 0] rfl)
def f_X6_holds_112 (x0 : Int32) (x7 : Int64) (x9 : Int64) : Option Int32 :=
  if (f_X6_rank x9) ≤ (f_X6_rank x7) then
    if (f_X6_rank x7) ≤ (f_X6_rank x9) then
      f_X6_holds_149 x0 0
    else
    f_X6_holds_149 x0 1
  else
  f_X6_holds_149 x0 (-1)
set_option maxHeartbeats 4000000 in
set_option maxRecDepth 100000 in
theorem b_X6_holds_112 {p : Program} {l : Launch} {e : Env} {s : State} {m : MethodId} {args : Array Value} {below : List Frame} {meth : Method} {c : Code} {E : gE} {G0 : gG} {n0 : Nat} (X : g_X E G0 n0 p s m args meth c cX6_holds 11 RX6 "holds" (some .boolean)) {G : gG} {n : Nat} {r : Int32} {H : Heap} {locs : List Loc} (hI : g_I E (g_A G0 n0) G n s.heap H locs) {x0 : Int32} {x7 : Int64} {x9 : Int64} (h : f_X6_holds_112 x0 x7 x9 = some r) {ls : Array Slot} (hl : lv_has ls 11 [(0, .int x0), (7, .long x7), (9, .long x9)]) : W p l e rm_X6_holds s m args below meth c H locs 0 0 (MQ below (g_Q E G0 n0 (some (.int r)) G n) args s rm_X6_holds.cells rm_X6_holds.slots (g_A G0 n0)) (F0 m 112 ls []) := by
  have hx := X.1
  have hb := X.2.1
  unfold f_X6_holds_112 at h
  refine lv_lload hx hb dX6_holds_112 (lv_at hl 1 rfl) ?_
  refine g_callS X hI (av := [.long x7]) (c_X6_rank x7) gm_X6_rank tw_4_20 tw_4_21 ⟨by decide, by decide⟩ hl.1 (rest := []) rfl (Nat.le_of_ble_eq_true rfl) dX6_holds_114 ⟨by decide, by decide⟩ (st1 := [.long (f_X6_rank x7)]) rfl (cells' := 0) (slots' := 0) rfl rfl (fun H locs hI => ?_)
  refine lv_lload hx hb dX6_holds_117 (lv_at hl 2 rfl) ?_
  refine g_callS X hI (av := [.long x9]) (c_X6_rank x9) gm_X6_rank tw_4_20 tw_4_21 ⟨by decide, by decide⟩ hl.1 (rest := [.long (f_X6_rank x7)]) rfl (Nat.le_of_ble_eq_true rfl) dX6_holds_119 ⟨by decide, by decide⟩ (st1 := [.long (f_X6_rank x9), .long (f_X6_rank x7)]) rfl (cells' := 0) (slots' := 0) rfl rfl (fun H locs hI => ?_)
  refine W.lcmp hx hb dX6_holds_122 ?_
  refine lv_if_ge (tgt := 130) hx hb dX6_holds_123 (by decide) (fun c => ?_) (fun c => ?_)
  · have h := g_t _ ((lg_cmp_ge _ _).mp c) h
    refine lv_lload hx hb dX6_holds_130 (lv_at hl 1 rfl) ?_
    refine g_callS X hI (av := [.long x7]) (c_X6_rank x7) gm_X6_rank tw_4_20 tw_4_21 ⟨by decide, by decide⟩ hl.1 (rest := []) rfl (Nat.le_of_ble_eq_true rfl) dX6_holds_132 ⟨by decide, by decide⟩ (st1 := [.long (f_X6_rank x7)]) rfl (cells' := 0) (slots' := 0) rfl rfl (fun H locs hI => ?_)
    refine lv_lload hx hb dX6_holds_135 (lv_at hl 2 rfl) ?_
    refine g_callS X hI (av := [.long x9]) (c_X6_rank x9) gm_X6_rank tw_4_20 tw_4_21 ⟨by decide, by decide⟩ hl.1 (rest := [.long (f_X6_rank x7)]) rfl (Nat.le_of_ble_eq_true rfl) dX6_holds_137 ⟨by decide, by decide⟩ (st1 := [.long (f_X6_rank x9), .long (f_X6_rank x7)]) rfl (cells' := 0) (slots' := 0) rfl rfl (fun H locs hI => ?_)
    refine W.lcmp hx hb dX6_holds_140 ?_
    refine lv_if_le (tgt := 148) hx hb dX6_holds_141 (by decide) (fun c => ?_) (fun c => ?_)
    · have h := g_t _ ((lg_cmp_le _ _).mp c) h
      refine lv_iconst (v := 0) hx hb dX6_holds_148 (by decide) ?_
      exact b_X6_holds_149 X hI h (lv_sub hl [0] rfl)
    · have h := g_f _ (fun q => c ((lg_cmp_le _ _).mpr q)) h
      refine lv_iconst (v := 1) hx hb dX6_holds_144 (by decide) ?_
      refine lv_goto (tgt := 149) hx hb dX6_holds_145 (by decide) ?_
      exact b_X6_holds_149 X hI h (lv_sub hl [0] rfl)
  · have h := g_f _ (fun q => c ((lg_cmp_ge _ _).mpr q)) h
    refine lv_iconst (v := (-1)) hx hb dX6_holds_126 (by decide) ?_
    refine lv_goto (tgt := 149) hx hb dX6_holds_127 (by decide) ?_
    exact b_X6_holds_149 X hI h (lv_sub hl [0] rfl)
def f_X6_holds_80 (x0 : Int32) : Option Int32 :=
  if x0 = 21 then
    some 1
  else
  some 0
set_option maxHeartbeats 4000000 in
set_option maxRecDepth 100000 in
theorem b_X6_holds_80 {p : Program} {l : Launch} {e : Env} {s : State} {m : MethodId} {args : Array Value} {below : List Frame} {meth : Method} {c : Code} {E : gE} {G0 : gG} {n0 : Nat} (X : g_X E G0 n0 p s m args meth c cX6_holds 11 RX6 "holds" (some .boolean)) {G : gG} {n : Nat} {r : Int32} {H : Heap} {locs : List Loc} (hI : g_I E (g_A G0 n0) G n s.heap H locs) {x0 : Int32} (h : f_X6_holds_80 x0 = some r) {ls : Array Slot} (hl : lv_has ls 11 [(0, .int x0)]) : W p l e rm_X6_holds s m args below meth c H locs 0 0 (MQ below (g_Q E G0 n0 (some (.int r)) G n) args s rm_X6_holds.cells rm_X6_holds.slots (g_A G0 n0)) (F0 m 80 ls []) := by
  have hx := X.1
  have hb := X.2.1
  unfold f_X6_holds_80 at h
  refine lv_iload_n hx hb dX6_holds_80 rfl (lv_at hl 0 rfl) ?_
  refine lv_bipush (v := 21) hx hb dX6_holds_81 (by decide) ?_
  refine lv_icmp_ne (tgt := 90) hx hb dX6_holds_83 (by decide) (fun c => ?_) (fun c => ?_)
  · have h := g_f _ c h
    refine lv_iconst (v := 0) hx hb dX6_holds_90 (by decide) ?_
    have h := Option.some.inj h
    subst h
    exact g_zret X hI (Or.inl rfl) dX6_holds_91
  · have h := g_t _ c h
    refine lv_iconst (v := 1) hx hb dX6_holds_86 (by decide) ?_
    refine lv_goto (tgt := 91) hx hb dX6_holds_87 (by decide) ?_
    have h := Option.some.inj h
    subst h
    exact g_zret X hI (Or.inr rfl) dX6_holds_91
def f_X6_holds_62 (x0 : Int32) (x7 : Int64) (s0 : Int64) : Option Int32 :=
  if (f_X6_isNan x7) = 0 then
    if (f_X6_isNan s0) = 0 then
      if (f_X6_isZero x7) = 0 then
        f_X6_holds_112 x0 x7 s0
      else
      if (f_X6_isZero s0) = 0 then
        f_X6_holds_112 x0 x7 s0
      else
      f_X6_holds_149 x0 0
    else
    f_X6_holds_80 x0
  else
  f_X6_holds_80 x0
set_option maxHeartbeats 4000000 in
set_option maxRecDepth 100000 in
theorem b_X6_holds_62 {p : Program} {l : Launch} {e : Env} {s : State} {m : MethodId} {args : Array Value} {below : List Frame} {meth : Method} {c : Code} {E : gE} {G0 : gG} {n0 : Nat} (X : g_X E G0 n0 p s m args meth c cX6_holds 11 RX6 "holds" (some .boolean)) {G : gG} {n : Nat} {r : Int32} {H : Heap} {locs : List Loc} (hI : g_I E (g_A G0 n0) G n s.heap H locs) {x0 : Int32} {x7 : Int64} {s0 : Int64} (h : f_X6_holds_62 x0 x7 s0 = some r) {ls : Array Slot} (hl : lv_has ls 11 [(0, .int x0), (7, .long x7)]) : W p l e rm_X6_holds s m args below meth c H locs 0 0 (MQ below (g_Q E G0 n0 (some (.int r)) G n) args s rm_X6_holds.cells rm_X6_holds.slots (g_A G0 n0)) (F0 m 62 ls [.long s0]) := by
  have hx := X.1
  have hb := X.2.1
  unfold f_X6_holds_62 at h
  refine lv_lstore (lv' := [(9, .long s0), (0, .int x0), (7, .long x7)]) hx hb dX6_holds_62 hl (by decide) rfl (fun ls hl => ?_)
  refine lv_lload hx hb dX6_holds_64 (lv_at hl 2 rfl) ?_
  refine g_callS X hI (av := [.long x7]) (c_X6_isNan x7) gm_X6_isNan tw_3_137 tw_3_138 ⟨by decide, by decide⟩ hl.1 (rest := []) rfl (Nat.le_of_ble_eq_true rfl) dX6_holds_66 ⟨by decide, by decide⟩ (st1 := [.int (f_X6_isNan x7)]) rfl (cells' := 0) (slots' := 0) rfl rfl (fun H locs hI => ?_)
  refine lv_if_ne (tgt := 80) hx hb dX6_holds_69 (by decide) (fun c => ?_) (fun c => ?_)
  · have h := g_f _ c h
    exact b_X6_holds_80 X hI h (lv_sub hl [1] rfl)
  · have h := g_t _ c h
    refine lv_lload hx hb dX6_holds_72 (lv_at hl 0 rfl) ?_
    refine g_callS X hI (av := [.long s0]) (c_X6_isNan s0) gm_X6_isNan tw_3_137 tw_3_138 ⟨by decide, by decide⟩ hl.1 (rest := []) rfl (Nat.le_of_ble_eq_true rfl) dX6_holds_74 ⟨by decide, by decide⟩ (st1 := [.int (f_X6_isNan s0)]) rfl (cells' := 0) (slots' := 0) rfl rfl (fun H locs hI => ?_)
    refine lv_if_eq (tgt := 92) hx hb dX6_holds_77 (by decide) (fun c => ?_) (fun c => ?_)
    · have h := g_t _ c h
      refine lv_lload hx hb dX6_holds_92 (lv_at hl 2 rfl) ?_
      refine g_callS X hI (av := [.long x7]) (c_X6_isZero x7) gm_X6_isZero tw_4_1 tw_4_2 ⟨by decide, by decide⟩ hl.1 (rest := []) rfl (Nat.le_of_ble_eq_true rfl) dX6_holds_94 ⟨by decide, by decide⟩ (st1 := [.int (f_X6_isZero x7)]) rfl (cells' := 0) (slots' := 0) rfl rfl (fun H locs hI => ?_)
      refine lv_if_eq (tgt := 112) hx hb dX6_holds_97 (by decide) (fun c => ?_) (fun c => ?_)
      · have h := g_t _ c h
        exact b_X6_holds_112 X hI h (lv_sub hl [1, 2, 0] rfl)
      · have h := g_f _ c h
        refine lv_lload hx hb dX6_holds_100 (lv_at hl 0 rfl) ?_
        refine g_callS X hI (av := [.long s0]) (c_X6_isZero s0) gm_X6_isZero tw_4_1 tw_4_2 ⟨by decide, by decide⟩ hl.1 (rest := []) rfl (Nat.le_of_ble_eq_true rfl) dX6_holds_102 ⟨by decide, by decide⟩ (st1 := [.int (f_X6_isZero s0)]) rfl (cells' := 0) (slots' := 0) rfl rfl (fun H locs hI => ?_)
        refine lv_if_eq (tgt := 112) hx hb dX6_holds_105 (by decide) (fun c => ?_) (fun c => ?_)
        · have h := g_t _ c h
          exact b_X6_holds_112 X hI h (lv_sub hl [1, 2, 0] rfl)
        · have h := g_f _ c h
          refine lv_iconst (v := 0) hx hb dX6_holds_108 (by decide) ?_
          refine lv_goto (tgt := 149) hx hb dX6_holds_109 (by decide) ?_
          exact b_X6_holds_149 X hI h (lv_sub hl [1] rfl)
    · have h := g_f _ c h
      exact b_X6_holds_80 X hI h (lv_sub hl [1] rfl)
def f_X6_holds_46 (x0 : Int32) (x3 : Int64) (x5 : Int32) (s0 : Int64) : Option Int32 :=
  if x5 = 4 then
    gb (f_X6_wide x3) fun r1 =>
    f_X6_holds_62 x0 s0 r1
  else
  f_X6_holds_62 x0 s0 x3
set_option maxHeartbeats 4000000 in
set_option maxRecDepth 100000 in
theorem b_X6_holds_46 {p : Program} {l : Launch} {e : Env} {s : State} {m : MethodId} {args : Array Value} {below : List Frame} {meth : Method} {c : Code} {E : gE} {G0 : gG} {n0 : Nat} (X : g_X E G0 n0 p s m args meth c cX6_holds 11 RX6 "holds" (some .boolean)) {G : gG} {n : Nat} {r : Int32} {H : Heap} {locs : List Loc} (hI : g_I E (g_A G0 n0) G n s.heap H locs) {x0 : Int32} {x3 : Int64} {x5 : Int32} {s0 : Int64} (h : f_X6_holds_46 x0 x3 x5 s0 = some r) {ls : Array Slot} (hl : lv_has ls 11 [(0, .int x0), (3, .long x3), (5, .int x5)]) : W p l e rm_X6_holds s m args below meth c H locs 0 0 (MQ below (g_Q E G0 n0 (some (.int r)) G n) args s rm_X6_holds.cells rm_X6_holds.slots (g_A G0 n0)) (F0 m 46 ls [.long s0]) := by
  have hx := X.1
  have hb := X.2.1
  unfold f_X6_holds_46 at h
  refine lv_lstore (lv' := [(7, .long s0), (0, .int x0), (3, .long x3), (5, .int x5)]) hx hb dX6_holds_46 hl (by decide) rfl (fun ls hl => ?_)
  refine lv_iload hx hb dX6_holds_48 (lv_at hl 3 rfl) ?_
  refine lv_iconst (v := 4) hx hb dX6_holds_50 (by decide) ?_
  refine lv_icmp_ne (tgt := 61) hx hb dX6_holds_51 (by decide) (fun c => ?_) (fun c => ?_)
  · have h := g_f _ c h
    refine lv_lload_n hx hb dX6_holds_61 rfl (lv_at hl 2 rfl) ?_
    exact b_X6_holds_62 X hI h (lv_sub hl [1, 0] rfl)
  · have h := g_t _ c h
    refine lv_lload_n hx hb dX6_holds_54 rfl (lv_at hl 2 rfl) ?_
    obtain ⟨r1, er1, h⟩ := gb_s h
    refine g_callS X hI (av := [.long x3]) (c_X6_wide er1) gm_X6_wide tw_4_5 tw_4_6 ⟨by decide, by decide⟩ hl.1 (rest := []) rfl (Nat.le_of_ble_eq_true rfl) dX6_holds_55 ⟨by decide, by decide⟩ (st1 := [.long r1]) rfl (cells' := 0) (slots' := 0) rfl rfl (fun H locs hI => ?_)
    refine lv_goto (tgt := 62) hx hb dX6_holds_58 (by decide) ?_
    exact b_X6_holds_62 X hI h (lv_sub hl [1, 0] rfl)
def f_X6_holds_27 (x0 : Int32) (s0 : Int32) : Option Int32 :=
  f_X6_holds_151 x0 s0
set_option maxHeartbeats 4000000 in
set_option maxRecDepth 100000 in
theorem b_X6_holds_27 {p : Program} {l : Launch} {e : Env} {s : State} {m : MethodId} {args : Array Value} {below : List Frame} {meth : Method} {c : Code} {E : gE} {G0 : gG} {n0 : Nat} (X : g_X E G0 n0 p s m args meth c cX6_holds 11 RX6 "holds" (some .boolean)) {G : gG} {n : Nat} {r : Int32} {H : Heap} {locs : List Loc} (hI : g_I E (g_A G0 n0) G n s.heap H locs) {x0 : Int32} {s0 : Int32} (h : f_X6_holds_27 x0 s0 = some r) {ls : Array Slot} (hl : lv_has ls 11 [(0, .int x0)]) : W p l e rm_X6_holds s m args below meth c H locs 0 0 (MQ below (g_Q E G0 n0 (some (.int r)) G n) args s rm_X6_holds.cells rm_X6_holds.slots (g_A G0 n0)) (F0 m 27 ls [.int s0]) := by
  have hx := X.1
  have hb := X.2.1
  unfold f_X6_holds_27 at h
  refine lv_istore (lv' := [(6, .int s0), (0, .int x0)]) hx hb dX6_holds_27 hl (by decide) rfl (fun ls hl => ?_)
  refine lv_goto (tgt := 151) hx hb dX6_holds_29 (by decide) ?_
  exact b_X6_holds_151 X hI h (lv_sub hl [1, 0] rfl)
def f_X6_holds (a0 : Int32) (a1 : Int64) (a3 : Int64) (a5 : Int32) : Option Int32 :=
  if (4 : Int32) ≤ a5 then
    if a5 = 4 then
      gb (f_X6_wide a1) fun r1 =>
      f_X6_holds_46 a0 a3 a5 r1
    else
    f_X6_holds_46 a0 a3 a5 a1
  else
  if a3 ≤ a1 then
    if a1 ≤ a3 then
      f_X6_holds_27 a0 0
    else
    f_X6_holds_27 a0 1
  else
  f_X6_holds_27 a0 (-1)
theorem gm_X6_holds : g_M yX6_holds cX6_holds 11 (some .boolean) 4 := ⟨tw_4_19, tw_1_5, by decide +kernel, Or.inl (by decide +kernel)⟩
set_option maxHeartbeats 4000000 in
set_option maxRecDepth 100000 in
theorem c_X6_holds {l : Launch} {E : gE} {G : gG} {n : Nat} {a0 : Int32} {a1 : Int64} {a3 : Int64} {a5 : Int32} {r : Int32} (h : f_X6_holds a0 a1 a3 a5 = some r) : g_Met l yX6_holds cX6_holds 11 (some .boolean) rm_X6_holds E G n [.int a0, .long a1, .long a3, .int a5] (some (.int r)) G n := by
  refine g_ofW gm_X6_holds (Nat.le_of_ble_eq_true rfl) ?_
  intro p e s m below meth c ls X hl hI
  have hx := X.1
  have hb := X.2.1
  have X : g_X E G n p s m _ meth c cX6_holds 11 RX6 "holds" (some .boolean) := X
  have hl : lv_has ls 11 [(0, .int a0), (1, .long a1), (3, .long a3), (5, .int a5)] := hl
  unfold f_X6_holds at h
  refine lv_iload hx hb dX6_holds_0 (lv_at hl 3 rfl) ?_
  refine lv_iconst (v := 4) hx hb dX6_holds_2 (by decide) ?_
  refine lv_icmp_ge (tgt := 32) hx hb dX6_holds_3 (by decide) (fun c => ?_) (fun c => ?_)
  · have h := g_t _ c h
    refine lv_iload hx hb dX6_holds_32 (lv_at hl 3 rfl) ?_
    refine lv_iconst (v := 4) hx hb dX6_holds_34 (by decide) ?_
    refine lv_icmp_ne (tgt := 45) hx hb dX6_holds_35 (by decide) (fun c => ?_) (fun c => ?_)
    · have h := g_f _ c h
      refine lv_lload_n hx hb dX6_holds_45 rfl (lv_at hl 1 rfl) ?_
      exact b_X6_holds_46 X hI h (lv_sub hl [0, 2, 3] rfl)
    · have h := g_t _ c h
      refine lv_lload_n hx hb dX6_holds_38 rfl (lv_at hl 1 rfl) ?_
      obtain ⟨r1, er1, h⟩ := gb_s h
      refine g_callS X hI (av := [.long a1]) (c_X6_wide er1) gm_X6_wide tw_4_5 tw_4_6 ⟨by decide, by decide⟩ hl.1 (rest := []) rfl (Nat.le_of_ble_eq_true rfl) dX6_holds_39 ⟨by decide, by decide⟩ (st1 := [.long r1]) rfl (cells' := 0) (slots' := 0) rfl rfl (fun H locs hI => ?_)
      refine lv_goto (tgt := 46) hx hb dX6_holds_42 (by decide) ?_
      exact b_X6_holds_46 X hI h (lv_sub hl [0, 2, 3] rfl)
  · have h := g_f _ c h
    refine lv_lload_n hx hb dX6_holds_6 rfl (lv_at hl 1 rfl) ?_
    refine lv_lload_n hx hb dX6_holds_7 rfl (lv_at hl 2 rfl) ?_
    refine W.lcmp hx hb dX6_holds_8 ?_
    refine lv_if_ge (tgt := 16) hx hb dX6_holds_9 (by decide) (fun c => ?_) (fun c => ?_)
    · have h := g_t _ ((lg_cmp_ge _ _).mp c) h
      refine lv_lload_n hx hb dX6_holds_16 rfl (lv_at hl 1 rfl) ?_
      refine lv_lload_n hx hb dX6_holds_17 rfl (lv_at hl 2 rfl) ?_
      refine W.lcmp hx hb dX6_holds_18 ?_
      refine lv_if_le (tgt := 26) hx hb dX6_holds_19 (by decide) (fun c => ?_) (fun c => ?_)
      · have h := g_t _ ((lg_cmp_le _ _).mp c) h
        refine lv_iconst (v := 0) hx hb dX6_holds_26 (by decide) ?_
        exact b_X6_holds_27 X hI h (lv_sub hl [0] rfl)
      · have h := g_f _ (fun q => c ((lg_cmp_le _ _).mpr q)) h
        refine lv_iconst (v := 1) hx hb dX6_holds_22 (by decide) ?_
        refine lv_goto (tgt := 27) hx hb dX6_holds_23 (by decide) ?_
        exact b_X6_holds_27 X hI h (lv_sub hl [0] rfl)
    · have h := g_f _ (fun q => c ((lg_cmp_ge _ _).mpr q)) h
      refine lv_iconst (v := (-1)) hx hb dX6_holds_12 (by decide) ?_
      refine lv_goto (tgt := 27) hx hb dX6_holds_13 (by decide) ?_
      exact b_X6_holds_27 X hI h (lv_sub hl [0] rfl)
abbrev rm_X6_downward : Room := { frames := 0, cells := 0, slots := 0, locals := 0 }
def f_X6_downward_35 (x4 : Int64) (s0 : Int32) (s1 : Int32) : Option Int64 :=
  if s1 = s0 then
    some x4
  else
  some (x4 - 1)
set_option maxHeartbeats 4000000 in
set_option maxRecDepth 100000 in
theorem b_X6_downward_35 {p : Program} {l : Launch} {e : Env} {s : State} {m : MethodId} {args : Array Value} {below : List Frame} {meth : Method} {c : Code} {E : gE} {G0 : gG} {n0 : Nat} (X : g_X E G0 n0 p s m args meth c cX6_downward 6 RX6 "downward" (some .long)) {G : gG} {n : Nat} {r : Int64} {H : Heap} {locs : List Loc} (hI : g_I E (g_A G0 n0) G n s.heap H locs) {x4 : Int64} {s0 : Int32} {s1 : Int32} (h : f_X6_downward_35 x4 s0 s1 = some r) {ls : Array Slot} (hl : lv_has ls 6 [(4, .long x4)]) : W p l e rm_X6_downward s m args below meth c H locs 0 0 (MQ below (g_Q E G0 n0 (some (.long r)) G n) args s rm_X6_downward.cells rm_X6_downward.slots (g_A G0 n0)) (F0 m 35 ls [.int s0, .int s1]) := by
  have hx := X.1
  have hb := X.2.1
  unfold f_X6_downward_35 at h
  refine lv_icmp_eq (tgt := 45) hx hb dX6_downward_35 (by decide) (fun c => ?_) (fun c => ?_)
  · have h := g_t _ c h
    refine lv_lload hx hb dX6_downward_45 (lv_at hl 0 rfl) ?_
    have h := Option.some.inj h
    subst h
    exact g_lret X hI dX6_downward_47
  · have h := g_f _ c h
    refine lv_lload hx hb dX6_downward_38 (lv_at hl 0 rfl) ?_
    refine lv_lconst (v := 1) hx hb dX6_downward_40 (by decide) ?_
    refine lv_lsub (x := x4) (y := 1) hx hb dX6_downward_41 ?_
    refine lv_goto (tgt := 47) hx hb dX6_downward_42 (by decide) ?_
    have h := Option.some.inj h
    subst h
    exact g_lret X hI dX6_downward_47
def f_X6_downward_24 (x2 : Int64) (x4 : Int64) (s0 : Int32) : Option Int64 :=
  if (0 : Int64) ≤ x2 then
    f_X6_downward_35 x4 0 s0
  else
  f_X6_downward_35 x4 1 s0
set_option maxHeartbeats 4000000 in
set_option maxRecDepth 100000 in
theorem b_X6_downward_24 {p : Program} {l : Launch} {e : Env} {s : State} {m : MethodId} {args : Array Value} {below : List Frame} {meth : Method} {c : Code} {E : gE} {G0 : gG} {n0 : Nat} (X : g_X E G0 n0 p s m args meth c cX6_downward 6 RX6 "downward" (some .long)) {G : gG} {n : Nat} {r : Int64} {H : Heap} {locs : List Loc} (hI : g_I E (g_A G0 n0) G n s.heap H locs) {x2 : Int64} {x4 : Int64} {s0 : Int32} (h : f_X6_downward_24 x2 x4 s0 = some r) {ls : Array Slot} (hl : lv_has ls 6 [(2, .long x2), (4, .long x4)]) : W p l e rm_X6_downward s m args below meth c H locs 0 0 (MQ below (g_Q E G0 n0 (some (.long r)) G n) args s rm_X6_downward.cells rm_X6_downward.slots (g_A G0 n0)) (F0 m 24 ls [.int s0]) := by
  have hx := X.1
  have hb := X.2.1
  unfold f_X6_downward_24 at h
  refine lv_lload_n hx hb dX6_downward_24 rfl (lv_at hl 0 rfl) ?_
  refine lv_lconst (v := 0) hx hb dX6_downward_25 (by decide) ?_
  refine W.lcmp hx hb dX6_downward_26 ?_
  refine lv_if_ge (tgt := 34) hx hb dX6_downward_27 (by decide) (fun c => ?_) (fun c => ?_)
  · have h := g_t _ ((lg_cmp_ge _ _).mp c) h
    refine lv_iconst (v := 0) hx hb dX6_downward_34 (by decide) ?_
    exact b_X6_downward_35 X hI h (lv_sub hl [1] rfl)
  · have h := g_f _ (fun q => c ((lg_cmp_ge _ _).mpr q)) h
    refine lv_iconst (v := 1) hx hb dX6_downward_30 (by decide) ?_
    refine lv_goto (tgt := 35) hx hb dX6_downward_31 (by decide) ?_
    exact b_X6_downward_35 X hI h (lv_sub hl [1] rfl)
def f_X6_downward (a0 : Int64) (a2 : Int64) : Option Int64 :=
  gneL a2 <|
  gl ((a0 / a2) : Int64) fun v1 =>
  gneL a2 <|
  if (g_lrem a0 a2) = 0 then
    some v1
  else
  if (0 : Int64) ≤ a0 then
    f_X6_downward_24 a2 v1 0
  else
  f_X6_downward_24 a2 v1 1
theorem gm_X6_downward : g_M yX6_downward cX6_downward 6 (some .long) 2 := ⟨tw_4_55, tw_1_5, by decide +kernel, Or.inl (by decide +kernel)⟩
set_option maxHeartbeats 4000000 in
set_option maxRecDepth 100000 in
theorem c_X6_downward {l : Launch} {E : gE} {G : gG} {n : Nat} {a0 : Int64} {a2 : Int64} {r : Int64} (h : f_X6_downward a0 a2 = some r) : g_Met l yX6_downward cX6_downward 6 (some .long) rm_X6_downward E G n [.long a0, .long a2] (some (.long r)) G n := by
  refine g_ofW gm_X6_downward (Nat.le_of_ble_eq_true rfl) ?_
  intro p e s m below meth c ls X hl hI
  have hx := X.1
  have hb := X.2.1
  have X : g_X E G n p s m _ meth c cX6_downward 6 RX6 "downward" (some .long) := X
  have hl : lv_has ls 6 [(0, .long a0), (2, .long a2)] := hl
  unfold f_X6_downward at h
  refine lv_lload_n hx hb dX6_downward_0 rfl (lv_at hl 0 rfl) ?_
  refine lv_lload_n hx hb dX6_downward_1 rfl (lv_at hl 1 rfl) ?_
  obtain ⟨cz, h⟩ := gneL_s h
  refine lv_ldiv hx hb dX6_downward_2 cz ?_
  obtain ⟨v1, ev1, h⟩ := gl_s h
  refine g_topl ev1 ?_
  refine lv_lstore (lv' := [(4, .long v1), (0, .long a0), (2, .long a2)]) hx hb dX6_downward_3 hl (by decide) rfl (fun ls hl => ?_)
  refine lv_lload_n hx hb dX6_downward_5 rfl (lv_at hl 1 rfl) ?_
  refine lv_lload_n hx hb dX6_downward_6 rfl (lv_at hl 2 rfl) ?_
  obtain ⟨cz, h⟩ := gneL_s h
  refine lv_lrem hx hb dX6_downward_7 cz ?_
  refine lv_lconst (v := 0) hx hb dX6_downward_8 (by decide) ?_
  refine W.lcmp hx hb dX6_downward_9 ?_
  refine lv_if_eq (tgt := 45) hx hb dX6_downward_10 (by decide) (fun c => ?_) (fun c => ?_)
  · have h := g_t _ ((lg_cmp_eq _ _).mp c) h
    refine lv_lload hx hb dX6_downward_45 (lv_at hl 0 rfl) ?_
    have h := Option.some.inj h
    subst h
    exact g_lret X hI dX6_downward_47
  · have h := g_f _ (fun q => c ((lg_cmp_eq _ _).mpr q)) h
    refine lv_lload_n hx hb dX6_downward_13 rfl (lv_at hl 1 rfl) ?_
    refine lv_lconst (v := 0) hx hb dX6_downward_14 (by decide) ?_
    refine W.lcmp hx hb dX6_downward_15 ?_
    refine lv_if_ge (tgt := 23) hx hb dX6_downward_16 (by decide) (fun c => ?_) (fun c => ?_)
    · have h := g_t _ ((lg_cmp_ge _ _).mp c) h
      refine lv_iconst (v := 0) hx hb dX6_downward_23 (by decide) ?_
      exact b_X6_downward_24 X hI h (lv_sub hl [2, 0] rfl)
    · have h := g_f _ (fun q => c ((lg_cmp_ge _ _).mpr q)) h
      refine lv_iconst (v := 1) hx hb dX6_downward_19 (by decide) ?_
      refine lv_goto (tgt := 24) hx hb dX6_downward_20 (by decide) ?_
      exact b_X6_downward_24 X hI h (lv_sub hl [2, 0] rfl)
abbrev rm_X6_wholes : Room := { frames := 1, cells := 0, slots := 0, locals := 25 }
def f_X6_wholes_247 (x3 : Int64) (s0 : Int64) : Option Int64 :=
  if (0 : Int64) ≤ x3 then
    some s0
  else
  some (-s0)
set_option maxHeartbeats 4000000 in
set_option maxRecDepth 100000 in
theorem b_X6_wholes_247 {p : Program} {l : Launch} {e : Env} {s : State} {m : MethodId} {args : Array Value} {below : List Frame} {meth : Method} {c : Code} {E : gE} {G0 : gG} {n0 : Nat} (X : g_X E G0 n0 p s m args meth c cX6_wholes 10 RX6 "wholes" (some .long)) {G : gG} {n : Nat} {r : Int64} {H : Heap} {locs : List Loc} (hI : g_I E (g_A G0 n0) G n s.heap H locs) {x3 : Int64} {s0 : Int64} (h : f_X6_wholes_247 x3 s0 = some r) {ls : Array Slot} (hl : lv_has ls 10 [(3, .long x3)]) : W p l e rm_X6_wholes s m args below meth c H locs 0 0 (MQ below (g_Q E G0 n0 (some (.long r)) G n) args s rm_X6_wholes.cells rm_X6_wholes.slots (g_A G0 n0)) (F0 m 247 ls [.long s0]) := by
  have hx := X.1
  have hb := X.2.1
  unfold f_X6_wholes_247 at h
  refine lv_lstore (lv' := [(8, .long s0), (3, .long x3)]) hx hb dX6_wholes_247 hl (by decide) rfl (fun ls hl => ?_)
  refine lv_lload_n hx hb dX6_wholes_249 rfl (lv_at hl 1 rfl) ?_
  refine lv_lconst (v := 0) hx hb dX6_wholes_250 (by decide) ?_
  refine W.lcmp hx hb dX6_wholes_251 ?_
  refine lv_if_ge (tgt := 261) hx hb dX6_wholes_252 (by decide) (fun c => ?_) (fun c => ?_)
  · have h := g_t _ ((lg_cmp_ge _ _).mp c) h
    refine lv_lload hx hb dX6_wholes_261 (lv_at hl 0 rfl) ?_
    have h := Option.some.inj h
    subst h
    exact g_lret X hI dX6_wholes_263
  · have h := g_f _ (fun q => c ((lg_cmp_ge _ _).mpr q)) h
    refine lv_lload hx hb dX6_wholes_255 (lv_at hl 0 rfl) ?_
    refine lv_lneg hx hb dX6_wholes_257 ?_
    refine lv_goto (tgt := 263) hx hb dX6_wholes_258 (by decide) ?_
    have h := Option.some.inj h
    subst h
    exact g_lret X hI dX6_wholes_263
def f_X6_wholes_235 (x1 : Int64) (x3 : Int64) : Option Int64 :=
  if (0 : Int64) ≤ x1 then
    f_X6_wholes_247 x3 x1
  else
  f_X6_wholes_247 x3 (-x1)
set_option maxHeartbeats 4000000 in
set_option maxRecDepth 100000 in
theorem b_X6_wholes_235 {p : Program} {l : Launch} {e : Env} {s : State} {m : MethodId} {args : Array Value} {below : List Frame} {meth : Method} {c : Code} {E : gE} {G0 : gG} {n0 : Nat} (X : g_X E G0 n0 p s m args meth c cX6_wholes 10 RX6 "wholes" (some .long)) {G : gG} {n : Nat} {r : Int64} {H : Heap} {locs : List Loc} (hI : g_I E (g_A G0 n0) G n s.heap H locs) {x1 : Int64} {x3 : Int64} (h : f_X6_wholes_235 x1 x3 = some r) {ls : Array Slot} (hl : lv_has ls 10 [(1, .long x1), (3, .long x3)]) : W p l e rm_X6_wholes s m args below meth c H locs 0 0 (MQ below (g_Q E G0 n0 (some (.long r)) G n) args s rm_X6_wholes.cells rm_X6_wholes.slots (g_A G0 n0)) (F0 m 235 ls []) := by
  have hx := X.1
  have hb := X.2.1
  unfold f_X6_wholes_235 at h
  refine lv_lload_n hx hb dX6_wholes_235 rfl (lv_at hl 0 rfl) ?_
  refine lv_lconst (v := 0) hx hb dX6_wholes_236 (by decide) ?_
  refine W.lcmp hx hb dX6_wholes_237 ?_
  refine lv_if_ge (tgt := 246) hx hb dX6_wholes_238 (by decide) (fun c => ?_) (fun c => ?_)
  · have h := g_t _ ((lg_cmp_ge _ _).mp c) h
    refine lv_lload_n hx hb dX6_wholes_246 rfl (lv_at hl 0 rfl) ?_
    exact b_X6_wholes_247 X hI h (lv_sub hl [1] rfl)
  · have h := g_f _ (fun q => c ((lg_cmp_ge _ _).mpr q)) h
    refine lv_lload_n hx hb dX6_wholes_241 rfl (lv_at hl 0 rfl) ?_
    refine lv_lneg hx hb dX6_wholes_242 ?_
    refine lv_goto (tgt := 247) hx hb dX6_wholes_243 (by decide) ?_
    exact b_X6_wholes_247 X hI h (lv_sub hl [1] rfl)
def f_X6_wholes_168 (x1 : Int64) (x3 : Int64) : Option Int64 :=
  if x1 ≤ x3 then
    some x3
  else
  some x1
set_option maxHeartbeats 4000000 in
set_option maxRecDepth 100000 in
theorem b_X6_wholes_168 {p : Program} {l : Launch} {e : Env} {s : State} {m : MethodId} {args : Array Value} {below : List Frame} {meth : Method} {c : Code} {E : gE} {G0 : gG} {n0 : Nat} (X : g_X E G0 n0 p s m args meth c cX6_wholes 10 RX6 "wholes" (some .long)) {G : gG} {n : Nat} {r : Int64} {H : Heap} {locs : List Loc} (hI : g_I E (g_A G0 n0) G n s.heap H locs) {x1 : Int64} {x3 : Int64} (h : f_X6_wholes_168 x1 x3 = some r) {ls : Array Slot} (hl : lv_has ls 10 [(1, .long x1), (3, .long x3)]) : W p l e rm_X6_wholes s m args below meth c H locs 0 0 (MQ below (g_Q E G0 n0 (some (.long r)) G n) args s rm_X6_wholes.cells rm_X6_wholes.slots (g_A G0 n0)) (F0 m 168 ls []) := by
  have hx := X.1
  have hb := X.2.1
  unfold f_X6_wholes_168 at h
  refine lv_lload_n hx hb dX6_wholes_168 rfl (lv_at hl 0 rfl) ?_
  refine lv_lload_n hx hb dX6_wholes_169 rfl (lv_at hl 1 rfl) ?_
  refine W.lcmp hx hb dX6_wholes_170 ?_
  refine lv_if_le (tgt := 178) hx hb dX6_wholes_171 (by decide) (fun c => ?_) (fun c => ?_)
  · have h := g_t _ ((lg_cmp_le _ _).mp c) h
    refine lv_lload_n hx hb dX6_wholes_178 rfl (lv_at hl 1 rfl) ?_
    have h := Option.some.inj h
    subst h
    exact g_lret X hI dX6_wholes_179
  · have h := g_f _ (fun q => c ((lg_cmp_le _ _).mpr q)) h
    refine lv_lload_n hx hb dX6_wholes_174 rfl (lv_at hl 0 rfl) ?_
    refine lv_goto (tgt := 179) hx hb dX6_wholes_175 (by decide) ?_
    have h := Option.some.inj h
    subst h
    exact g_lret X hI dX6_wholes_179
def f_X6_wholes_156 (x1 : Int64) (x3 : Int64) : Option Int64 :=
  if x3 ≤ x1 then
    some x3
  else
  some x1
set_option maxHeartbeats 4000000 in
set_option maxRecDepth 100000 in
theorem b_X6_wholes_156 {p : Program} {l : Launch} {e : Env} {s : State} {m : MethodId} {args : Array Value} {below : List Frame} {meth : Method} {c : Code} {E : gE} {G0 : gG} {n0 : Nat} (X : g_X E G0 n0 p s m args meth c cX6_wholes 10 RX6 "wholes" (some .long)) {G : gG} {n : Nat} {r : Int64} {H : Heap} {locs : List Loc} (hI : g_I E (g_A G0 n0) G n s.heap H locs) {x1 : Int64} {x3 : Int64} (h : f_X6_wholes_156 x1 x3 = some r) {ls : Array Slot} (hl : lv_has ls 10 [(1, .long x1), (3, .long x3)]) : W p l e rm_X6_wholes s m args below meth c H locs 0 0 (MQ below (g_Q E G0 n0 (some (.long r)) G n) args s rm_X6_wholes.cells rm_X6_wholes.slots (g_A G0 n0)) (F0 m 156 ls []) := by
  have hx := X.1
  have hb := X.2.1
  unfold f_X6_wholes_156 at h
  refine lv_lload_n hx hb dX6_wholes_156 rfl (lv_at hl 0 rfl) ?_
  refine lv_lload_n hx hb dX6_wholes_157 rfl (lv_at hl 1 rfl) ?_
  refine W.lcmp hx hb dX6_wholes_158 ?_
  refine lv_if_ge (tgt := 166) hx hb dX6_wholes_159 (by decide) (fun c => ?_) (fun c => ?_)
  · have h := g_t _ ((lg_cmp_ge _ _).mp c) h
    refine lv_lload_n hx hb dX6_wholes_166 rfl (lv_at hl 1 rfl) ?_
    have h := Option.some.inj h
    subst h
    exact g_lret X hI dX6_wholes_167
  · have h := g_f _ (fun q => c ((lg_cmp_ge _ _).mpr q)) h
    refine lv_lload_n hx hb dX6_wholes_162 rfl (lv_at hl 0 rfl) ?_
    refine lv_goto (tgt := 167) hx hb dX6_wholes_163 (by decide) ?_
    have h := Option.some.inj h
    subst h
    exact g_lret X hI dX6_wholes_167
def f_X6_wholes_24 (x0 : Int32) (x1 : Int64) (x3 : Int64) (x5 : Int32) (s0 : Int32) : Option Int64 :=
  gl (((Int64.toInt32 x3) &&& s0) : Int32) fun v1 =>
  if x0 = 0 then
    some (x1 + x3)
  else
  if x0 = 1 then
    some (x1 - x3)
  else
  if x0 = 2 then
    some (x1 * x3)
  else
  if x0 = 3 then
    f_X6_wholes_235 x1 x3
  else
  if x0 = 4 then
    gneL x3 <|
    some (x1 / x3)
  else
  if x0 = 5 then
    gb (f_X6_downward x1 x3) fun r2 =>
    some r2
  else
  if x0 = 6 then
    gneL x3 <|
    some (g_lrem x1 x3)
  else
  if x0 = 7 then
    gb (f_X6_downward x1 x3) fun r3 =>
    some (x1 - (r3 * x3))
  else
  if x0 = 8 then
    f_X6_wholes_156 x1 x3
  else
  if x0 = 9 then
    f_X6_wholes_168 x1 x3
  else
  if x0 = 10 then
    f_X6_wholes_156 x1 x3
  else
  if x0 = 11 then
    f_X6_wholes_168 x1 x3
  else
  if x0 = 12 then
    some (x1 &&& x3)
  else
  if x0 = 13 then
    some (x1 ||| x3)
  else
  if x0 = 14 then
    some (x1 ^^^ x3)
  else
  if x0 = 15 then
    some (g_lshl x1 v1)
  else
  if x0 = 16 then
    some (g_lshr x1 v1)
  else
  if x0 = 17 then
    if x5 = 1 then
      some (g_lushr (x1 &&& 255) v1)
    else
    if x5 = 2 then
      some (g_lushr (x1 &&& 4294967295) v1)
    else
    some (g_lushr x1 v1)
  else
  f_X6_wholes_235 x1 x3
set_option maxHeartbeats 4000000 in
set_option maxRecDepth 100000 in
theorem b_X6_wholes_24 {p : Program} {l : Launch} {e : Env} {s : State} {m : MethodId} {args : Array Value} {below : List Frame} {meth : Method} {c : Code} {E : gE} {G0 : gG} {n0 : Nat} (X : g_X E G0 n0 p s m args meth c cX6_wholes 10 RX6 "wholes" (some .long)) {G : gG} {n : Nat} {r : Int64} {H : Heap} {locs : List Loc} (hI : g_I E (g_A G0 n0) G n s.heap H locs) {x0 : Int32} {x1 : Int64} {x3 : Int64} {x5 : Int32} {s0 : Int32} (h : f_X6_wholes_24 x0 x1 x3 x5 s0 = some r) {ls : Array Slot} (hl : lv_has ls 10 [(0, .int x0), (1, .long x1), (3, .long x3), (5, .int x5)]) : W p l e rm_X6_wholes s m args below meth c H locs 0 0 (MQ below (g_Q E G0 n0 (some (.long r)) G n) args s rm_X6_wholes.cells rm_X6_wholes.slots (g_A G0 n0)) (F0 m 24 ls [.int s0]) := by
  have hx := X.1
  have hb := X.2.1
  unfold f_X6_wholes_24 at h
  refine lv_istore (lv' := [(6, .int s0), (0, .int x0), (1, .long x1), (3, .long x3), (5, .int x5)]) hx hb dX6_wholes_24 hl (by decide) rfl (fun ls hl => ?_)
  refine lv_lload_n hx hb dX6_wholes_26 rfl (lv_at hl 3 rfl) ?_
  refine lv_l2i (v := (Int64.toInt32 x3)) hx hb dX6_wholes_27 rfl ?_
  refine lv_iload hx hb dX6_wholes_28 (lv_at hl 0 rfl) ?_
  refine lv_iand (x := (Int64.toInt32 x3)) (y := s0) hx hb dX6_wholes_30 ?_
  obtain ⟨v1, ev1, h⟩ := gl_s h
  refine g_topi ev1 ?_
  refine lv_istore (lv' := [(7, .int v1), (6, .int s0), (0, .int x0), (1, .long x1), (3, .long x3), (5, .int x5)]) hx hb dX6_wholes_31 hl (by decide) rfl (fun ls hl => ?_)
  refine lv_iload_n hx hb dX6_wholes_33 rfl (lv_at hl 2 rfl) ?_
  by_cases c0 : x0 = 0
  · have h := g_t _ c0 h
    refine lv_tableIn (off := 86) (tgt := 120) hx hb dX6_wholes_34 (by rw [c0]; decide) (by rw [c0]; decide) (by rw [c0]; rfl) (by decide) ?_
    refine lv_lload_n hx hb dX6_wholes_120 rfl (lv_at hl 3 rfl) ?_
    refine lv_lload_n hx hb dX6_wholes_121 rfl (lv_at hl 4 rfl) ?_
    refine lv_ladd (x := x1) (y := x3) hx hb dX6_wholes_122 ?_
    have h := Option.some.inj h
    subst h
    exact g_lret X hI dX6_wholes_123
  · have h := g_f _ c0 h
    by_cases c1 : x0 = 1
    · have h := g_t _ c1 h
      refine lv_tableIn (off := 90) (tgt := 124) hx hb dX6_wholes_34 (by rw [c1]; decide) (by rw [c1]; decide) (by rw [c1]; rfl) (by decide) ?_
      refine lv_lload_n hx hb dX6_wholes_124 rfl (lv_at hl 3 rfl) ?_
      refine lv_lload_n hx hb dX6_wholes_125 rfl (lv_at hl 4 rfl) ?_
      refine lv_lsub (x := x1) (y := x3) hx hb dX6_wholes_126 ?_
      have h := Option.some.inj h
      subst h
      exact g_lret X hI dX6_wholes_127
    · have h := g_f _ c1 h
      by_cases c2 : x0 = 2
      · have h := g_t _ c2 h
        refine lv_tableIn (off := 94) (tgt := 128) hx hb dX6_wholes_34 (by rw [c2]; decide) (by rw [c2]; decide) (by rw [c2]; rfl) (by decide) ?_
        refine lv_lload_n hx hb dX6_wholes_128 rfl (lv_at hl 3 rfl) ?_
        refine lv_lload_n hx hb dX6_wholes_129 rfl (lv_at hl 4 rfl) ?_
        refine lv_lmul (x := x1) (y := x3) hx hb dX6_wholes_130 ?_
        have h := Option.some.inj h
        subst h
        exact g_lret X hI dX6_wholes_131
      · have h := g_f _ c2 h
        by_cases c3 : x0 = 3
        · have h := g_t _ c3 h
          refine lv_tableIn (off := 201) (tgt := 235) hx hb dX6_wholes_34 (by rw [c3]; decide) (by rw [c3]; decide) (by rw [c3]; rfl) (by decide) ?_
          exact b_X6_wholes_235 X hI h (lv_sub hl [3, 4] rfl)
        · have h := g_f _ c3 h
          by_cases c4 : x0 = 4
          · have h := g_t _ c4 h
            refine lv_tableIn (off := 98) (tgt := 132) hx hb dX6_wholes_34 (by rw [c4]; decide) (by rw [c4]; decide) (by rw [c4]; rfl) (by decide) ?_
            refine lv_lload_n hx hb dX6_wholes_132 rfl (lv_at hl 3 rfl) ?_
            refine lv_lload_n hx hb dX6_wholes_133 rfl (lv_at hl 4 rfl) ?_
            obtain ⟨cz, h⟩ := gneL_s h
            refine lv_ldiv hx hb dX6_wholes_134 cz ?_
            have h := Option.some.inj h
            subst h
            exact g_lret X hI dX6_wholes_135
          · have h := g_f _ c4 h
            by_cases c5 : x0 = 5
            · have h := g_t _ c5 h
              refine lv_tableIn (off := 102) (tgt := 136) hx hb dX6_wholes_34 (by rw [c5]; decide) (by rw [c5]; decide) (by rw [c5]; rfl) (by decide) ?_
              refine lv_lload_n hx hb dX6_wholes_136 rfl (lv_at hl 3 rfl) ?_
              refine lv_lload_n hx hb dX6_wholes_137 rfl (lv_at hl 4 rfl) ?_
              obtain ⟨r2, er2, h⟩ := gb_s h
              refine g_callS X hI (av := [.long x1, .long x3]) (c_X6_downward er2) gm_X6_downward tw_4_53 tw_4_54 ⟨by decide, by decide⟩ hl.1 (rest := []) rfl (Nat.le_of_ble_eq_true rfl) dX6_wholes_138 ⟨by decide, by decide⟩ (st1 := [.long r2]) rfl (cells' := 0) (slots' := 0) rfl rfl (fun H locs hI => ?_)
              have h := Option.some.inj h
              subst h
              exact g_lret X hI dX6_wholes_141
            · have h := g_f _ c5 h
              by_cases c6 : x0 = 6
              · have h := g_t _ c6 h
                refine lv_tableIn (off := 108) (tgt := 142) hx hb dX6_wholes_34 (by rw [c6]; decide) (by rw [c6]; decide) (by rw [c6]; rfl) (by decide) ?_
                refine lv_lload_n hx hb dX6_wholes_142 rfl (lv_at hl 3 rfl) ?_
                refine lv_lload_n hx hb dX6_wholes_143 rfl (lv_at hl 4 rfl) ?_
                obtain ⟨cz, h⟩ := gneL_s h
                refine lv_lrem hx hb dX6_wholes_144 cz ?_
                have h := Option.some.inj h
                subst h
                exact g_lret X hI dX6_wholes_145
              · have h := g_f _ c6 h
                by_cases c7 : x0 = 7
                · have h := g_t _ c7 h
                  refine lv_tableIn (off := 112) (tgt := 146) hx hb dX6_wholes_34 (by rw [c7]; decide) (by rw [c7]; decide) (by rw [c7]; rfl) (by decide) ?_
                  refine lv_lload_n hx hb dX6_wholes_146 rfl (lv_at hl 3 rfl) ?_
                  refine lv_lload_n hx hb dX6_wholes_147 rfl (lv_at hl 3 rfl) ?_
                  refine lv_lload_n hx hb dX6_wholes_148 rfl (lv_at hl 4 rfl) ?_
                  obtain ⟨r3, er3, h⟩ := gb_s h
                  refine g_callS X hI (av := [.long x1, .long x3]) (c_X6_downward er3) gm_X6_downward tw_4_53 tw_4_54 ⟨by decide, by decide⟩ hl.1 (rest := [.long x1]) rfl (Nat.le_of_ble_eq_true rfl) dX6_wholes_149 ⟨by decide, by decide⟩ (st1 := [.long r3, .long x1]) rfl (cells' := 0) (slots' := 0) rfl rfl (fun H locs hI => ?_)
                  refine lv_lload_n hx hb dX6_wholes_152 rfl (lv_at hl 4 rfl) ?_
                  refine lv_lmul (x := r3) (y := x3) hx hb dX6_wholes_153 ?_
                  refine lv_lsub (x := x1) (y := (r3 * x3)) hx hb dX6_wholes_154 ?_
                  have h := Option.some.inj h
                  subst h
                  exact g_lret X hI dX6_wholes_155
                · have h := g_f _ c7 h
                  by_cases c8 : x0 = 8
                  · have h := g_t _ c8 h
                    refine lv_tableIn (off := 122) (tgt := 156) hx hb dX6_wholes_34 (by rw [c8]; decide) (by rw [c8]; decide) (by rw [c8]; rfl) (by decide) ?_
                    exact b_X6_wholes_156 X hI h (lv_sub hl [3, 4] rfl)
                  · have h := g_f _ c8 h
                    by_cases c9 : x0 = 9
                    · have h := g_t _ c9 h
                      refine lv_tableIn (off := 134) (tgt := 168) hx hb dX6_wholes_34 (by rw [c9]; decide) (by rw [c9]; decide) (by rw [c9]; rfl) (by decide) ?_
                      exact b_X6_wholes_168 X hI h (lv_sub hl [3, 4] rfl)
                    · have h := g_f _ c9 h
                      by_cases c10 : x0 = 10
                      · have h := g_t _ c10 h
                        refine lv_tableIn (off := 122) (tgt := 156) hx hb dX6_wholes_34 (by rw [c10]; decide) (by rw [c10]; decide) (by rw [c10]; rfl) (by decide) ?_
                        exact b_X6_wholes_156 X hI h (lv_sub hl [3, 4] rfl)
                      · have h := g_f _ c10 h
                        by_cases c11 : x0 = 11
                        · have h := g_t _ c11 h
                          refine lv_tableIn (off := 134) (tgt := 168) hx hb dX6_wholes_34 (by rw [c11]; decide) (by rw [c11]; decide) (by rw [c11]; rfl) (by decide) ?_
                          exact b_X6_wholes_168 X hI h (lv_sub hl [3, 4] rfl)
                        · have h := g_f _ c11 h
                          by_cases c12 : x0 = 12
                          · have h := g_t _ c12 h
                            refine lv_tableIn (off := 146) (tgt := 180) hx hb dX6_wholes_34 (by rw [c12]; decide) (by rw [c12]; decide) (by rw [c12]; rfl) (by decide) ?_
                            refine lv_lload_n hx hb dX6_wholes_180 rfl (lv_at hl 3 rfl) ?_
                            refine lv_lload_n hx hb dX6_wholes_181 rfl (lv_at hl 4 rfl) ?_
                            refine lv_land (x := x1) (y := x3) hx hb dX6_wholes_182 ?_
                            have h := Option.some.inj h
                            subst h
                            exact g_lret X hI dX6_wholes_183
                          · have h := g_f _ c12 h
                            by_cases c13 : x0 = 13
                            · have h := g_t _ c13 h
                              refine lv_tableIn (off := 150) (tgt := 184) hx hb dX6_wholes_34 (by rw [c13]; decide) (by rw [c13]; decide) (by rw [c13]; rfl) (by decide) ?_
                              refine lv_lload_n hx hb dX6_wholes_184 rfl (lv_at hl 3 rfl) ?_
                              refine lv_lload_n hx hb dX6_wholes_185 rfl (lv_at hl 4 rfl) ?_
                              refine lv_lor (x := x1) (y := x3) hx hb dX6_wholes_186 ?_
                              have h := Option.some.inj h
                              subst h
                              exact g_lret X hI dX6_wholes_187
                            · have h := g_f _ c13 h
                              by_cases c14 : x0 = 14
                              · have h := g_t _ c14 h
                                refine lv_tableIn (off := 154) (tgt := 188) hx hb dX6_wholes_34 (by rw [c14]; decide) (by rw [c14]; decide) (by rw [c14]; rfl) (by decide) ?_
                                refine lv_lload_n hx hb dX6_wholes_188 rfl (lv_at hl 3 rfl) ?_
                                refine lv_lload_n hx hb dX6_wholes_189 rfl (lv_at hl 4 rfl) ?_
                                refine lv_lxor (x := x1) (y := x3) hx hb dX6_wholes_190 ?_
                                have h := Option.some.inj h
                                subst h
                                exact g_lret X hI dX6_wholes_191
                              · have h := g_f _ c14 h
                                by_cases c15 : x0 = 15
                                · have h := g_t _ c15 h
                                  refine lv_tableIn (off := 158) (tgt := 192) hx hb dX6_wholes_34 (by rw [c15]; decide) (by rw [c15]; decide) (by rw [c15]; rfl) (by decide) ?_
                                  refine lv_lload_n hx hb dX6_wholes_192 rfl (lv_at hl 3 rfl) ?_
                                  refine lv_iload hx hb dX6_wholes_193 (lv_at hl 0 rfl) ?_
                                  refine lv_lshl (v := (g_lshl x1 v1)) hx hb dX6_wholes_195 rfl ?_
                                  have h := Option.some.inj h
                                  subst h
                                  exact g_lret X hI dX6_wholes_196
                                · have h := g_f _ c15 h
                                  by_cases c16 : x0 = 16
                                  · have h := g_t _ c16 h
                                    refine lv_tableIn (off := 163) (tgt := 197) hx hb dX6_wholes_34 (by rw [c16]; decide) (by rw [c16]; decide) (by rw [c16]; rfl) (by decide) ?_
                                    refine lv_lload_n hx hb dX6_wholes_197 rfl (lv_at hl 3 rfl) ?_
                                    refine lv_iload hx hb dX6_wholes_198 (lv_at hl 0 rfl) ?_
                                    refine lv_lshr (v := (g_lshr x1 v1)) hx hb dX6_wholes_200 rfl ?_
                                    have h := Option.some.inj h
                                    subst h
                                    exact g_lret X hI dX6_wholes_201
                                  · have h := g_f _ c16 h
                                    by_cases c17 : x0 = 17
                                    · have h := g_t _ c17 h
                                      refine lv_tableIn (off := 168) (tgt := 202) hx hb dX6_wholes_34 (by rw [c17]; decide) (by rw [c17]; decide) (by rw [c17]; rfl) (by decide) ?_
                                      refine lv_iload hx hb dX6_wholes_202 (lv_at hl 5 rfl) ?_
                                      refine lv_iconst (v := 1) hx hb dX6_wholes_204 (by decide) ?_
                                      refine lv_icmp_ne (tgt := 216) hx hb dX6_wholes_205 (by decide) (fun c => ?_) (fun c => ?_)
                                      · have h := g_f _ c h
                                        refine lv_iload hx hb dX6_wholes_216 (lv_at hl 5 rfl) ?_
                                        refine lv_iconst (v := 2) hx hb dX6_wholes_218 (by decide) ?_
                                        refine lv_icmp_ne (tgt := 230) hx hb dX6_wholes_219 (by decide) (fun c => ?_) (fun c => ?_)
                                        · have h := g_f _ c h
                                          refine lv_lload_n hx hb dX6_wholes_230 rfl (lv_at hl 3 rfl) ?_
                                          refine lv_iload hx hb dX6_wholes_231 (lv_at hl 0 rfl) ?_
                                          refine lv_lushr (v := (g_lushr x1 v1)) hx hb dX6_wholes_233 rfl ?_
                                          have h := Option.some.inj h
                                          subst h
                                          exact g_lret X hI dX6_wholes_234
                                        · have h := g_t _ c h
                                          refine lv_lload_n hx hb dX6_wholes_222 rfl (lv_at hl 3 rfl) ?_
                                          refine lv_ldc2 (v := 4294967295) hx hb X.2.2.2.1 (X.2.2.2.2.1 _ tw_4_56) dX6_wholes_223 ?_
                                          refine lv_land (x := x1) (y := 4294967295) hx hb dX6_wholes_226 ?_
                                          refine lv_goto (tgt := 231) hx hb dX6_wholes_227 (by decide) ?_
                                          refine lv_iload hx hb dX6_wholes_231 (lv_at hl 0 rfl) ?_
                                          refine lv_lushr (v := (g_lushr (x1 &&& 4294967295) v1)) hx hb dX6_wholes_233 rfl ?_
                                          have h := Option.some.inj h
                                          subst h
                                          exact g_lret X hI dX6_wholes_234
                                      · have h := g_t _ c h
                                        refine lv_lload_n hx hb dX6_wholes_208 rfl (lv_at hl 3 rfl) ?_
                                        refine lv_ldc2 (v := 255) hx hb X.2.2.2.1 (X.2.2.2.2.1 _ tw_4_8) dX6_wholes_209 ?_
                                        refine lv_land (x := x1) (y := 255) hx hb dX6_wholes_212 ?_
                                        refine lv_goto (tgt := 231) hx hb dX6_wholes_213 (by decide) ?_
                                        refine lv_iload hx hb dX6_wholes_231 (lv_at hl 0 rfl) ?_
                                        refine lv_lushr (v := (g_lushr (x1 &&& 255) v1)) hx hb dX6_wholes_233 rfl ?_
                                        have h := Option.some.inj h
                                        subst h
                                        exact g_lret X hI dX6_wholes_234
                                    · have h := g_f _ c17 h
                                      refine lv_tableOut (tgt := 235) hx hb dX6_wholes_34 (by have q0 := lv_neT (a := 0) c0 (by decide); have q1 := lv_neT (a := 1) c1 (by decide); have q2 := lv_neT (a := 2) c2 (by decide); have q3 := lv_neT (a := 3) c3 (by decide); have q4 := lv_neT (a := 4) c4 (by decide); have q5 := lv_neT (a := 5) c5 (by decide); have q6 := lv_neT (a := 6) c6 (by decide); have q7 := lv_neT (a := 7) c7 (by decide); have q8 := lv_neT (a := 8) c8 (by decide); have q9 := lv_neT (a := 9) c9 (by decide); have q10 := lv_neT (a := 10) c10 (by decide); have q11 := lv_neT (a := 11) c11 (by decide); have q12 := lv_neT (a := 12) c12 (by decide); have q13 := lv_neT (a := 13) c13 (by decide); have q14 := lv_neT (a := 14) c14 (by decide); have q15 := lv_neT (a := 15) c15 (by decide); have q16 := lv_neT (a := 16) c16 (by decide); have q17 := lv_neT (a := 17) c17 (by decide); omega) (by decide) ?_
                                      exact b_X6_wholes_235 X hI h (lv_sub hl [3, 4] rfl)
def f_X6_wholes (a0 : Int32) (a1 : Int64) (a3 : Int64) (a5 : Int32) : Option Int64 :=
  if a5 = 1 then
    f_X6_wholes_24 a0 a1 a3 a5 7
  else
  if a5 = 2 then
    f_X6_wholes_24 a0 a1 a3 a5 31
  else
  f_X6_wholes_24 a0 a1 a3 a5 63
theorem gm_X6_wholes : g_M yX6_wholes cX6_wholes 10 (some .long) 4 := ⟨tw_4_52, tw_1_5, by decide +kernel, Or.inl (by decide +kernel)⟩
set_option maxHeartbeats 4000000 in
set_option maxRecDepth 100000 in
theorem c_X6_wholes {l : Launch} {E : gE} {G : gG} {n : Nat} {a0 : Int32} {a1 : Int64} {a3 : Int64} {a5 : Int32} {r : Int64} (h : f_X6_wholes a0 a1 a3 a5 = some r) : g_Met l yX6_wholes cX6_wholes 10 (some .long) rm_X6_wholes E G n [.int a0, .long a1, .long a3, .int a5] (some (.long r)) G n := by
  refine g_ofW gm_X6_wholes (Nat.le_of_ble_eq_true rfl) ?_
  intro p e s m below meth c ls X hl hI
  have hx := X.1
  have hb := X.2.1
  have X : g_X E G n p s m _ meth c cX6_wholes 10 RX6 "wholes" (some .long) := X
  have hl : lv_has ls 10 [(0, .int a0), (1, .long a1), (3, .long a3), (5, .int a5)] := hl
  unfold f_X6_wholes at h
  refine lv_iload hx hb dX6_wholes_0 (lv_at hl 3 rfl) ?_
  refine lv_iconst (v := 1) hx hb dX6_wholes_2 (by decide) ?_
  refine lv_icmp_ne (tgt := 11) hx hb dX6_wholes_3 (by decide) (fun c => ?_) (fun c => ?_)
  · have h := g_f _ c h
    refine lv_iload hx hb dX6_wholes_11 (lv_at hl 3 rfl) ?_
    refine lv_iconst (v := 2) hx hb dX6_wholes_13 (by decide) ?_
    refine lv_icmp_ne (tgt := 22) hx hb dX6_wholes_14 (by decide) (fun c => ?_) (fun c => ?_)
    · have h := g_f _ c h
      refine lv_bipush (v := 63) hx hb dX6_wholes_22 (by decide) ?_
      exact b_X6_wholes_24 X hI h (lv_sub hl [0, 1, 2, 3] rfl)
    · have h := g_t _ c h
      refine lv_bipush (v := 31) hx hb dX6_wholes_17 (by decide) ?_
      refine lv_goto (tgt := 24) hx hb dX6_wholes_19 (by decide) ?_
      exact b_X6_wholes_24 X hI h (lv_sub hl [0, 1, 2, 3] rfl)
  · have h := g_t _ c h
    refine lv_bipush (v := 7) hx hb dX6_wholes_6 (by decide) ?_
    refine lv_goto (tgt := 24) hx hb dX6_wholes_8 (by decide) ?_
    exact b_X6_wholes_24 X hI h (lv_sub hl [0, 1, 2, 3] rfl)
abbrev rm_X6_onWhole : Room := { frames := 0, cells := 0, slots := 0, locals := 0 }
def f_X6_onWhole (a0 : Int32) (a1 : Int64) (a3 : Int32) : Int64 :=
  if a0 = 0 then
    (-a1)
  else
  if a0 = 1 then
    if (0 : Int64) ≤ a1 then
      a1
    else
    (-a1)
  else
  if a0 = 2 then
    if (0 : Int64) ≤ a1 then
      if a1 ≤ 0 then
        0
      else
      1
    else
    (-1)
  else
  if a0 = 3 then
    a1
  else
  if a0 = 4 then
    a1
  else
  if a0 = 5 then
    a1
  else
  if a0 = 6 then
    a1
  else
  if a0 = 7 then
    if a3 = 0 then
      ((1 : Int64) - a1)
    else
    ((-1 : Int64) - a1)
  else
  a1
theorem gm_X6_onWhole : g_M yX6_onWhole cX6_onWhole 4 (some .long) 3 := ⟨tw_4_71, tw_1_5, by decide +kernel, Or.inl (by decide +kernel)⟩
set_option maxHeartbeats 4000000 in
set_option maxRecDepth 100000 in
theorem c_X6_onWhole {l : Launch} {E : gE} {G : gG} {n : Nat} (a0 : Int32) (a1 : Int64) (a3 : Int32) : g_Met l yX6_onWhole cX6_onWhole 4 (some .long) rm_X6_onWhole E G n [.int a0, .long a1, .int a3] (some (.long (f_X6_onWhole a0 a1 a3))) G n := by
  generalize h : f_X6_onWhole a0 a1 a3 = r
  refine g_ofW gm_X6_onWhole (Nat.le_of_ble_eq_true rfl) ?_
  intro p e s m below meth c ls X hl hI
  have hx := X.1
  have hb := X.2.1
  have X : g_X E G n p s m _ meth c cX6_onWhole 4 RX6 "onWhole" (some .long) := X
  have hl : lv_has ls 4 [(0, .int a0), (1, .long a1), (3, .int a3)] := hl
  unfold f_X6_onWhole at h
  refine lv_iload_n hx hb dX6_onWhole_0 rfl (lv_at hl 0 rfl) ?_
  by_cases c0 : a0 = 0
  · have h := g_t _ c0 h
    refine lv_tableIn (off := 47) (tgt := 48) hx hb dX6_onWhole_1 (by rw [c0]; decide) (by rw [c0]; decide) (by rw [c0]; rfl) (by decide) ?_
    refine lv_lload_n hx hb dX6_onWhole_48 rfl (lv_at hl 1 rfl) ?_
    refine lv_lneg hx hb dX6_onWhole_49 ?_
    subst h
    exact g_lret X hI dX6_onWhole_50
  · have h := g_f _ c0 h
    by_cases c1 : a0 = 1
    · have h := g_t _ c1 h
      refine lv_tableIn (off := 50) (tgt := 51) hx hb dX6_onWhole_1 (by rw [c1]; decide) (by rw [c1]; decide) (by rw [c1]; rfl) (by decide) ?_
      refine lv_lload_n hx hb dX6_onWhole_51 rfl (lv_at hl 1 rfl) ?_
      refine lv_lconst (v := 0) hx hb dX6_onWhole_52 (by decide) ?_
      refine W.lcmp hx hb dX6_onWhole_53 ?_
      refine lv_if_ge (tgt := 62) hx hb dX6_onWhole_54 (by decide) (fun c => ?_) (fun c => ?_)
      · have h := g_t _ ((lg_cmp_ge _ _).mp c) h
        refine lv_lload_n hx hb dX6_onWhole_62 rfl (lv_at hl 1 rfl) ?_
        subst h
        exact g_lret X hI dX6_onWhole_63
      · have h := g_f _ (fun q => c ((lg_cmp_ge _ _).mpr q)) h
        refine lv_lload_n hx hb dX6_onWhole_57 rfl (lv_at hl 1 rfl) ?_
        refine lv_lneg hx hb dX6_onWhole_58 ?_
        refine lv_goto (tgt := 63) hx hb dX6_onWhole_59 (by decide) ?_
        subst h
        exact g_lret X hI dX6_onWhole_63
    · have h := g_f _ c1 h
      by_cases c2 : a0 = 2
      · have h := g_t _ c2 h
        refine lv_tableIn (off := 63) (tgt := 64) hx hb dX6_onWhole_1 (by rw [c2]; decide) (by rw [c2]; decide) (by rw [c2]; rfl) (by decide) ?_
        refine lv_lload_n hx hb dX6_onWhole_64 rfl (lv_at hl 1 rfl) ?_
        refine lv_lconst (v := 0) hx hb dX6_onWhole_65 (by decide) ?_
        refine W.lcmp hx hb dX6_onWhole_66 ?_
        refine lv_if_ge (tgt := 76) hx hb dX6_onWhole_67 (by decide) (fun c => ?_) (fun c => ?_)
        · have h := g_t _ ((lg_cmp_ge _ _).mp c) h
          refine lv_lload_n hx hb dX6_onWhole_76 rfl (lv_at hl 1 rfl) ?_
          refine lv_lconst (v := 0) hx hb dX6_onWhole_77 (by decide) ?_
          refine W.lcmp hx hb dX6_onWhole_78 ?_
          refine lv_if_le (tgt := 86) hx hb dX6_onWhole_79 (by decide) (fun c => ?_) (fun c => ?_)
          · have h := g_t _ ((lg_cmp_le _ _).mp c) h
            refine lv_lconst (v := 0) hx hb dX6_onWhole_86 (by decide) ?_
            subst h
            exact g_lret X hI dX6_onWhole_87
          · have h := g_f _ (fun q => c ((lg_cmp_le _ _).mpr q)) h
            refine lv_lconst (v := 1) hx hb dX6_onWhole_82 (by decide) ?_
            refine lv_goto (tgt := 87) hx hb dX6_onWhole_83 (by decide) ?_
            subst h
            exact g_lret X hI dX6_onWhole_87
        · have h := g_f _ (fun q => c ((lg_cmp_ge _ _).mpr q)) h
          refine lv_ldc2 (v := (-1)) hx hb X.2.2.2.1 (X.2.2.2.2.1 _ tw_3_147) dX6_onWhole_70 ?_
          refine lv_goto (tgt := 87) hx hb dX6_onWhole_73 (by decide) ?_
          subst h
          exact g_lret X hI dX6_onWhole_87
      · have h := g_f _ c2 h
        by_cases c3 : a0 = 3
        · have h := g_t _ c3 h
          refine lv_tableIn (off := 103) (tgt := 104) hx hb dX6_onWhole_1 (by rw [c3]; decide) (by rw [c3]; decide) (by rw [c3]; rfl) (by decide) ?_
          refine lv_lload_n hx hb dX6_onWhole_104 rfl (lv_at hl 1 rfl) ?_
          subst h
          exact g_lret X hI dX6_onWhole_105
        · have h := g_f _ c3 h
          by_cases c4 : a0 = 4
          · have h := g_t _ c4 h
            refine lv_tableIn (off := 103) (tgt := 104) hx hb dX6_onWhole_1 (by rw [c4]; decide) (by rw [c4]; decide) (by rw [c4]; rfl) (by decide) ?_
            refine lv_lload_n hx hb dX6_onWhole_104 rfl (lv_at hl 1 rfl) ?_
            subst h
            exact g_lret X hI dX6_onWhole_105
          · have h := g_f _ c4 h
            by_cases c5 : a0 = 5
            · have h := g_t _ c5 h
              refine lv_tableIn (off := 103) (tgt := 104) hx hb dX6_onWhole_1 (by rw [c5]; decide) (by rw [c5]; decide) (by rw [c5]; rfl) (by decide) ?_
              refine lv_lload_n hx hb dX6_onWhole_104 rfl (lv_at hl 1 rfl) ?_
              subst h
              exact g_lret X hI dX6_onWhole_105
            · have h := g_f _ c5 h
              by_cases c6 : a0 = 6
              · have h := g_t _ c6 h
                refine lv_tableIn (off := 103) (tgt := 104) hx hb dX6_onWhole_1 (by rw [c6]; decide) (by rw [c6]; decide) (by rw [c6]; rfl) (by decide) ?_
                refine lv_lload_n hx hb dX6_onWhole_104 rfl (lv_at hl 1 rfl) ?_
                subst h
                exact g_lret X hI dX6_onWhole_105
              · have h := g_f _ c6 h
                by_cases c7 : a0 = 7
                · have h := g_t _ c7 h
                  refine lv_tableIn (off := 87) (tgt := 88) hx hb dX6_onWhole_1 (by rw [c7]; decide) (by rw [c7]; decide) (by rw [c7]; rfl) (by decide) ?_
                  refine lv_iload_n hx hb dX6_onWhole_88 rfl (lv_at hl 2 rfl) ?_
                  refine lv_if_ne (tgt := 98) hx hb dX6_onWhole_89 (by decide) (fun c => ?_) (fun c => ?_)
                  · have h := g_f _ c h
                    refine lv_ldc2 (v := (-1)) hx hb X.2.2.2.1 (X.2.2.2.2.1 _ tw_3_147) dX6_onWhole_98 ?_
                    refine lv_lload_n hx hb dX6_onWhole_101 rfl (lv_at hl 1 rfl) ?_
                    refine lv_lsub (x := (-1)) (y := a1) hx hb dX6_onWhole_102 ?_
                    subst h
                    exact g_lret X hI dX6_onWhole_103
                  · have h := g_t _ c h
                    refine lv_lconst (v := 1) hx hb dX6_onWhole_92 (by decide) ?_
                    refine lv_lload_n hx hb dX6_onWhole_93 rfl (lv_at hl 1 rfl) ?_
                    refine lv_lsub (x := 1) (y := a1) hx hb dX6_onWhole_94 ?_
                    refine lv_goto (tgt := 103) hx hb dX6_onWhole_95 (by decide) ?_
                    subst h
                    exact g_lret X hI dX6_onWhole_103
                · have h := g_f _ c7 h
                  refine lv_tableOut (tgt := 104) hx hb dX6_onWhole_1 (by have q0 := lv_neT (a := 0) c0 (by decide); have q1 := lv_neT (a := 1) c1 (by decide); have q2 := lv_neT (a := 2) c2 (by decide); have q3 := lv_neT (a := 3) c3 (by decide); have q4 := lv_neT (a := 4) c4 (by decide); have q5 := lv_neT (a := 5) c5 (by decide); have q6 := lv_neT (a := 6) c6 (by decide); have q7 := lv_neT (a := 7) c7 (by decide); omega) (by decide) ?_
                  refine lv_lload_n hx hb dX6_onWhole_104 rfl (lv_at hl 1 rfl) ?_
                  subst h
                  exact g_lret X hI dX6_onWhole_105
abbrev rm_X6_onReal : Room := { frames := 3, cells := 0, slots := 0, locals := 83 }
def f_X6_onReal_87 (s0 : Int32) : Option Int64 :=
  gb (f_X6_pack s0 (1 : Int64) (0 : Int32)) fun r1 =>
  some r1
set_option maxHeartbeats 4000000 in
set_option maxRecDepth 100000 in
theorem b_X6_onReal_87 {p : Program} {l : Launch} {e : Env} {s : State} {m : MethodId} {args : Array Value} {below : List Frame} {meth : Method} {c : Code} {E : gE} {G0 : gG} {n0 : Nat} (X : g_X E G0 n0 p s m args meth c cX6_onReal 3 RX6 "onReal" (some .long)) {G : gG} {n : Nat} {r : Int64} {H : Heap} {locs : List Loc} (hI : g_I E (g_A G0 n0) G n s.heap H locs) {s0 : Int32} (h : f_X6_onReal_87 s0 = some r) {ls : Array Slot} (hl : lv_has ls 3 []) : W p l e rm_X6_onReal s m args below meth c H locs 0 0 (MQ below (g_Q E G0 n0 (some (.long r)) G n) args s rm_X6_onReal.cells rm_X6_onReal.slots (g_A G0 n0)) (F0 m 87 ls [.int s0]) := by
  have hx := X.1
  have hb := X.2.1
  unfold f_X6_onReal_87 at h
  refine lv_lconst (v := 1) hx hb dX6_onReal_87 (by decide) ?_
  refine lv_iconst (v := 0) hx hb dX6_onReal_88 (by decide) ?_
  obtain ⟨r1, er1, h⟩ := gb_s h
  refine g_callS X hI (av := [.int s0, .long 1, .int 0]) (c_X6_pack er1) gm_X6_pack tw_3_220 tw_3_221 ⟨by decide, by decide⟩ hl.1 (rest := []) rfl (Nat.le_of_ble_eq_true rfl) dX6_onReal_89 ⟨by decide, by decide⟩ (st1 := [.long r1]) rfl (cells' := 0) (slots' := 0) rfl rfl (fun H locs hI => ?_)
  have h := Option.some.inj h
  subst h
  exact g_lret X hI dX6_onReal_92
def f_X6_onReal (a0 : Int32) (a1 : Int64) : Option Int64 :=
  if a0 = 0 then
    some (f_X6_other a1)
  else
  if a0 = 1 then
    if (f_X6_isNan a1) = 0 then
      some (a1 &&& 9223372036854775807)
    else
    some 9221120237041090560
  else
  if a0 = 2 then
    if (f_X6_isNan a1) = 0 then
      if (f_X6_isZero a1) = 0 then
        if (0 : Int64) ≤ a1 then
          f_X6_onReal_87 0
        else
        f_X6_onReal_87 1
      else
      some a1
    else
    some 9221120237041090560
  else
  gb (f_X6_cut a1 (a0 - 3)) fun r1 =>
  some r1
theorem gm_X6_onReal : g_M yX6_onReal cX6_onReal 3 (some .long) 2 := ⟨tw_4_68, tw_1_5, by decide +kernel, Or.inl (by decide +kernel)⟩
set_option maxHeartbeats 4000000 in
set_option maxRecDepth 100000 in
theorem c_X6_onReal {l : Launch} {E : gE} {G : gG} {n : Nat} {a0 : Int32} {a1 : Int64} {r : Int64} (h : f_X6_onReal a0 a1 = some r) : g_Met l yX6_onReal cX6_onReal 3 (some .long) rm_X6_onReal E G n [.int a0, .long a1] (some (.long r)) G n := by
  refine g_ofW gm_X6_onReal (Nat.le_of_ble_eq_true rfl) ?_
  intro p e s m below meth c ls X hl hI
  have hx := X.1
  have hb := X.2.1
  have X : g_X E G n p s m _ meth c cX6_onReal 3 RX6 "onReal" (some .long) := X
  have hl : lv_has ls 3 [(0, .int a0), (1, .long a1)] := hl
  unfold f_X6_onReal at h
  refine lv_iload_n hx hb dX6_onReal_0 rfl (lv_at hl 0 rfl) ?_
  by_cases c0 : a0 = 0
  · have h := g_t _ c0 h
    refine lv_tableIn (off := 27) (tgt := 28) hx hb dX6_onReal_1 (by rw [c0]; decide) (by rw [c0]; decide) (by rw [c0]; rfl) (by decide) ?_
    refine lv_lload_n hx hb dX6_onReal_28 rfl (lv_at hl 1 rfl) ?_
    refine g_callS X hI (av := [.long a1]) (c_X6_other a1) gm_X6_other tw_4_29 tw_4_30 ⟨by decide, by decide⟩ hl.1 (rest := []) rfl (Nat.le_of_ble_eq_true rfl) dX6_onReal_29 ⟨by decide, by decide⟩ (st1 := [.long (f_X6_other a1)]) rfl (cells' := 0) (slots' := 0) rfl rfl (fun H locs hI => ?_)
    have h := Option.some.inj h
    subst h
    exact g_lret X hI dX6_onReal_32
  · have h := g_f _ c0 h
    by_cases c1 : a0 = 1
    · have h := g_t _ c1 h
      refine lv_tableIn (off := 32) (tgt := 33) hx hb dX6_onReal_1 (by rw [c1]; decide) (by rw [c1]; decide) (by rw [c1]; rfl) (by decide) ?_
      refine lv_lload_n hx hb dX6_onReal_33 rfl (lv_at hl 1 rfl) ?_
      refine g_callS X hI (av := [.long a1]) (c_X6_isNan a1) gm_X6_isNan tw_3_137 tw_3_138 ⟨by decide, by decide⟩ hl.1 (rest := []) rfl (Nat.le_of_ble_eq_true rfl) dX6_onReal_34 ⟨by decide, by decide⟩ (st1 := [.int (f_X6_isNan a1)]) rfl (cells' := 0) (slots' := 0) rfl rfl (fun H locs hI => ?_)
      refine lv_if_eq (tgt := 46) hx hb dX6_onReal_37 (by decide) (fun c => ?_) (fun c => ?_)
      · have h := g_t _ c h
        refine lv_lload_n hx hb dX6_onReal_46 rfl (lv_at hl 1 rfl) ?_
        refine lv_ldc2 (v := 9223372036854775807) hx hb X.2.2.2.1 (X.2.2.2.2.1 _ tw_3_140) dX6_onReal_47 ?_
        refine lv_land (x := a1) (y := 9223372036854775807) hx hb dX6_onReal_50 ?_
        have h := Option.some.inj h
        subst h
        exact g_lret X hI dX6_onReal_51
      · have h := g_f _ c h
        refine lv_ldc2 (v := 9221120237041090560) hx hb X.2.2.2.1 (X.2.2.2.2.1 _ tw_3_142) dX6_onReal_40 ?_
        refine lv_goto (tgt := 51) hx hb dX6_onReal_43 (by decide) ?_
        have h := Option.some.inj h
        subst h
        exact g_lret X hI dX6_onReal_51
    · have h := g_f _ c1 h
      by_cases c2 : a0 = 2
      · have h := g_t _ c2 h
        refine lv_tableIn (off := 51) (tgt := 52) hx hb dX6_onReal_1 (by rw [c2]; decide) (by rw [c2]; decide) (by rw [c2]; rfl) (by decide) ?_
        refine lv_lload_n hx hb dX6_onReal_52 rfl (lv_at hl 1 rfl) ?_
        refine g_callS X hI (av := [.long a1]) (c_X6_isNan a1) gm_X6_isNan tw_3_137 tw_3_138 ⟨by decide, by decide⟩ hl.1 (rest := []) rfl (Nat.le_of_ble_eq_true rfl) dX6_onReal_53 ⟨by decide, by decide⟩ (st1 := [.int (f_X6_isNan a1)]) rfl (cells' := 0) (slots' := 0) rfl rfl (fun H locs hI => ?_)
        refine lv_if_eq (tgt := 65) hx hb dX6_onReal_56 (by decide) (fun c => ?_) (fun c => ?_)
        · have h := g_t _ c h
          refine lv_lload_n hx hb dX6_onReal_65 rfl (lv_at hl 1 rfl) ?_
          refine g_callS X hI (av := [.long a1]) (c_X6_isZero a1) gm_X6_isZero tw_4_1 tw_4_2 ⟨by decide, by decide⟩ hl.1 (rest := []) rfl (Nat.le_of_ble_eq_true rfl) dX6_onReal_66 ⟨by decide, by decide⟩ (st1 := [.int (f_X6_isZero a1)]) rfl (cells' := 0) (slots' := 0) rfl rfl (fun H locs hI => ?_)
          refine lv_if_eq (tgt := 76) hx hb dX6_onReal_69 (by decide) (fun c => ?_) (fun c => ?_)
          · have h := g_t _ c h
            refine lv_lload_n hx hb dX6_onReal_76 rfl (lv_at hl 1 rfl) ?_
            refine lv_lconst (v := 0) hx hb dX6_onReal_77 (by decide) ?_
            refine W.lcmp hx hb dX6_onReal_78 ?_
            refine lv_if_ge (tgt := 86) hx hb dX6_onReal_79 (by decide) (fun c => ?_) (fun c => ?_)
            · have h := g_t _ ((lg_cmp_ge _ _).mp c) h
              refine lv_iconst (v := 0) hx hb dX6_onReal_86 (by decide) ?_
              exact b_X6_onReal_87 X hI h (lv_sub hl [] rfl)
            · have h := g_f _ (fun q => c ((lg_cmp_ge _ _).mpr q)) h
              refine lv_iconst (v := 1) hx hb dX6_onReal_82 (by decide) ?_
              refine lv_goto (tgt := 87) hx hb dX6_onReal_83 (by decide) ?_
              exact b_X6_onReal_87 X hI h (lv_sub hl [] rfl)
          · have h := g_f _ c h
            refine lv_lload_n hx hb dX6_onReal_72 rfl (lv_at hl 1 rfl) ?_
            refine lv_goto (tgt := 92) hx hb dX6_onReal_73 (by decide) ?_
            have h := Option.some.inj h
            subst h
            exact g_lret X hI dX6_onReal_92
        · have h := g_f _ c h
          refine lv_ldc2 (v := 9221120237041090560) hx hb X.2.2.2.1 (X.2.2.2.2.1 _ tw_3_142) dX6_onReal_59 ?_
          refine lv_goto (tgt := 92) hx hb dX6_onReal_62 (by decide) ?_
          have h := Option.some.inj h
          subst h
          exact g_lret X hI dX6_onReal_92
      · have h := g_f _ c2 h
        refine lv_tableOut (tgt := 93) hx hb dX6_onReal_1 (by have q0 := lv_neT (a := 0) c0 (by decide); have q1 := lv_neT (a := 1) c1 (by decide); have q2 := lv_neT (a := 2) c2 (by decide); omega) (by decide) ?_
        refine lv_lload_n hx hb dX6_onReal_93 rfl (lv_at hl 1 rfl) ?_
        refine lv_iload_n hx hb dX6_onReal_94 rfl (lv_at hl 0 rfl) ?_
        refine lv_iconst (v := 3) hx hb dX6_onReal_95 (by decide) ?_
        refine lv_isub (x := a0) (y := 3) hx hb dX6_onReal_96 ?_
        obtain ⟨r1, er1, h⟩ := gb_s h
        refine g_callS X hI (av := [.long a1, .int (a0 - 3)]) (c_X6_cut er1) gm_X6_cut tw_4_40 tw_4_41 ⟨by decide, by decide⟩ hl.1 (rest := []) rfl (Nat.le_of_ble_eq_true rfl) dX6_onReal_97 ⟨by decide, by decide⟩ (st1 := [.long r1]) rfl (cells' := 0) (slots' := 0) rfl rfl (fun H locs hI => ?_)
        have h := Option.some.inj h
        subst h
        exact g_lret X hI dX6_onReal_100
