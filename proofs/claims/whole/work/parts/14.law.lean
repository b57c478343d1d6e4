def g_sc (xs : Nat → Int32) (L : Nat) (i : Int32) : Option Int32 := if i < 0 ∨ L ≤ i.toNatClampNeg then none else some (xs i.toNatClampNeg)
theorem g_sc_s {xs : Nat → Int32} {L : Nat} {i v : Int32} (h : g_sc xs L i = some v) : vp_in i L ∧ xs i.toNatClampNeg = v := by
  unfold g_sc at h
  by_cases c : i < 0 ∨ L ≤ i.toNatClampNeg
  · rw [if_pos c] at h; cases h
  · rw [if_neg c] at h; exact ⟨c, Option.some.inj h⟩
theorem g_lawret {p : Program} {l : Launch} {e : Env} {s : State} {m : MethodId} {below : List Frame} {meth : Method} {c : Code} {E : gE} {b : Nat} (X : g_X E (fun _ => none) s.heap.size p s m #[Value.ref b] meth c cL_law 4 RL meth.name ret) {G : gG} {n : Nat} {H : Heap} {locs : List Loc} (hI : g_I E (g_A (fun _ => none) s.heap.size) G n s.heap H locs) (hr : meth.sig.returnType = ret) (hlocks : meth.locks = false) {cells slots : Nat} (h1 : cells ≤ 600000) (h2 : slots ≤ 7302250) {pc : Nat} {ls : Array Slot} (hdg : decode cL_law pc = .ok (.ireturn, 1)) : W p l e room_1 s m #[Value.ref b] below meth c H locs cells slots (lw_Z below #[Value.ref b] s) (F0 m pc ls [.int 1]) := by
  refine va_forget (fun q hq => ?_) (W.widen h1 h2 (lw_ret X.1 X.2.1 hr hlocks hdg))
  rcases hI.2.1.2.2 q hq with h | h
  · exact absurd rfl h
  · exact h
def f_L_law_18 (xs : Nat → Int32) (L : Nat) : Nat → gG → Nat → Nat → Nat → Int32 → Option Int32
  | 0, _, _, _, _, _ => none
  | fu + 1, G, n, x1, x2, x3 =>
    if ((Int32.ofNat L) - 6) < x3 then
      some 1
    else
    gb (g_sc xs L x3) fun v1 =>
    if (v1 &&& 31) = 0 then
      gb (g_sc xs L (x3 + 1)) fun v2 =>
      gck (g_isO G x1 4) <|
      gb3 (f_X5_tensor G n x1 v2) fun r3 G4 n5 =>
      gb (g_sc xs L (x3 + 1)) fun v6 =>
      gck (g_isO G4 x2 5) <|
      gb2 (f_X6_tensor G4 x2 v6) fun r7 G8 =>
      if r3 = r7 then
        gl (x3 + 6 : Int32) fun v9 =>
        f_L_law_18 xs L fu G8 n5 x1 x2 v9
      else
      some 0
    else
    if (v1 &&& 31) = 1 then
      gb (g_sc xs L (x3 + 1)) fun v10 =>
      gb (g_sc xs L (x3 + 2)) fun v11 =>
      gb (g_sc xs L (x3 + 3)) fun v12 =>
      gb (g_sc xs L (x3 + 4)) fun v13 =>
      gck (g_isO G x1 4) <|
      gb3 (f_X5_shaped G n x1 v10 v11 v12 v13) fun r14 G15 n16 =>
      gb (g_sc xs L (x3 + 1)) fun v17 =>
      gb (g_sc xs L (x3 + 2)) fun v18 =>
      gb (g_sc xs L (x3 + 3)) fun v19 =>
      gb (g_sc xs L (x3 + 4)) fun v20 =>
      gck (g_isO G15 x2 5) <|
      gb2 (f_X6_shaped G15 x2 v17 v18 v19 v20) fun r21 G22 =>
      if r14 = r21 then
        gl (x3 + 6 : Int32) fun v23 =>
        f_L_law_18 xs L fu G22 n16 x1 x2 v23
      else
      some 0
    else
    if (v1 &&& 31) = 2 then
      gb (g_sc xs L (x3 + 1)) fun v24 =>
      gck (g_isO G x1 4) <|
      gb2 (f_X5_free G x1 v24) fun r25 G26 =>
      gb (g_sc xs L (x3 + 1)) fun v27 =>
      gck (g_isO G26 x2 5) <|
      gb2 (f_X6_free G26 x2 v27) fun r28 G29 =>
      if r25 = r28 then
        gl (x3 + 6 : Int32) fun v30 =>
        f_L_law_18 xs L fu G29 n x1 x2 v30
      else
      some 0
    else
    if (v1 &&& 31) = 3 then
      gb (g_sc xs L (x3 + 1)) fun v31 =>
      gck (g_isO G x1 4) <|
      gb2 (f_X5_setting G x1 v31) fun r32 G33 =>
      gb (g_sc xs L (x3 + 1)) fun v34 =>
      gck (g_isO G33 x2 5) <|
      gb2 (f_X6_setting G33 x2 v34) fun r35 G36 =>
      if r32 = r35 then
        gl (x3 + 6 : Int32) fun v37 =>
        f_L_law_18 xs L fu G36 n x1 x2 v37
      else
      some 0
    else
    if (v1 &&& 31) = 4 then
      gb (g_sc xs L (x3 + 1)) fun v38 =>
      gb (g_sc xs L (x3 + 2)) fun v39 =>
      gb (g_sc xs L (x3 + 3)) fun v40 =>
      gb (g_sc xs L (x3 + 4)) fun v41 =>
      gck (g_isO G x1 4) <|
      gb2 (f_X5_item G x1 v38 v39 ((g_lshl (Int32.toInt64 v40) 32) ||| ((Int32.toInt64 v41) &&& 4294967295))) fun r42 G43 =>
      gb (g_sc xs L (x3 + 1)) fun v44 =>
      gb (g_sc xs L (x3 + 2)) fun v45 =>
      gb (g_sc xs L (x3 + 3)) fun v46 =>
      gb (g_sc xs L (x3 + 4)) fun v47 =>
      gck (g_isO G43 x2 5) <|
      gb2 (f_X6_item G43 x2 v44 v45 ((g_lshl (Int32.toInt64 v46) 32) ||| ((Int32.toInt64 v47) &&& 4294967295))) fun r48 G49 =>
      if r42 = r48 then
        gl (x3 + 6 : Int32) fun v50 =>
        f_L_law_18 xs L fu G49 n x1 x2 v50
      else
      some 0
    else
    if (v1 &&& 31) = 5 then
      gb (g_sc xs L (x3 + 1)) fun v51 =>
      gb (g_sc xs L (x3 + 2)) fun v52 =>
      gb (g_sc xs L (x3 + 3)) fun v53 =>
      gck (g_isO G x1 4) <|
      gb2 (f_X5_bits G x1 v51 v52 v53) fun r54 G55 =>
      gb (g_sc xs L (x3 + 1)) fun v56 =>
      gb (g_sc xs L (x3 + 2)) fun v57 =>
      gb (g_sc xs L (x3 + 3)) fun v58 =>
      gck (g_isO G55 x2 5) <|
      gb2 (f_X6_bits G55 x2 v56 v57 v58) fun r59 G60 =>
      if r54 = r59 then
        gl (x3 + 6 : Int32) fun v61 =>
        f_L_law_18 xs L fu G60 n x1 x2 v61
      else
      some 0
    else
    if (v1 &&& 31) = 6 then
      gb (g_sc xs L (x3 + 1)) fun v62 =>
      gb (g_sc xs L (x3 + 2)) fun v63 =>
      gb (g_sc xs L (x3 + 3)) fun v64 =>
      gb (g_sc xs L (x3 + 4)) fun v65 =>
      gck (g_isO G x1 4) <|
      gb2 (f_X5_index G x1 v62 v63 v64 v65) fun r66 G67 =>
      gb (g_sc xs L (x3 + 1)) fun v68 =>
      gb (g_sc xs L (x3 + 2)) fun v69 =>
      gb (g_sc xs L (x3 + 3)) fun v70 =>
      gb (g_sc xs L (x3 + 4)) fun v71 =>
      gck (g_isO G67 x2 5) <|
      gb2 (f_X6_index G67 x2 v68 v69 v70 v71) fun r72 G73 =>
      if r66 = r72 then
        gl (x3 + 6 : Int32) fun v74 =>
        f_L_law_18 xs L fu G73 n x1 x2 v74
      else
      some 0
    else
    if (v1 &&& 31) = 7 then
      gb (g_sc xs L (x3 + 1)) fun v75 =>
      gb (g_sc xs L (x3 + 2)) fun v76 =>
      gck (g_isO G x1 4) <|
      gb2 (f_X5_of G x1 v75 v76) fun r77 G78 =>
      gb (g_sc xs L (x3 + 1)) fun v79 =>
      gb (g_sc xs L (x3 + 2)) fun v80 =>
      gck (g_isO G78 x2 5) <|
      gb2 (f_X6_of G78 x2 v79 v80) fun r81 G82 =>
      if r77 = r81 then
        gl (x3 + 6 : Int32) fun v83 =>
        f_L_law_18 xs L fu G82 n x1 x2 v83
      else
      some 0
    else
    if (v1 &&& 31) = 8 then
      gb (g_sc xs L (x3 + 1)) fun v84 =>
      gb (g_sc xs L (x3 + 2)) fun v85 =>
      gb (g_sc xs L (x3 + 3)) fun v86 =>
      gck (g_isO G x1 4) <|
      gb3 (f_X5_act G n x1 v84 v85 v86) fun r87 G88 n89 =>
      gb (g_sc xs L (x3 + 1)) fun v90 =>
      gb (g_sc xs L (x3 + 2)) fun v91 =>
      gb (g_sc xs L (x3 + 3)) fun v92 =>
      gck (g_isO G88 x2 5) <|
      gb2 (f_X6_act G88 x2 v90 v91 v92) fun r93 G94 =>
      if r87 = r93 then
        gl (x3 + 6 : Int32) fun v95 =>
        f_L_law_18 xs L fu G94 n89 x1 x2 v95
      else
      some 0
    else
    if (v1 &&& 31) = 9 then
      gb (g_sc xs L (x3 + 1)) fun v96 =>
      gb (g_sc xs L (x3 + 2)) fun v97 =>
      gb (g_sc xs L (x3 + 3)) fun v98 =>
      gb (g_sc xs L (x3 + 4)) fun v99 =>
      gck (g_isO G x1 4) <|
      gb2 (f_X5_into G x1 v96 v97 v98 v99) fun r100 G101 =>
      gb (g_sc xs L (x3 + 1)) fun v102 =>
      gb (g_sc xs L (x3 + 2)) fun v103 =>
      gb (g_sc xs L (x3 + 3)) fun v104 =>
      gb (g_sc xs L (x3 + 4)) fun v105 =>
      gck (g_isO G101 x2 5) <|
      gb2 (f_X6_into G101 x2 v102 v103 v104 v105) fun r106 G107 =>
      if r100 = r106 then
        gl (x3 + 6 : Int32) fun v108 =>
        f_L_law_18 xs L fu G107 n x1 x2 v108
      else
      some 0
    else
    if (v1 &&& 31) = 10 then
      gb (g_sc xs L (x3 + 1)) fun v109 =>
      gb (g_sc xs L (x3 + 2)) fun v110 =>
      gck (g_isO G x1 4) <|
      gb3 (f_X5_one G n x1 v109 v110) fun r111 G112 n113 =>
      gb (g_sc xs L (x3 + 1)) fun v114 =>
      gb (g_sc xs L (x3 + 2)) fun v115 =>
      gck (g_isO G112 x2 5) <|
      gb2 (f_X6_one G112 x2 v114 v115) fun r116 G117 =>
      if r111 = r116 then
        gl (x3 + 6 : Int32) fun v118 =>
        f_L_law_18 xs L fu G117 n113 x1 x2 v118
      else
      some 0
    else
    if (v1 &&& 31) = 11 then
      gb (g_sc xs L (x3 + 1)) fun v119 =>
      gb (g_sc xs L (x3 + 2)) fun v120 =>
      gck (g_isO G x1 4) <|
      gb3 (f_X5_cast G n x1 v119 v120) fun r121 G122 n123 =>
      gb (g_sc xs L (x3 + 1)) fun v124 =>
      gb (g_sc xs L (x3 + 2)) fun v125 =>
      gck (g_isO G122 x2 5) <|
      gb2 (f_X6_cast G122 x2 v124 v125) fun r126 G127 =>
      if r121 = r126 then
        gl (x3 + 6 : Int32) fun v128 =>
        f_L_law_18 xs L fu G127 n123 x1 x2 v128
      else
      some 0
    else
    if (v1 &&& 31) = 12 then
      gb (g_sc xs L (x3 + 1)) fun v129 =>
      gb (g_sc xs L (x3 + 2)) fun v130 =>
      gb (g_sc xs L (x3 + 3)) fun v131 =>
      gck (g_isO G x1 4) <|
      gb3 (f_X5_where G n x1 v129 v130 v131) fun r132 G133 n134 =>
      gb (g_sc xs L (x3 + 1)) fun v135 =>
      gb (g_sc xs L (x3 + 2)) fun v136 =>
      gb (g_sc xs L (x3 + 3)) fun v137 =>
      gck (g_isO G133 x2 5) <|
      gb2 (f_X6_where G133 x2 v135 v136 v137) fun r138 G139 =>
      if r132 = r138 then
        gl (x3 + 6 : Int32) fun v140 =>
        f_L_law_18 xs L fu G139 n134 x1 x2 v140
      else
      some 0
    else
    if (v1 &&& 31) = 13 then
      gb (g_sc xs L (x3 + 1)) fun v141 =>
      gb (g_sc xs L (x3 + 2)) fun v142 =>
      gb (g_sc xs L (x3 + 3)) fun v143 =>
      gb (g_sc xs L (x3 + 4)) fun v144 =>
      gb (g_sc xs L (x3 + 5)) fun v145 =>
      gck (g_isO G x1 4) <|
      gb2 (f_X5_copy G x1 v141 v142 v143 v144 v145) fun r146 G147 =>
      gb (g_sc xs L (x3 + 1)) fun v148 =>
      gb (g_sc xs L (x3 + 2)) fun v149 =>
      gb (g_sc xs L (x3 + 3)) fun v150 =>
      gb (g_sc xs L (x3 + 4)) fun v151 =>
      gb (g_sc xs L (x3 + 5)) fun v152 =>
      gck (g_isO G147 x2 5) <|
      gb2 (f_X6_copy G147 x2 v148 v149 v150 v151 v152) fun r153 G154 =>
      if r146 = r153 then
        gl (x3 + 6 : Int32) fun v155 =>
        f_L_law_18 xs L fu G154 n x1 x2 v155
      else
      some 0
    else
    if (v1 &&& 31) = 14 then
      gb (g_sc xs L (x3 + 1)) fun v156 =>
      gb (g_sc xs L (x3 + 2)) fun v157 =>
      gck (g_isO G x1 4) <|
      gb2 (f_X5_same G x1 v156 v157) fun r158 G159 =>
      gb (g_sc xs L (x3 + 1)) fun v160 =>
      gb (g_sc xs L (x3 + 2)) fun v161 =>
      gck (g_isO G159 x2 5) <|
      gb2 (f_X6_same G159 x2 v160 v161) fun r162 G163 =>
      if r158 = r162 then
        gl (x3 + 6 : Int32) fun v164 =>
        f_L_law_18 xs L fu G163 n x1 x2 v164
      else
      some 0
    else
    if (v1 &&& 31) = 15 then
      gck (g_isO G x1 4) <|
      gb (f_X5_place G x1) fun r165 =>
      gck (g_isO G x2 5) <|
      gb (f_X6_place G x2) fun r166 =>
      if r165 = r166 then
        gl (x3 + 6 : Int32) fun v167 =>
        f_L_law_18 xs L fu G n x1 x2 v167
      else
      some 0
    else
    if (v1 &&& 31) = 16 then
      gb (g_sc xs L (x3 + 1)) fun v168 =>
      gck (g_isO G x1 4) <|
      gb (f_X5_count G x1 v168) fun r169 =>
      gb (g_sc xs L (x3 + 1)) fun v170 =>
      gck (g_isO G x2 5) <|
      gb (f_X6_count G x2 v170) fun r171 =>
      if r169 = r171 then
        gl (x3 + 6 : Int32) fun v172 =>
        f_L_law_18 xs L fu G n x1 x2 v172
      else
      some 0
    else
    gl (x3 + 6 : Int32) fun v173 =>
    f_L_law_18 xs L fu G n x1 x2 v173
set_option maxHeartbeats 40000000 in
set_option maxRecDepth 100000 in
theorem b_L_law_18 {p : Program} {l : Launch} {e : Env} {s : State} {m : MethodId} {below : List Frame} {meth : Method} {c : Code} {E : gE} {b L : Nat} {xs : Nat → Int32} (X : g_X E (fun _ => none) s.heap.size p s m #[Value.ref b] meth c cL_law 4 RL meth.name ret) (hX : va_X b L xs s s.heap) (hbl : b < s.heap.size) (hr : meth.sig.returnType = ret) (hlocks : meth.locks = false) (fu : Nat) : ∀ {cl sl : Nat} (_ : cl + 4 * fu ≤ 600000) (_ : sl + 249 * fu ≤ 7302250) {G : gG} {n : Nat} {H : Heap} {locs : List Loc} (_ : g_I E (g_A (fun _ => none) s.heap.size) G n s.heap H locs) {x1 x2 : Nat} {x3 : Int32} (_ : f_L_law_18 xs L fu G n x1 x2 x3 = some 1) {ls : Array Slot} (_ : lv_has ls 4 [(0, .ref b), (1, .ref x1), (2, .ref x2), (3, .int x3)]), W p l e room_1 s m #[Value.ref b] below meth c H locs cl sl (lw_Z below #[Value.ref b] s) (F0 m 18 ls []) := by
  have hx := X.1
  have hb := X.2.1
  have hbA : ¬ (g_A (fun _ => none) s.heap.size) b := fun q => q.elim (fun q => q rfl) (fun q => absurd hbl (Nat.not_lt.mpr q))
  induction fu with
  | zero =>
    intro cl sl hcl hsl G n H locs hI x1 x2 x3 h ls hl
    rw [f_L_law_18] at h
    cases h
  | succ fu ih =>
    intro cl sl hcl hsl G n H locs hI x1 x2 x3 h ls hl
    rw [f_L_law_18] at h
    refine lv_iload_n hx hb dL_law_18 rfl (lv_at hl 3 rfl) ?_
    refine lv_aload_n hx hb dL_law_19 rfl (lv_at hl 0 rfl) ?_
    refine va_slen hx hb hX hbl hbA hI.2.1 dL_law_20 ?_
    refine lv_bipush (v := 6) hx hb dL_law_21 (by decide) ?_
    refine lv_isub (x := (Int32.ofNat L)) (y := 6) hx hb dL_law_23 ?_
    refine lv_icmp_gt (tgt := 784) hx hb dL_law_24 (by decide) (fun c => ?_) (fun c => ?_)
    · have h := g_t _ c h
      refine lv_iconst (v := 1) hx hb dL_law_784 (by decide) ?_
      exact g_lawret X hI hr hlocks (by omega) (by omega) dL_law_785
    · have h := g_f _ c h
      refine lv_aload_n hx hb dL_law_27 rfl (lv_at hl 0 rfl) ?_
      refine lv_iload_n hx hb dL_law_28 rfl (lv_at hl 3 rfl) ?_
      obtain ⟨v1, ev1, h⟩ := gb_s h
      obtain ⟨hin, ev1⟩ := g_sc_s ev1
      refine va_sld hx hb hX hbl hbA hI.2.1 hin dL_law_29 ?_
      refine g_topi ev1 ?_
      refine lv_bipush (v := 31) hx hb dL_law_30 (by decide) ?_
      refine lv_iand (x := v1) (y := 31) hx hb dL_law_32 ?_
      by_cases c0 : (v1 &&& 31) = 0
      · have h := g_t _ c0 h
        refine lv_tableIn (off := 83) (tgt := 116) hx hb dL_law_33 (by rw [c0]; decide) (by rw [c0]; decide) (by rw [c0]; rfl) (by decide) ?_
        refine lv_aload_n hx hb dL_law_116 rfl (lv_at hl 1 rfl) ?_
        refine lv_aload_n hx hb dL_law_117 rfl (lv_at hl 0 rfl) ?_
        refine lv_iload_n hx hb dL_law_118 rfl (lv_at hl 3 rfl) ?_
        refine lv_iconst (v := 1) hx hb dL_law_119 (by decide) ?_
        refine lv_iadd (x := x3) (y := 1) hx hb dL_law_120 ?_
        obtain ⟨v2, ev2, h⟩ := gb_s h
        obtain ⟨hin, ev2⟩ := g_sc_s ev2
        refine va_sld hx hb hX hbl hbA hI.2.1 hin dL_law_121 ?_
        refine g_topi ev2 ?_
        obtain ⟨cO, h⟩ := gck_s h
        obtain ⟨r3, G4, n5, er3, h⟩ := gb3_s h
        refine g_callV X hI (q := (RX5, TX5, 9)) (b := x1) (av := [.int v2]) cO rfl (c_X5_tensor er3) gm_X5_tensor tw_1_101 tw_1_102 tw_1_103 ⟨by decide, by decide⟩ hl.1 (rest := []) rfl (Nat.le_of_ble_eq_true rfl) dL_law_122 ⟨by show cl + 4 ≤ 600000; omega, by show sl + 249 ≤ 7302250; omega⟩ (st1 := [.int r3]) rfl (cells' := cl + 4) (slots' := sl + 249) rfl rfl (fun H locs hI => ?_)
        refine lv_aload_n hx hb dL_law_125 rfl (lv_at hl 2 rfl) ?_
        refine lv_aload_n hx hb dL_law_126 rfl (lv_at hl 0 rfl) ?_
        refine lv_iload_n hx hb dL_law_127 rfl (lv_at hl 3 rfl) ?_
        refine lv_iconst (v := 1) hx hb dL_law_128 (by decide) ?_
        refine lv_iadd (x := x3) (y := 1) hx hb dL_law_129 ?_
        obtain ⟨v6, ev6, h⟩ := gb_s h
        obtain ⟨hin, ev6⟩ := g_sc_s ev6
        refine va_sld hx hb hX hbl hbA hI.2.1 hin dL_law_130 ?_
        refine g_topi ev6 ?_
        obtain ⟨cO, h⟩ := gck_s h
        obtain ⟨r7, G8, er7, h⟩ := gb2_s h
        refine g_callV X hI (q := (RX6, TX6, 17)) (b := x2) (av := [.int v6]) cO rfl (c_X6_tensor er7) gm_X6_tensor tw_3_95 tw_3_96 tw_3_97 ⟨by decide, by decide⟩ hl.1 (rest := [.int r3]) rfl (Nat.le_of_ble_eq_true rfl) dL_law_131 ⟨by show cl + 4 + 0 ≤ 600000; omega, by show sl + 249 + 0 ≤ 7302250; omega⟩ (st1 := [.int r7, .int r3]) rfl (cells' := cl + 4) (slots' := sl + 249) rfl rfl (fun H locs hI => ?_)
        refine lv_icmp_eq (tgt := 778) hx hb dL_law_134 (by decide) (fun c => ?_) (fun c => ?_)
        · have h := g_t _ c h
          obtain ⟨v9, ev9, h⟩ := gl_s h
          refine lv_iinc (v := v9) (lv' := [(3, .int v9), (0, .ref b), (1, .ref x1), (2, .ref x2)]) hx hb dL_law_778 hl (k := 3) rfl (by rw [← ev9]; rfl) (by decide) rfl (fun ls hl => ?_)
          refine lv_goto (tgt := 18) hx hb dL_law_781 (by decide) ?_
          exact ih (by omega) (by omega) hI h (lv_sub hl [1, 2, 3, 0] rfl)
        · have h := g_f _ c h
          refine lv_iconst (v := 0) hx hb dL_law_137 (by decide) ?_
          exact absurd (Option.some.inj h) (by decide)
      · have h := g_f _ c0 h
        by_cases c1 : (v1 &&& 31) = 1
        · have h := g_t _ c1 h
          refine lv_tableIn (off := 106) (tgt := 139) hx hb dL_law_33 (by rw [c1]; decide) (by rw [c1]; decide) (by rw [c1]; rfl) (by decide) ?_
          refine lv_aload_n hx hb dL_law_139 rfl (lv_at hl 1 rfl) ?_
          refine lv_aload_n hx hb dL_law_140 rfl (lv_at hl 0 rfl) ?_
          refine lv_iload_n hx hb dL_law_141 rfl (lv_at hl 3 rfl) ?_
          refine lv_iconst (v := 1) hx hb dL_law_142 (by decide) ?_
          refine lv_iadd (x := x3) (y := 1) hx hb dL_law_143 ?_
          obtain ⟨v10, ev10, h⟩ := gb_s h
          obtain ⟨hin, ev10⟩ := g_sc_s ev10
          refine va_sld hx hb hX hbl hbA hI.2.1 hin dL_law_144 ?_
          refine g_topi ev10 ?_
          refine lv_aload_n hx hb dL_law_145 rfl (lv_at hl 0 rfl) ?_
          refine lv_iload_n hx hb dL_law_146 rfl (lv_at hl 3 rfl) ?_
          refine lv_iconst (v := 2) hx hb dL_law_147 (by decide) ?_
          refine lv_iadd (x := x3) (y := 2) hx hb dL_law_148 ?_
          obtain ⟨v11, ev11, h⟩ := gb_s h
          obtain ⟨hin, ev11⟩ := g_sc_s ev11
          refine va_sld hx hb hX hbl hbA hI.2.1 hin dL_law_149 ?_
          refine g_topi ev11 ?_
          refine lv_aload_n hx hb dL_law_150 rfl (lv_at hl 0 rfl) ?_
          refine lv_iload_n hx hb dL_law_151 rfl (lv_at hl 3 rfl) ?_
          refine lv_iconst (v := 3) hx hb dL_law_152 (by decide) ?_
          refine lv_iadd (x := x3) (y := 3) hx hb dL_law_153 ?_
          obtain ⟨v12, ev12, h⟩ := gb_s h
          obtain ⟨hin, ev12⟩ := g_sc_s ev12
          refine va_sld hx hb hX hbl hbA hI.2.1 hin dL_law_154 ?_
          refine g_topi ev12 ?_
          refine lv_aload_n hx hb dL_law_155 rfl (lv_at hl 0 rfl) ?_
          refine lv_iload_n hx hb dL_law_156 rfl (lv_at hl 3 rfl) ?_
          refine lv_iconst (v := 4) hx hb dL_law_157 (by decide) ?_
          refine lv_iadd (x := x3) (y := 4) hx hb dL_law_158 ?_
          obtain ⟨v13, ev13, h⟩ := gb_s h
          obtain ⟨hin, ev13⟩ := g_sc_s ev13
          refine va_sld hx hb hX hbl hbA hI.2.1 hin dL_law_159 ?_
          refine g_topi ev13 ?_
          obtain ⟨cO, h⟩ := gck_s h
          obtain ⟨r14, G15, n16, er14, h⟩ := gb3_s h
          refine g_callV X hI (q := (RX5, TX5, 9)) (b := x1) (av := [.int v10, .int v11, .int v12, .int v13]) cO rfl (c_X5_shaped er14) gm_X5_shaped tw_1_163 tw_1_164 tw_1_165 ⟨by decide, by decide⟩ hl.1 (rest := []) rfl (Nat.le_of_ble_eq_true rfl) dL_law_160 ⟨by show cl + 4 ≤ 600000; omega, by show sl + 249 ≤ 7302250; omega⟩ (st1 := [.int r14]) rfl (cells' := cl + 4) (slots' := sl + 249) rfl rfl (fun H locs hI => ?_)
          refine lv_aload_n hx hb dL_law_163 rfl (lv_at hl 2 rfl) ?_
          refine lv_aload_n hx hb dL_law_164 rfl (lv_at hl 0 rfl) ?_
          refine lv_iload_n hx hb dL_law_165 rfl (lv_at hl 3 rfl) ?_
          refine lv_iconst (v := 1) hx hb dL_law_166 (by decide) ?_
          refine lv_iadd (x := x3) (y := 1) hx hb dL_law_167 ?_
          obtain ⟨v17, ev17, h⟩ := gb_s h
          obtain ⟨hin, ev17⟩ := g_sc_s ev17
          refine va_sld hx hb hX hbl hbA hI.2.1 hin dL_law_168 ?_
          refine g_topi ev17 ?_
          refine lv_aload_n hx hb dL_law_169 rfl (lv_at hl 0 rfl) ?_
          refine lv_iload_n hx hb dL_law_170 rfl (lv_at hl 3 rfl) ?_
          refine lv_iconst (v := 2) hx hb dL_law_171 (by decide) ?_
          refine lv_iadd (x := x3) (y := 2) hx hb dL_law_172 ?_
          obtain ⟨v18, ev18, h⟩ := gb_s h
          obtain ⟨hin, ev18⟩ := g_sc_s ev18
          refine va_sld hx hb hX hbl hbA hI.2.1 hin dL_law_173 ?_
          refine g_topi ev18 ?_
          refine lv_aload_n hx hb dL_law_174 rfl (lv_at hl 0 rfl) ?_
          refine lv_iload_n hx hb dL_law_175 rfl (lv_at hl 3 rfl) ?_
          refine lv_iconst (v := 3) hx hb dL_law_176 (by decide) ?_
          refine lv_iadd (x := x3) (y := 3) hx hb dL_law_177 ?_
          obtain ⟨v19, ev19, h⟩ := gb_s h
          obtain ⟨hin, ev19⟩ := g_sc_s ev19
          refine va_sld hx hb hX hbl hbA hI.2.1 hin dL_law_178 ?_
          refine g_topi ev19 ?_
          refine lv_aload_n hx hb dL_law_179 rfl (lv_at hl 0 rfl) ?_
          refine lv_iload_n hx hb dL_law_180 rfl (lv_at hl 3 rfl) ?_
          refine lv_iconst (v := 4) hx hb dL_law_181 (by decide) ?_
          refine lv_iadd (x := x3) (y := 4) hx hb dL_law_182 ?_
          obtain ⟨v20, ev20, h⟩ := gb_s h
          obtain ⟨hin, ev20⟩ := g_sc_s ev20
          refine va_sld hx hb hX hbl hbA hI.2.1 hin dL_law_183 ?_
          refine g_topi ev20 ?_
          obtain ⟨cO, h⟩ := gck_s h
          obtain ⟨r21, G22, er21, h⟩ := gb2_s h
          refine g_callV X hI (q := (RX6, TX6, 17)) (b := x2) (av := [.int v17, .int v18, .int v19, .int v20]) cO rfl (c_X6_shaped er21) gm_X6_shaped tw_3_107 tw_3_108 tw_3_109 ⟨by decide, by decide⟩ hl.1 (rest := [.int r14]) rfl (Nat.le_of_ble_eq_true rfl) dL_law_184 ⟨by show cl + 4 + 0 ≤ 600000; omega, by show sl + 249 + 0 ≤ 7302250; omega⟩ (st1 := [.int r21, .int r14]) rfl (cells' := cl + 4) (slots' := sl + 249) rfl rfl (fun H locs hI => ?_)
          refine lv_icmp_eq (tgt := 778) hx hb dL_law_187 (by decide) (fun c => ?_) (fun c => ?_)
          · have h := g_t _ c h
            obtain ⟨v23, ev23, h⟩ := gl_s h
            refine lv_iinc (v := v23) (lv' := [(3, .int v23), (0, .ref b), (1, .ref x1), (2, .ref x2)]) hx hb dL_law_778 hl (k := 3) rfl (by rw [← ev23]; rfl) (by decide) rfl (fun ls hl => ?_)
            refine lv_goto (tgt := 18) hx hb dL_law_781 (by decide) ?_
            exact ih (by omega) (by omega) hI h (lv_sub hl [1, 2, 3, 0] rfl)
          · have h := g_f _ c h
            refine lv_iconst (v := 0) hx hb dL_law_190 (by decide) ?_
            exact absurd (Option.some.inj h) (by decide)
        · have h := g_f _ c1 h
          by_cases c2 : (v1 &&& 31) = 2
          · have h := g_t _ c2 h
            refine lv_tableIn (off := 159) (tgt := 192) hx hb dL_law_33 (by rw [c2]; decide) (by rw [c2]; decide) (by rw [c2]; rfl) (by decide) ?_
            refine lv_aload_n hx hb dL_law_192 rfl (lv_at hl 1 rfl) ?_
            refine lv_aload_n hx hb dL_law_193 rfl (lv_at hl 0 rfl) ?_
            refine lv_iload_n hx hb dL_law_194 rfl (lv_at hl 3 rfl) ?_
            refine lv_iconst (v := 1) hx hb dL_law_195 (by decide) ?_
            refine lv_iadd (x := x3) (y := 1) hx hb dL_law_196 ?_
            obtain ⟨v24, ev24, h⟩ := gb_s h
            obtain ⟨hin, ev24⟩ := g_sc_s ev24
            refine va_sld hx hb hX hbl hbA hI.2.1 hin dL_law_197 ?_
            refine g_topi ev24 ?_
            obtain ⟨cO, h⟩ := gck_s h
            obtain ⟨r25, G26, er25, h⟩ := gb2_s h
            refine g_callV X hI (q := (RX5, TX5, 9)) (b := x1) (av := [.int v24]) cO rfl (c_X5_free er25) gm_X5_free tw_1_171 tw_1_172 tw_1_173 ⟨by decide, by decide⟩ hl.1 (rest := []) rfl (Nat.le_of_ble_eq_true rfl) dL_law_198 ⟨by show cl + 0 ≤ 600000; omega, by show sl + 0 ≤ 7302250; omega⟩ (st1 := [.int r25]) rfl (cells' := cl) (slots' := sl) rfl rfl (fun H locs hI => ?_)
            refine lv_aload_n hx hb dL_law_201 rfl (lv_at hl 2 rfl) ?_
            refine lv_aload_n hx hb dL_law_202 rfl (lv_at hl 0 rfl) ?_
            refine lv_iload_n hx hb dL_law_203 rfl (lv_at hl 3 rfl) ?_
            refine lv_iconst (v := 1) hx hb dL_law_204 (by decide) ?_
            refine lv_iadd (x := x3) (y := 1) hx hb dL_law_205 ?_
            obtain ⟨v27, ev27, h⟩ := gb_s h
            obtain ⟨hin, ev27⟩ := g_sc_s ev27
            refine va_sld hx hb hX hbl hbA hI.2.1 hin dL_law_206 ?_
            refine g_topi ev27 ?_
            obtain ⟨cO, h⟩ := gck_s h
            obtain ⟨r28, G29, er28, h⟩ := gb2_s h
            refine g_callV X hI (q := (RX6, TX6, 17)) (b := x2) (av := [.int v27]) cO rfl (c_X6_free er28) gm_X6_free tw_3_115 tw_3_116 tw_3_117 ⟨by decide, by decide⟩ hl.1 (rest := [.int r25]) rfl (Nat.le_of_ble_eq_true rfl) dL_law_207 ⟨by show cl + 0 ≤ 600000; omega, by show sl + 0 ≤ 7302250; omega⟩ (st1 := [.int r28, .int r25]) rfl (cells' := cl) (slots' := sl) rfl rfl (fun H locs hI => ?_)
            refine lv_icmp_eq (tgt := 778) hx hb dL_law_210 (by decide) (fun c => ?_) (fun c => ?_)
            · have h := g_t _ c h
              obtain ⟨v30, ev30, h⟩ := gl_s h
              refine lv_iinc (v := v30) (lv' := [(3, .int v30), (0, .ref b), (1, .ref x1), (2, .ref x2)]) hx hb dL_law_778 hl (k := 3) rfl (by rw [← ev30]; rfl) (by decide) rfl (fun ls hl => ?_)
              refine lv_goto (tgt := 18) hx hb dL_law_781 (by decide) ?_
              refine W.widen (k := cl + 4) (n := sl + 249) (by omega) (by omega) ?_
              exact ih (by omega) (by omega) hI h (lv_sub hl [1, 2, 3, 0] rfl)
            · have h := g_f _ c h
              refine lv_iconst (v := 0) hx hb dL_law_213 (by decide) ?_
              exact absurd (Option.some.inj h) (by decide)
          · have h := g_f _ c2 h
            by_cases c3 : (v1 &&& 31) = 3
            · have h := g_t _ c3 h
              refine lv_tableIn (off := 182) (tgt := 215) hx hb dL_law_33 (by rw [c3]; decide) (by rw [c3]; decide) (by rw [c3]; rfl) (by decide) ?_
              refine lv_aload_n hx hb dL_law_215 rfl (lv_at hl 1 rfl) ?_
              refine lv_aload_n hx hb dL_law_216 rfl (lv_at hl 0 rfl) ?_
              refine lv_iload_n hx hb dL_law_217 rfl (lv_at hl 3 rfl) ?_
              refine lv_iconst (v := 1) hx hb dL_law_218 (by decide) ?_
              refine lv_iadd (x := x3) (y := 1) hx hb dL_law_219 ?_
              obtain ⟨v31, ev31, h⟩ := gb_s h
              obtain ⟨hin, ev31⟩ := g_sc_s ev31
              refine va_sld hx hb hX hbl hbA hI.2.1 hin dL_law_220 ?_
              refine g_topi ev31 ?_
              obtain ⟨cO, h⟩ := gck_s h
              obtain ⟨r32, G33, er32, h⟩ := gb2_s h
              refine g_callV X hI (q := (RX5, TX5, 9)) (b := x1) (av := [.int v31]) cO rfl (c_X5_setting er32) gm_X5_setting tw_1_179 tw_1_180 tw_1_181 ⟨by decide, by decide⟩ hl.1 (rest := []) rfl (Nat.le_of_ble_eq_true rfl) dL_law_221 ⟨by show cl + 0 ≤ 600000; omega, by show sl + 0 ≤ 7302250; omega⟩ (st1 := [.int r32]) rfl (cells' := cl) (slots' := sl) rfl rfl (fun H locs hI => ?_)
              refine lv_aload_n hx hb dL_law_224 rfl (lv_at hl 2 rfl) ?_
              refine lv_aload_n hx hb dL_law_225 rfl (lv_at hl 0 rfl) ?_
              refine lv_iload_n hx hb dL_law_226 rfl (lv_at hl 3 rfl) ?_
              refine lv_iconst (v := 1) hx hb dL_law_227 (by decide) ?_
              refine lv_iadd (x := x3) (y := 1) hx hb dL_law_228 ?_
              obtain ⟨v34, ev34, h⟩ := gb_s h
              obtain ⟨hin, ev34⟩ := g_sc_s ev34
              refine va_sld hx hb hX hbl hbA hI.2.1 hin dL_law_229 ?_
              refine g_topi ev34 ?_
              obtain ⟨cO, h⟩ := gck_s h
              obtain ⟨r35, G36, er35, h⟩ := gb2_s h
              refine g_callV X hI (q := (RX6, TX6, 17)) (b := x2) (av := [.int v34]) cO rfl (c_X6_setting er35) gm_X6_setting tw_3_123 tw_3_124 tw_3_125 ⟨by decide, by decide⟩ hl.1 (rest := [.int r32]) rfl (Nat.le_of_ble_eq_true rfl) dL_law_230 ⟨by show cl + 0 ≤ 600000; omega, by show sl + 0 ≤ 7302250; omega⟩ (st1 := [.int r35, .int r32]) rfl (cells' := cl) (slots' := sl) rfl rfl (fun H locs hI => ?_)
              refine lv_icmp_eq (tgt := 778) hx hb dL_law_233 (by decide) (fun c => ?_) (fun c => ?_)
              · have h := g_t _ c h
                obtain ⟨v37, ev37, h⟩ := gl_s h
                refine lv_iinc (v := v37) (lv' := [(3, .int v37), (0, .ref b), (1, .ref x1), (2, .ref x2)]) hx hb dL_law_778 hl (k := 3) rfl (by rw [← ev37]; rfl) (by decide) rfl (fun ls hl => ?_)
                refine lv_goto (tgt := 18) hx hb dL_law_781 (by decide) ?_
                refine W.widen (k := cl + 4) (n := sl + 249) (by omega) (by omega) ?_
                exact ih (by omega) (by omega) hI h (lv_sub hl [1, 2, 3, 0] rfl)
              · have h := g_f _ c h
                refine lv_iconst (v := 0) hx hb dL_law_236 (by decide) ?_
                exact absurd (Option.some.inj h) (by decide)
            · have h := g_f _ c3 h
              by_cases c4 : (v1 &&& 31) = 4
              · have h := g_t _ c4 h
                refine lv_tableIn (off := 205) (tgt := 238) hx hb dL_law_33 (by rw [c4]; decide) (by rw [c4]; decide) (by rw [c4]; rfl) (by decide) ?_
                refine lv_aload_n hx hb dL_law_238 rfl (lv_at hl 1 rfl) ?_
                refine lv_aload_n hx hb dL_law_239 rfl (lv_at hl 0 rfl) ?_
                refine lv_iload_n hx hb dL_law_240 rfl (lv_at hl 3 rfl) ?_
                refine lv_iconst (v := 1) hx hb dL_law_241 (by decide) ?_
                refine lv_iadd (x := x3) (y := 1) hx hb dL_law_242 ?_
                obtain ⟨v38, ev38, h⟩ := gb_s h
                obtain ⟨hin, ev38⟩ := g_sc_s ev38
                refine va_sld hx hb hX hbl hbA hI.2.1 hin dL_law_243 ?_
                refine g_topi ev38 ?_
                refine lv_aload_n hx hb dL_law_244 rfl (lv_at hl 0 rfl) ?_
                refine lv_iload_n hx hb dL_law_245 rfl (lv_at hl 3 rfl) ?_
                refine lv_iconst (v := 2) hx hb dL_law_246 (by decide) ?_
                refine lv_iadd (x := x3) (y := 2) hx hb dL_law_247 ?_
                obtain ⟨v39, ev39, h⟩ := gb_s h
                obtain ⟨hin, ev39⟩ := g_sc_s ev39
                refine va_sld hx hb hX hbl hbA hI.2.1 hin dL_law_248 ?_
                refine g_topi ev39 ?_
                refine lv_aload_n hx hb dL_law_249 rfl (lv_at hl 0 rfl) ?_
                refine lv_iload_n hx hb dL_law_250 rfl (lv_at hl 3 rfl) ?_
                refine lv_iconst (v := 3) hx hb dL_law_251 (by decide) ?_
                refine lv_iadd (x := x3) (y := 3) hx hb dL_law_252 ?_
                obtain ⟨v40, ev40, h⟩ := gb_s h
                obtain ⟨hin, ev40⟩ := g_sc_s ev40
                refine va_sld hx hb hX hbl hbA hI.2.1 hin dL_law_253 ?_
                refine g_topi ev40 ?_
                refine lv_i2l (v := (Int32.toInt64 v40)) hx hb dL_law_254 rfl ?_
                refine lv_bipush (v := 32) hx hb dL_law_255 (by decide) ?_
                refine lv_lshl (v := (g_lshl (Int32.toInt64 v40) 32)) hx hb dL_law_257 rfl ?_
                refine lv_aload_n hx hb dL_law_258 rfl (lv_at hl 0 rfl) ?_
                refine lv_iload_n hx hb dL_law_259 rfl (lv_at hl 3 rfl) ?_
                refine lv_iconst (v := 4) hx hb dL_law_260 (by decide) ?_
                refine lv_iadd (x := x3) (y := 4) hx hb dL_law_261 ?_
                obtain ⟨v41, ev41, h⟩ := gb_s h
                obtain ⟨hin, ev41⟩ := g_sc_s ev41
                refine va_sld hx hb hX hbl hbA hI.2.1 hin dL_law_262 ?_
                refine g_topi ev41 ?_
                refine lv_i2l (v := (Int32.toInt64 v41)) hx hb dL_law_263 rfl ?_
                refine lv_ldc2 (v := 4294967295) hx hb X.2.2.2.1 (X.2.2.2.2.1 _ tw_4_96) dL_law_264 ?_
                refine lv_land (x := (Int32.toInt64 v41)) (y := 4294967295) hx hb dL_law_267 ?_
                refine lv_lor (x := (g_lshl (Int32.toInt64 v40) 32)) (y := ((Int32.toInt64 v41) &&& 4294967295)) hx hb dL_law_268 ?_
                obtain ⟨cO, h⟩ := gck_s h
                obtain ⟨r42, G43, er42, h⟩ := gb2_s h
                refine g_callV X hI (q := (RX5, TX5, 9)) (b := x1) (av := [.int v38, .int v39, .long ((g_lshl (Int32.toInt64 v40) 32) ||| ((Int32.toInt64 v41) &&& 4294967295))]) cO rfl (c_X5_item er42) gm_X5_item tw_1_183 tw_1_184 tw_1_185 ⟨by decide, by decide⟩ hl.1 (rest := []) rfl (Nat.le_of_ble_eq_true rfl) dL_law_269 ⟨by show cl + 0 ≤ 600000; omega, by show sl + 0 ≤ 7302250; omega⟩ (st1 := [.int r42]) rfl (cells' := cl) (slots' := sl) rfl rfl (fun H locs hI => ?_)
                refine lv_aload_n hx hb dL_law_272 rfl (lv_at hl 2 rfl) ?_
                refine lv_aload_n hx hb dL_law_273 rfl (lv_at hl 0 rfl) ?_
                refine lv_iload_n hx hb dL_law_274 rfl (lv_at hl 3 rfl) ?_
                refine lv_iconst (v := 1) hx hb dL_law_275 (by decide) ?_
                refine lv_iadd (x := x3) (y := 1) hx hb dL_law_276 ?_
                obtain ⟨v44, ev44, h⟩ := gb_s h
                obtain ⟨hin, ev44⟩ := g_sc_s ev44
                refine va_sld hx hb hX hbl hbA hI.2.1 hin dL_law_277 ?_
                refine g_topi ev44 ?_
                refine lv_aload_n hx hb dL_law_278 rfl (lv_at hl 0 rfl) ?_
                refine lv_iload_n hx hb dL_law_279 rfl (lv_at hl 3 rfl) ?_
                refine lv_iconst (v := 2) hx hb dL_law_280 (by decide) ?_
                refine lv_iadd (x := x3) (y := 2) hx hb dL_law_281 ?_
                obtain ⟨v45, ev45, h⟩ := gb_s h
                obtain ⟨hin, ev45⟩ := g_sc_s ev45
                refine va_sld hx hb hX hbl hbA hI.2.1 hin dL_law_282 ?_
                refine g_topi ev45 ?_
                refine lv_aload_n hx hb dL_law_283 rfl (lv_at hl 0 rfl) ?_
                refine lv_iload_n hx hb dL_law_284 rfl (lv_at hl 3 rfl) ?_
                refine lv_iconst (v := 3) hx hb dL_law_285 (by decide) ?_
                refine lv_iadd (x := x3) (y := 3) hx hb dL_law_286 ?_
                obtain ⟨v46, ev46, h⟩ := gb_s h
                obtain ⟨hin, ev46⟩ := g_sc_s ev46
                refine va_sld hx hb hX hbl hbA hI.2.1 hin dL_law_287 ?_
                refine g_topi ev46 ?_
                refine lv_i2l (v := (Int32.toInt64 v46)) hx hb dL_law_288 rfl ?_
                refine lv_bipush (v := 32) hx hb dL_law_289 (by decide) ?_
                refine lv_lshl (v := (g_lshl (Int32.toInt64 v46) 32)) hx hb dL_law_291 rfl ?_
                refine lv_aload_n hx hb dL_law_292 rfl (lv_at hl 0 rfl) ?_
                refine lv_iload_n hx hb dL_law_293 rfl (lv_at hl 3 rfl) ?_
                refine lv_iconst (v := 4) hx hb dL_law_294 (by decide) ?_
                refine lv_iadd (x := x3) (y := 4) hx hb dL_law_295 ?_
                obtain ⟨v47, ev47, h⟩ := gb_s h
                obtain ⟨hin, ev47⟩ := g_sc_s ev47
                refine va_sld hx hb hX hbl hbA hI.2.1 hin dL_law_296 ?_
                refine g_topi ev47 ?_
                refine lv_i2l (v := (Int32.toInt64 v47)) hx hb dL_law_297 rfl ?_
                refine lv_ldc2 (v := 4294967295) hx hb X.2.2.2.1 (X.2.2.2.2.1 _ tw_4_96) dL_law_298 ?_
                refine lv_land (x := (Int32.toInt64 v47)) (y := 4294967295) hx hb dL_law_301 ?_
                refine lv_lor (x := (g_lshl (Int32.toInt64 v46) 32)) (y := ((Int32.toInt64 v47) &&& 4294967295)) hx hb dL_law_302 ?_
                obtain ⟨cO, h⟩ := gck_s h
                obtain ⟨r48, G49, er48, h⟩ := gb2_s h
                refine g_callV X hI (q := (RX6, TX6, 17)) (b := x2) (av := [.int v44, .int v45, .long ((g_lshl (Int32.toInt64 v46) 32) ||| ((Int32.toInt64 v47) &&& 4294967295))]) cO rfl (c_X6_item er48) gm_X6_item tw_3_127 tw_3_128 tw_3_129 ⟨by decide, by decide⟩ hl.1 (rest := [.int r42]) rfl (Nat.le_of_ble_eq_true rfl) dL_law_303 ⟨by show cl + 0 ≤ 600000; omega, by show sl + 0 ≤ 7302250; omega⟩ (st1 := [.int r48, .int r42]) rfl (cells' := cl) (slots' := sl) rfl rfl (fun H locs hI => ?_)
                refine lv_icmp_eq (tgt := 778) hx hb dL_law_306 (by decide) (fun c => ?_) (fun c => ?_)
                · have h := g_t _ c h
                  obtain ⟨v50, ev50, h⟩ := gl_s h
                  refine lv_iinc (v := v50) (lv' := [(3, .int v50), (0, .ref b), (1, .ref x1), (2, .ref x2)]) hx hb dL_law_778 hl (k := 3) rfl (by rw [← ev50]; rfl) (by decide) rfl (fun ls hl => ?_)
                  refine lv_goto (tgt := 18) hx hb dL_law_781 (by decide) ?_
                  refine W.widen (k := cl + 4) (n := sl + 249) (by omega) (by omega) ?_
                  exact ih (by omega) (by omega) hI h (lv_sub hl [1, 2, 3, 0] rfl)
                · have h := g_f _ c h
                  refine lv_iconst (v := 0) hx hb dL_law_309 (by decide) ?_
                  exact absurd (Option.some.inj h) (by decide)
              · have h := g_f _ c4 h
                by_cases c5 : (v1 &&& 31) = 5
                · have h := g_t _ c5 h
                  refine lv_tableIn (off := 278) (tgt := 311) hx hb dL_law_33 (by rw [c5]; decide) (by rw [c5]; decide) (by rw [c5]; rfl) (by decide) ?_
                  refine lv_aload_n hx hb dL_law_311 rfl (lv_at hl 1 rfl) ?_
                  refine lv_aload_n hx hb dL_law_312 rfl (lv_at hl 0 rfl) ?_
                  refine lv_iload_n hx hb dL_law_313 rfl (lv_at hl 3 rfl) ?_
                  refine lv_iconst (v := 1) hx hb dL_law_314 (by decide) ?_
                  refine lv_iadd (x := x3) (y := 1) hx hb dL_law_315 ?_
                  obtain ⟨v51, ev51, h⟩ := gb_s h
                  obtain ⟨hin, ev51⟩ := g_sc_s ev51
                  refine va_sld hx hb hX hbl hbA hI.2.1 hin dL_law_316 ?_
                  refine g_topi ev51 ?_
                  refine lv_aload_n hx hb dL_law_317 rfl (lv_at hl 0 rfl) ?_
                  refine lv_iload_n hx hb dL_law_318 rfl (lv_at hl 3 rfl) ?_
                  refine lv_iconst (v := 2) hx hb dL_law_319 (by decide) ?_
                  refine lv_iadd (x := x3) (y := 2) hx hb dL_law_320 ?_
                  obtain ⟨v52, ev52, h⟩ := gb_s h
                  obtain ⟨hin, ev52⟩ := g_sc_s ev52
                  refine va_sld hx hb hX hbl hbA hI.2.1 hin dL_law_321 ?_
                  refine g_topi ev52 ?_
                  refine lv_aload_n hx hb dL_law_322 rfl (lv_at hl 0 rfl) ?_
                  refine lv_iload_n hx hb dL_law_323 rfl (lv_at hl 3 rfl) ?_
                  refine lv_iconst (v := 3) hx hb dL_law_324 (by decide) ?_
                  refine lv_iadd (x := x3) (y := 3) hx hb dL_law_325 ?_
                  obtain ⟨v53, ev53, h⟩ := gb_s h
                  obtain ⟨hin, ev53⟩ := g_sc_s ev53
                  refine va_sld hx hb hX hbl hbA hI.2.1 hin dL_law_326 ?_
                  refine g_topi ev53 ?_
                  obtain ⟨cO, h⟩ := gck_s h
                  obtain ⟨r54, G55, er54, h⟩ := gb2_s h
                  refine g_callV X hI (q := (RX5, TX5, 9)) (b := x1) (av := [.int v51, .int v52, .int v53]) cO rfl (c_X5_bits er54) gm_X5_bits tw_1_205 tw_1_206 tw_1_207 ⟨by decide, by decide⟩ hl.1 (rest := []) rfl (Nat.le_of_ble_eq_true rfl) dL_law_327 ⟨by show cl + 0 ≤ 600000; omega, by show sl + 0 ≤ 7302250; omega⟩ (st1 := [.long r54]) rfl (cells' := cl) (slots' := sl) rfl rfl (fun H locs hI => ?_)
                  refine lv_aload_n hx hb dL_law_330 rfl (lv_at hl 2 rfl) ?_
                  refine lv_aload_n hx hb dL_law_331 rfl (lv_at hl 0 rfl) ?_
                  refine lv_iload_n hx hb dL_law_332 rfl (lv_at hl 3 rfl) ?_
                  refine lv_iconst (v := 1) hx hb dL_law_333 (by decide) ?_
                  refine lv_iadd (x := x3) (y := 1) hx hb dL_law_334 ?_
                  obtain ⟨v56, ev56, h⟩ := gb_s h
                  obtain ⟨hin, ev56⟩ := g_sc_s ev56
                  refine va_sld hx hb hX hbl hbA hI.2.1 hin dL_law_335 ?_
                  refine g_topi ev56 ?_
                  refine lv_aload_n hx hb dL_law_336 rfl (lv_at hl 0 rfl) ?_
                  refine lv_iload_n hx hb dL_law_337 rfl (lv_at hl 3 rfl) ?_
                  refine lv_iconst (v := 2) hx hb dL_law_338 (by decide) ?_
                  refine lv_iadd (x := x3) (y := 2) hx hb dL_law_339 ?_
                  obtain ⟨v57, ev57, h⟩ := gb_s h
                  obtain ⟨hin, ev57⟩ := g_sc_s ev57
                  refine va_sld hx hb hX hbl hbA hI.2.1 hin dL_law_340 ?_
                  refine g_topi ev57 ?_
                  refine lv_aload_n hx hb dL_law_341 rfl (lv_at hl 0 rfl) ?_
                  refine lv_iload_n hx hb dL_law_342 rfl (lv_at hl 3 rfl) ?_
                  refine lv_iconst (v := 3) hx hb dL_law_343 (by decide) ?_
                  refine lv_iadd (x := x3) (y := 3) hx hb dL_law_344 ?_
                  obtain ⟨v58, ev58, h⟩ := gb_s h
                  obtain ⟨hin, ev58⟩ := g_sc_s ev58
                  refine va_sld hx hb hX hbl hbA hI.2.1 hin dL_law_345 ?_
                  refine g_topi ev58 ?_
                  obtain ⟨cO, h⟩ := gck_s h
                  obtain ⟨r59, G60, er59, h⟩ := gb2_s h
                  refine g_callV X hI (q := (RX6, TX6, 17)) (b := x2) (av := [.int v56, .int v57, .int v58]) cO rfl (c_X6_bits er59) gm_X6_bits tw_3_143 tw_3_144 tw_3_145 ⟨by decide, by decide⟩ hl.1 (rest := [.long r54]) rfl (Nat.le_of_ble_eq_true rfl) dL_law_346 ⟨by show cl + 0 ≤ 600000; omega, by show sl + 0 ≤ 7302250; omega⟩ (st1 := [.long r59, .long r54]) rfl (cells' := cl) (slots' := sl) rfl rfl (fun H locs hI => ?_)
                  refine W.lcmp hx hb dL_law_349 ?_
                  refine lv_if_eq (tgt := 778) hx hb dL_law_350 (by decide) (fun c => ?_) (fun c => ?_)
                  · have h := g_t _ ((lg_cmp_eq _ _).mp c) h
                    obtain ⟨v61, ev61, h⟩ := gl_s h
                    refine lv_iinc (v := v61) (lv' := [(3, .int v61), (0, .ref b), (1, .ref x1), (2, .ref x2)]) hx hb dL_law_778 hl (k := 3) rfl (by rw [← ev61]; rfl) (by decide) rfl (fun ls hl => ?_)
                    refine lv_goto (tgt := 18) hx hb dL_law_781 (by decide) ?_
                    refine W.widen (k := cl + 4) (n := sl + 249) (by omega) (by omega) ?_
                    exact ih (by omega) (by omega) hI h (lv_sub hl [1, 2, 3, 0] rfl)
                  · have h := g_f _ (fun q => c ((lg_cmp_eq _ _).mpr q)) h
                    refine lv_iconst (v := 0) hx hb dL_law_353 (by decide) ?_
                    exact absurd (Option.some.inj h) (by decide)
                · have h := g_f _ c5 h
                  by_cases c6 : (v1 &&& 31) = 6
                  · have h := g_t _ c6 h
                    refine lv_tableIn (off := 322) (tgt := 355) hx hb dL_law_33 (by rw [c6]; decide) (by rw [c6]; decide) (by rw [c6]; rfl) (by decide) ?_
                    refine lv_aload_n hx hb dL_law_355 rfl (lv_at hl 1 rfl) ?_
                    refine lv_aload_n hx hb dL_law_356 rfl (lv_at hl 0 rfl) ?_
                    refine lv_iload_n hx hb dL_law_357 rfl (lv_at hl 3 rfl) ?_
                    refine lv_iconst (v := 1) hx hb dL_law_358 (by decide) ?_
                    refine lv_iadd (x := x3) (y := 1) hx hb dL_law_359 ?_
                    obtain ⟨v62, ev62, h⟩ := gb_s h
                    obtain ⟨hin, ev62⟩ := g_sc_s ev62
                    refine va_sld hx hb hX hbl hbA hI.2.1 hin dL_law_360 ?_
                    refine g_topi ev62 ?_
                    refine lv_aload_n hx hb dL_law_361 rfl (lv_at hl 0 rfl) ?_
                    refine lv_iload_n hx hb dL_law_362 rfl (lv_at hl 3 rfl) ?_
                    refine lv_iconst (v := 2) hx hb dL_law_363 (by decide) ?_
                    refine lv_iadd (x := x3) (y := 2) hx hb dL_law_364 ?_
                    obtain ⟨v63, ev63, h⟩ := gb_s h
                    obtain ⟨hin, ev63⟩ := g_sc_s ev63
                    refine va_sld hx hb hX hbl hbA hI.2.1 hin dL_law_365 ?_
                    refine g_topi ev63 ?_
                    refine lv_aload_n hx hb dL_law_366 rfl (lv_at hl 0 rfl) ?_
                    refine lv_iload_n hx hb dL_law_367 rfl (lv_at hl 3 rfl) ?_
                    refine lv_iconst (v := 3) hx hb dL_law_368 (by decide) ?_
                    refine lv_iadd (x := x3) (y := 3) hx hb dL_law_369 ?_
                    obtain ⟨v64, ev64, h⟩ := gb_s h
                    obtain ⟨hin, ev64⟩ := g_sc_s ev64
                    refine va_sld hx hb hX hbl hbA hI.2.1 hin dL_law_370 ?_
                    refine g_topi ev64 ?_
                    refine lv_aload_n hx hb dL_law_371 rfl (lv_at hl 0 rfl) ?_
                    refine lv_iload_n hx hb dL_law_372 rfl (lv_at hl 3 rfl) ?_
                    refine lv_iconst (v := 4) hx hb dL_law_373 (by decide) ?_
                    refine lv_iadd (x := x3) (y := 4) hx hb dL_law_374 ?_
                    obtain ⟨v65, ev65, h⟩ := gb_s h
                    obtain ⟨hin, ev65⟩ := g_sc_s ev65
                    refine va_sld hx hb hX hbl hbA hI.2.1 hin dL_law_375 ?_
                    refine g_topi ev65 ?_
                    obtain ⟨cO, h⟩ := gck_s h
                    obtain ⟨r66, G67, er66, h⟩ := gb2_s h
                    refine g_callV X hI (q := (RX5, TX5, 9)) (b := x1) (av := [.int v62, .int v63, .int v64, .int v65]) cO rfl (c_X5_index er66) gm_X5_index tw_1_214 tw_1_215 tw_1_216 ⟨by decide, by decide⟩ hl.1 (rest := []) rfl (Nat.le_of_ble_eq_true rfl) dL_law_376 ⟨by show cl + 0 ≤ 600000; omega, by show sl + 0 ≤ 7302250; omega⟩ (st1 := [.int r66]) rfl (cells' := cl) (slots' := sl) rfl rfl (fun H locs hI => ?_)
                    refine lv_aload_n hx hb dL_law_379 rfl (lv_at hl 2 rfl) ?_
                    refine lv_aload_n hx hb dL_law_380 rfl (lv_at hl 0 rfl) ?_
                    refine lv_iload_n hx hb dL_law_381 rfl (lv_at hl 3 rfl) ?_
                    refine lv_iconst (v := 1) hx hb dL_law_382 (by decide) ?_
                    refine lv_iadd (x := x3) (y := 1) hx hb dL_law_383 ?_
                    obtain ⟨v68, ev68, h⟩ := gb_s h
                    obtain ⟨hin, ev68⟩ := g_sc_s ev68
                    refine va_sld hx hb hX hbl hbA hI.2.1 hin dL_law_384 ?_
                    refine g_topi ev68 ?_
                    refine lv_aload_n hx hb dL_law_385 rfl (lv_at hl 0 rfl) ?_
                    refine lv_iload_n hx hb dL_law_386 rfl (lv_at hl 3 rfl) ?_
                    refine lv_iconst (v := 2) hx hb dL_law_387 (by decide) ?_
                    refine lv_iadd (x := x3) (y := 2) hx hb dL_law_388 ?_
                    obtain ⟨v69, ev69, h⟩ := gb_s h
                    obtain ⟨hin, ev69⟩ := g_sc_s ev69
                    refine va_sld hx hb hX hbl hbA hI.2.1 hin dL_law_389 ?_
                    refine g_topi ev69 ?_
                    refine lv_aload_n hx hb dL_law_390 rfl (lv_at hl 0 rfl) ?_
                    refine lv_iload_n hx hb dL_law_391 rfl (lv_at hl 3 rfl) ?_
                    refine lv_iconst (v := 3) hx hb dL_law_392 (by decide) ?_
                    refine lv_iadd (x := x3) (y := 3) hx hb dL_law_393 ?_
                    obtain ⟨v70, ev70, h⟩ := gb_s h
                    obtain ⟨hin, ev70⟩ := g_sc_s ev70
                    refine va_sld hx hb hX hbl hbA hI.2.1 hin dL_law_394 ?_
                    refine g_topi ev70 ?_
                    refine lv_aload_n hx hb dL_law_395 rfl (lv_at hl 0 rfl) ?_
                    refine lv_iload_n hx hb dL_law_396 rfl (lv_at hl 3 rfl) ?_
                    refine lv_iconst (v := 4) hx hb dL_law_397 (by decide) ?_
                    refine lv_iadd (x := x3) (y := 4) hx hb dL_law_398 ?_
                    obtain ⟨v71, ev71, h⟩ := gb_s h
                    obtain ⟨hin, ev71⟩ := g_sc_s ev71
                    refine va_sld hx hb hX hbl hbA hI.2.1 hin dL_law_399 ?_
                    refine g_topi ev71 ?_
                    obtain ⟨cO, h⟩ := gck_s h
                    obtain ⟨r72, G73, er72, h⟩ := gb2_s h
                    refine g_callV X hI (q := (RX6, TX6, 17)) (b := x2) (av := [.int v68, .int v69, .int v70, .int v71]) cO rfl (c_X6_index er72) gm_X6_index tw_3_148 tw_3_149 tw_3_150 ⟨by decide, by decide⟩ hl.1 (rest := [.int r66]) rfl (Nat.le_of_ble_eq_true rfl) dL_law_400 ⟨by show cl + 0 ≤ 600000; omega, by show sl + 0 ≤ 7302250; omega⟩ (st1 := [.int r72, .int r66]) rfl (cells' := cl) (slots' := sl) rfl rfl (fun H locs hI => ?_)
                    refine lv_icmp_eq (tgt := 778) hx hb dL_law_403 (by decide) (fun c => ?_) (fun c => ?_)
                    · have h := g_t _ c h
                      obtain ⟨v74, ev74, h⟩ := gl_s h
                      refine lv_iinc (v := v74) (lv' := [(3, .int v74), (0, .ref b), (1, .ref x1), (2, .ref x2)]) hx hb dL_law_778 hl (k := 3) rfl (by rw [← ev74]; rfl) (by decide) rfl (fun ls hl => ?_)
                      refine lv_goto (tgt := 18) hx hb dL_law_781 (by decide) ?_
                      refine W.widen (k := cl + 4) (n := sl + 249) (by omega) (by omega) ?_
                      exact ih (by omega) (by omega) hI h (lv_sub hl [1, 2, 3, 0] rfl)
                    · have h := g_f _ c h
                      refine lv_iconst (v := 0) hx hb dL_law_406 (by decide) ?_
                      exact absurd (Option.some.inj h) (by decide)
                  · have h := g_f _ c6 h
                    by_cases c7 : (v1 &&& 31) = 7
                    · have h := g_t _ c7 h
                      refine lv_tableIn (off := 375) (tgt := 408) hx hb dL_law_33 (by rw [c7]; decide) (by rw [c7]; decide) (by rw [c7]; rfl) (by decide) ?_
                      refine lv_aload_n hx hb dL_law_408 rfl (lv_at hl 1 rfl) ?_
                      refine lv_aload_n hx hb dL_law_409 rfl (lv_at hl 0 rfl) ?_
                      refine lv_iload_n hx hb dL_law_410 rfl (lv_at hl 3 rfl) ?_
                      refine lv_iconst (v := 1) hx hb dL_law_411 (by decide) ?_
                      refine lv_iadd (x := x3) (y := 1) hx hb dL_law_412 ?_
                      obtain ⟨v75, ev75, h⟩ := gb_s h
                      obtain ⟨hin, ev75⟩ := g_sc_s ev75
                      refine va_sld hx hb hX hbl hbA hI.2.1 hin dL_law_413 ?_
                      refine g_topi ev75 ?_
                      refine lv_aload_n hx hb dL_law_414 rfl (lv_at hl 0 rfl) ?_
                      refine lv_iload_n hx hb dL_law_415 rfl (lv_at hl 3 rfl) ?_
                      refine lv_iconst (v := 2) hx hb dL_law_416 (by decide) ?_
                      refine lv_iadd (x := x3) (y := 2) hx hb dL_law_417 ?_
                      obtain ⟨v76, ev76, h⟩ := gb_s h
                      obtain ⟨hin, ev76⟩ := g_sc_s ev76
                      refine va_sld hx hb hX hbl hbA hI.2.1 hin dL_law_418 ?_
                      refine g_topi ev76 ?_
                      obtain ⟨cO, h⟩ := gck_s h
                      obtain ⟨r77, G78, er77, h⟩ := gb2_s h
                      refine g_callV X hI (q := (RX5, TX5, 9)) (b := x1) (av := [.int v75, .int v76]) cO rfl (c_X5_of er77) gm_X5_of tw_1_226 tw_1_227 tw_1_228 ⟨by decide, by decide⟩ hl.1 (rest := []) rfl (Nat.le_of_ble_eq_true rfl) dL_law_419 ⟨by show cl + 0 ≤ 600000; omega, by show sl + 0 ≤ 7302250; omega⟩ (st1 := [.int r77]) rfl (cells' := cl) (slots' := sl) rfl rfl (fun H locs hI => ?_)
                      refine lv_aload_n hx hb dL_law_422 rfl (lv_at hl 2 rfl) ?_
                      refine lv_aload_n hx hb dL_law_423 rfl (lv_at hl 0 rfl) ?_
                      refine lv_iload_n hx hb dL_law_424 rfl (lv_at hl 3 rfl) ?_
                      refine lv_iconst (v := 1) hx hb dL_law_425 (by decide) ?_
                      refine lv_iadd (x := x3) (y := 1) hx hb dL_law_426 ?_
                      obtain ⟨v79, ev79, h⟩ := gb_s h
                      obtain ⟨hin, ev79⟩ := g_sc_s ev79
                      refine va_sld hx hb hX hbl hbA hI.2.1 hin dL_law_427 ?_
                      refine g_topi ev79 ?_
                      refine lv_aload_n hx hb dL_law_428 rfl (lv_at hl 0 rfl) ?_
                      refine lv_iload_n hx hb dL_law_429 rfl (lv_at hl 3 rfl) ?_
                      refine lv_iconst (v := 2) hx hb dL_law_430 (by decide) ?_
                      refine lv_iadd (x := x3) (y := 2) hx hb dL_law_431 ?_
                      obtain ⟨v80, ev80, h⟩ := gb_s h
                      obtain ⟨hin, ev80⟩ := g_sc_s ev80
                      refine va_sld hx hb hX hbl hbA hI.2.1 hin dL_law_432 ?_
                      refine g_topi ev80 ?_
                      obtain ⟨cO, h⟩ := gck_s h
                      obtain ⟨r81, G82, er81, h⟩ := gb2_s h
                      refine g_callV X hI (q := (RX6, TX6, 17)) (b := x2) (av := [.int v79, .int v80]) cO rfl (c_X6_of er81) gm_X6_of tw_3_152 tw_3_153 tw_3_154 ⟨by decide, by decide⟩ hl.1 (rest := [.int r77]) rfl (Nat.le_of_ble_eq_true rfl) dL_law_433 ⟨by show cl + 0 ≤ 600000; omega, by show sl + 0 ≤ 7302250; omega⟩ (st1 := [.int r81, .int r77]) rfl (cells' := cl) (slots' := sl) rfl rfl (fun H locs hI => ?_)
                      refine lv_icmp_eq (tgt := 778) hx hb dL_law_436 (by decide) (fun c => ?_) (fun c => ?_)
                      · have h := g_t _ c h
                        obtain ⟨v83, ev83, h⟩ := gl_s h
                        refine lv_iinc (v := v83) (lv' := [(3, .int v83), (0, .ref b), (1, .ref x1), (2, .ref x2)]) hx hb dL_law_778 hl (k := 3) rfl (by rw [← ev83]; rfl) (by decide) rfl (fun ls hl => ?_)
                        refine lv_goto (tgt := 18) hx hb dL_law_781 (by decide) ?_
                        refine W.widen (k := cl + 4) (n := sl + 249) (by omega) (by omega) ?_
                        exact ih (by omega) (by omega) hI h (lv_sub hl [1, 2, 3, 0] rfl)
                      · have h := g_f _ c h
                        refine lv_iconst (v := 0) hx hb dL_law_439 (by decide) ?_
                        exact absurd (Option.some.inj h) (by decide)
                    · have h := g_f _ c7 h
                      by_cases c8 : (v1 &&& 31) = 8
                      · have h := g_t _ c8 h
                        refine lv_tableIn (off := 408) (tgt := 441) hx hb dL_law_33 (by rw [c8]; decide) (by rw [c8]; decide) (by rw [c8]; rfl) (by decide) ?_
                        refine lv_aload_n hx hb dL_law_441 rfl (lv_at hl 1 rfl) ?_
                        refine lv_aload_n hx hb dL_law_442 rfl (lv_at hl 0 rfl) ?_
                        refine lv_iload_n hx hb dL_law_443 rfl (lv_at hl 3 rfl) ?_
                        refine lv_iconst (v := 1) hx hb dL_law_444 (by decide) ?_
                        refine lv_iadd (x := x3) (y := 1) hx hb dL_law_445 ?_
                        obtain ⟨v84, ev84, h⟩ := gb_s h
                        obtain ⟨hin, ev84⟩ := g_sc_s ev84
                        refine va_sld hx hb hX hbl hbA hI.2.1 hin dL_law_446 ?_
                        refine g_topi ev84 ?_
                        refine lv_aload_n hx hb dL_law_447 rfl (lv_at hl 0 rfl) ?_
                        refine lv_iload_n hx hb dL_law_448 rfl (lv_at hl 3 rfl) ?_
                        refine lv_iconst (v := 2) hx hb dL_law_449 (by decide) ?_
                        refine lv_iadd (x := x3) (y := 2) hx hb dL_law_450 ?_
                        obtain ⟨v85, ev85, h⟩ := gb_s h
                        obtain ⟨hin, ev85⟩ := g_sc_s ev85
                        refine va_sld hx hb hX hbl hbA hI.2.1 hin dL_law_451 ?_
                        refine g_topi ev85 ?_
                        refine lv_aload_n hx hb dL_law_452 rfl (lv_at hl 0 rfl) ?_
                        refine lv_iload_n hx hb dL_law_453 rfl (lv_at hl 3 rfl) ?_
                        refine lv_iconst (v := 3) hx hb dL_law_454 (by decide) ?_
                        refine lv_iadd (x := x3) (y := 3) hx hb dL_law_455 ?_
                        obtain ⟨v86, ev86, h⟩ := gb_s h
                        obtain ⟨hin, ev86⟩ := g_sc_s ev86
                        refine va_sld hx hb hX hbl hbA hI.2.1 hin dL_law_456 ?_
                        refine g_topi ev86 ?_
                        obtain ⟨cO, h⟩ := gck_s h
                        obtain ⟨r87, G88, n89, er87, h⟩ := gb3_s h
                        refine g_callV X hI (q := (RX5, TX5, 9)) (b := x1) (av := [.int v84, .int v85, .int v86]) cO rfl (c_X5_act er87) gm_X5_act tw_1_231 tw_1_232 tw_1_233 ⟨by decide, by decide⟩ hl.1 (rest := []) rfl (Nat.le_of_ble_eq_true rfl) dL_law_457 ⟨by show cl + 4 ≤ 600000; omega, by show sl + 249 ≤ 7302250; omega⟩ (st1 := [.int r87]) rfl (cells' := cl + 4) (slots' := sl + 249) rfl rfl (fun H locs hI => ?_)
                        refine lv_aload_n hx hb dL_law_460 rfl (lv_at hl 2 rfl) ?_
                        refine lv_aload_n hx hb dL_law_461 rfl (lv_at hl 0 rfl) ?_
                        refine lv_iload_n hx hb dL_law_462 rfl (lv_at hl 3 rfl) ?_
                        refine lv_iconst (v := 1) hx hb dL_law_463 (by decide) ?_
                        refine lv_iadd (x := x3) (y := 1) hx hb dL_law_464 ?_
                        obtain ⟨v90, ev90, h⟩ := gb_s h
                        obtain ⟨hin, ev90⟩ := g_sc_s ev90
                        refine va_sld hx hb hX hbl hbA hI.2.1 hin dL_law_465 ?_
                        refine g_topi ev90 ?_
                        refine lv_aload_n hx hb dL_law_466 rfl (lv_at hl 0 rfl) ?_
                        refine lv_iload_n hx hb dL_law_467 rfl (lv_at hl 3 rfl) ?_
                        refine lv_iconst (v := 2) hx hb dL_law_468 (by decide) ?_
                        refine lv_iadd (x := x3) (y := 2) hx hb dL_law_469 ?_
                        obtain ⟨v91, ev91, h⟩ := gb_s h
                        obtain ⟨hin, ev91⟩ := g_sc_s ev91
                        refine va_sld hx hb hX hbl hbA hI.2.1 hin dL_law_470 ?_
                        refine g_topi ev91 ?_
                        refine lv_aload_n hx hb dL_law_471 rfl (lv_at hl 0 rfl) ?_
                        refine lv_iload_n hx hb dL_law_472 rfl (lv_at hl 3 rfl) ?_
                        refine lv_iconst (v := 3) hx hb dL_law_473 (by decide) ?_
                        refine lv_iadd (x := x3) (y := 3) hx hb dL_law_474 ?_
                        obtain ⟨v92, ev92, h⟩ := gb_s h
                        obtain ⟨hin, ev92⟩ := g_sc_s ev92
                        refine va_sld hx hb hX hbl hbA hI.2.1 hin dL_law_475 ?_
                        refine g_topi ev92 ?_
                        obtain ⟨cO, h⟩ := gck_s h
                        obtain ⟨r93, G94, er93, h⟩ := gb2_s h
                        refine g_callV X hI (q := (RX6, TX6, 17)) (b := x2) (av := [.int v90, .int v91, .int v92]) cO rfl (c_X6_act er93) gm_X6_act tw_3_156 tw_3_157 tw_3_158 ⟨by decide, by decide⟩ hl.1 (rest := [.int r87]) rfl (Nat.le_of_ble_eq_true rfl) dL_law_476 ⟨by show cl + 4 + 0 ≤ 600000; omega, by show sl + 249 + 0 ≤ 7302250; omega⟩ (st1 := [.int r93, .int r87]) rfl (cells' := cl + 4) (slots' := sl + 249) rfl rfl (fun H locs hI => ?_)
                        refine lv_icmp_eq (tgt := 778) hx hb dL_law_479 (by decide) (fun c => ?_) (fun c => ?_)
                        · have h := g_t _ c h
                          obtain ⟨v95, ev95, h⟩ := gl_s h
                          refine lv_iinc (v := v95) (lv' := [(3, .int v95), (0, .ref b), (1, .ref x1), (2, .ref x2)]) hx hb dL_law_778 hl (k := 3) rfl (by rw [← ev95]; rfl) (by decide) rfl (fun ls hl => ?_)
                          refine lv_goto (tgt := 18) hx hb dL_law_781 (by decide) ?_
                          exact ih (by omega) (by omega) hI h (lv_sub hl [1, 2, 3, 0] rfl)
                        · have h := g_f _ c h
                          refine lv_iconst (v := 0) hx hb dL_law_482 (by decide) ?_
                          exact absurd (Option.some.inj h) (by decide)
                      · have h := g_f _ c8 h
                        by_cases c9 : (v1 &&& 31) = 9
                        · have h := g_t _ c9 h
                          refine lv_tableIn (off := 451) (tgt := 484) hx hb dL_law_33 (by rw [c9]; decide) (by rw [c9]; decide) (by rw [c9]; rfl) (by decide) ?_
                          refine lv_aload_n hx hb dL_law_484 rfl (lv_at hl 1 rfl) ?_
                          refine lv_aload_n hx hb dL_law_485 rfl (lv_at hl 0 rfl) ?_
                          refine lv_iload_n hx hb dL_law_486 rfl (lv_at hl 3 rfl) ?_
                          refine lv_iconst (v := 1) hx hb dL_law_487 (by decide) ?_
                          refine lv_iadd (x := x3) (y := 1) hx hb dL_law_488 ?_
                          obtain ⟨v96, ev96, h⟩ := gb_s h
                          obtain ⟨hin, ev96⟩ := g_sc_s ev96
                          refine va_sld hx hb hX hbl hbA hI.2.1 hin dL_law_489 ?_
                          refine g_topi ev96 ?_
                          refine lv_aload_n hx hb dL_law_490 rfl (lv_at hl 0 rfl) ?_
                          refine lv_iload_n hx hb dL_law_491 rfl (lv_at hl 3 rfl) ?_
                          refine lv_iconst (v := 2) hx hb dL_law_492 (by decide) ?_
                          refine lv_iadd (x := x3) (y := 2) hx hb dL_law_493 ?_
                          obtain ⟨v97, ev97, h⟩ := gb_s h
                          obtain ⟨hin, ev97⟩ := g_sc_s ev97
                          refine va_sld hx hb hX hbl hbA hI.2.1 hin dL_law_494 ?_
                          refine g_topi ev97 ?_
                          refine lv_aload_n hx hb dL_law_495 rfl (lv_at hl 0 rfl) ?_
                          refine lv_iload_n hx hb dL_law_496 rfl (lv_at hl 3 rfl) ?_
                          refine lv_iconst (v := 3) hx hb dL_law_497 (by decide) ?_
                          refine lv_iadd (x := x3) (y := 3) hx hb dL_law_498 ?_
                          obtain ⟨v98, ev98, h⟩ := gb_s h
                          obtain ⟨hin, ev98⟩ := g_sc_s ev98
                          refine va_sld hx hb hX hbl hbA hI.2.1 hin dL_law_499 ?_
                          refine g_topi ev98 ?_
                          refine lv_aload_n hx hb dL_law_500 rfl (lv_at hl 0 rfl) ?_
                          refine lv_iload_n hx hb dL_law_501 rfl (lv_at hl 3 rfl) ?_
                          refine lv_iconst (v := 4) hx hb dL_law_502 (by decide) ?_
                          refine lv_iadd (x := x3) (y := 4) hx hb dL_law_503 ?_
                          obtain ⟨v99, ev99, h⟩ := gb_s h
                          obtain ⟨hin, ev99⟩ := g_sc_s ev99
                          refine va_sld hx hb hX hbl hbA hI.2.1 hin dL_law_504 ?_
                          refine g_topi ev99 ?_
                          obtain ⟨cO, h⟩ := gck_s h
                          obtain ⟨r100, G101, er100, h⟩ := gb2_s h
                          refine g_callV X hI (q := (RX5, TX5, 9)) (b := x1) (av := [.int v96, .int v97, .int v98, .int v99]) cO rfl (c_X5_into er100) gm_X5_into tw_2_199 tw_2_200 tw_2_201 ⟨by decide, by decide⟩ hl.1 (rest := []) rfl (Nat.le_of_ble_eq_true rfl) dL_law_505 ⟨by show cl + 0 ≤ 600000; omega, by show sl + 0 ≤ 7302250; omega⟩ (st1 := [.int r100]) rfl (cells' := cl) (slots' := sl) rfl rfl (fun H locs hI => ?_)
                          refine lv_aload_n hx hb dL_law_508 rfl (lv_at hl 2 rfl) ?_
                          refine lv_aload_n hx hb dL_law_509 rfl (lv_at hl 0 rfl) ?_
                          refine lv_iload_n hx hb dL_law_510 rfl (lv_at hl 3 rfl) ?_
                          refine lv_iconst (v := 1) hx hb dL_law_511 (by decide) ?_
                          refine lv_iadd (x := x3) (y := 1) hx hb dL_law_512 ?_
                          obtain ⟨v102, ev102, h⟩ := gb_s h
                          obtain ⟨hin, ev102⟩ := g_sc_s ev102
                          refine va_sld hx hb hX hbl hbA hI.2.1 hin dL_law_513 ?_
                          refine g_topi ev102 ?_
                          refine lv_aload_n hx hb dL_law_514 rfl (lv_at hl 0 rfl) ?_
                          refine lv_iload_n hx hb dL_law_515 rfl (lv_at hl 3 rfl) ?_
                          refine lv_iconst (v := 2) hx hb dL_law_516 (by decide) ?_
                          refine lv_iadd (x := x3) (y := 2) hx hb dL_law_517 ?_
                          obtain ⟨v103, ev103, h⟩ := gb_s h
                          obtain ⟨hin, ev103⟩ := g_sc_s ev103
                          refine va_sld hx hb hX hbl hbA hI.2.1 hin dL_law_518 ?_
                          refine g_topi ev103 ?_
                          refine lv_aload_n hx hb dL_law_519 rfl (lv_at hl 0 rfl) ?_
                          refine lv_iload_n hx hb dL_law_520 rfl (lv_at hl 3 rfl) ?_
                          refine lv_iconst (v := 3) hx hb dL_law_521 (by decide) ?_
                          refine lv_iadd (x := x3) (y := 3) hx hb dL_law_522 ?_
                          obtain ⟨v104, ev104, h⟩ := gb_s h
                          obtain ⟨hin, ev104⟩ := g_sc_s ev104
                          refine va_sld hx hb hX hbl hbA hI.2.1 hin dL_law_523 ?_
                          refine g_topi ev104 ?_
                          refine lv_aload_n hx hb dL_law_524 rfl (lv_at hl 0 rfl) ?_
                          refine lv_iload_n hx hb dL_law_525 rfl (lv_at hl 3 rfl) ?_
                          refine lv_iconst (v := 4) hx hb dL_law_526 (by decide) ?_
                          refine lv_iadd (x := x3) (y := 4) hx hb dL_law_527 ?_
                          obtain ⟨v105, ev105, h⟩ := gb_s h
                          obtain ⟨hin, ev105⟩ := g_sc_s ev105
                          refine va_sld hx hb hX hbl hbA hI.2.1 hin dL_law_528 ?_
                          refine g_topi ev105 ?_
                          obtain ⟨cO, h⟩ := gck_s h
                          obtain ⟨r106, G107, er106, h⟩ := gb2_s h
                          refine g_callV X hI (q := (RX6, TX6, 17)) (b := x2) (av := [.int v102, .int v103, .int v104, .int v105]) cO rfl (c_X6_into er106) gm_X6_into tw_4_57 tw_4_58 tw_4_59 ⟨by decide, by decide⟩ hl.1 (rest := [.int r100]) rfl (Nat.le_of_ble_eq_true rfl) dL_law_529 ⟨by show cl + 0 ≤ 600000; omega, by show sl + 0 ≤ 7302250; omega⟩ (st1 := [.int r106, .int r100]) rfl (cells' := cl) (slots' := sl) rfl rfl (fun H locs hI => ?_)
                          refine lv_icmp_eq (tgt := 778) hx hb dL_law_532 (by decide) (fun c => ?_) (fun c => ?_)
                          · have h := g_t _ c h
                            obtain ⟨v108, ev108, h⟩ := gl_s h
                            refine lv_iinc (v := v108) (lv' := [(3, .int v108), (0, .ref b), (1, .ref x1), (2, .ref x2)]) hx hb dL_law_778 hl (k := 3) rfl (by rw [← ev108]; rfl) (by decide) rfl (fun ls hl => ?_)
                            refine lv_goto (tgt := 18) hx hb dL_law_781 (by decide) ?_
                            refine W.widen (k := cl + 4) (n := sl + 249) (by omega) (by omega) ?_
                            exact ih (by omega) (by omega) hI h (lv_sub hl [1, 2, 3, 0] rfl)
                          · have h := g_f _ c h
                            refine lv_iconst (v := 0) hx hb dL_law_535 (by decide) ?_
                            exact absurd (Option.some.inj h) (by decide)
                        · have h := g_f _ c9 h
                          by_cases c10 : (v1 &&& 31) = 10
                          · have h := g_t _ c10 h
                            refine lv_tableIn (off := 504) (tgt := 537) hx hb dL_law_33 (by rw [c10]; decide) (by rw [c10]; decide) (by rw [c10]; rfl) (by decide) ?_
                            refine lv_aload_n hx hb dL_law_537 rfl (lv_at hl 1 rfl) ?_
                            refine lv_aload_n hx hb dL_law_538 rfl (lv_at hl 0 rfl) ?_
                            refine lv_iload_n hx hb dL_law_539 rfl (lv_at hl 3 rfl) ?_
                            refine lv_iconst (v := 1) hx hb dL_law_540 (by decide) ?_
                            refine lv_iadd (x := x3) (y := 1) hx hb dL_law_541 ?_
                            obtain ⟨v109, ev109, h⟩ := gb_s h
                            obtain ⟨hin, ev109⟩ := g_sc_s ev109
                            refine va_sld hx hb hX hbl hbA hI.2.1 hin dL_law_542 ?_
                            refine g_topi ev109 ?_
                            refine lv_aload_n hx hb dL_law_543 rfl (lv_at hl 0 rfl) ?_
                            refine lv_iload_n hx hb dL_law_544 rfl (lv_at hl 3 rfl) ?_
                            refine lv_iconst (v := 2) hx hb dL_law_545 (by decide) ?_
                            refine lv_iadd (x := x3) (y := 2) hx hb dL_law_546 ?_
                            obtain ⟨v110, ev110, h⟩ := gb_s h
                            obtain ⟨hin, ev110⟩ := g_sc_s ev110
                            refine va_sld hx hb hX hbl hbA hI.2.1 hin dL_law_547 ?_
                            refine g_topi ev110 ?_
                            obtain ⟨cO, h⟩ := gck_s h
                            obtain ⟨r111, G112, n113, er111, h⟩ := gb3_s h
                            refine g_callV X hI (q := (RX5, TX5, 9)) (b := x1) (av := [.int v109, .int v110]) cO rfl (c_X5_one er111) gm_X5_one tw_2_214 tw_2_215 tw_2_216 ⟨by decide, by decide⟩ hl.1 (rest := []) rfl (Nat.le_of_ble_eq_true rfl) dL_law_548 ⟨by show cl + 4 ≤ 600000; omega, by show sl + 249 ≤ 7302250; omega⟩ (st1 := [.int r111]) rfl (cells' := cl + 4) (slots' := sl + 249) rfl rfl (fun H locs hI => ?_)
                            refine lv_aload_n hx hb dL_law_551 rfl (lv_at hl 2 rfl) ?_
                            refine lv_aload_n hx hb dL_law_552 rfl (lv_at hl 0 rfl) ?_
                            refine lv_iload_n hx hb dL_law_553 rfl (lv_at hl 3 rfl) ?_
                            refine lv_iconst (v := 1) hx hb dL_law_554 (by decide) ?_
                            refine lv_iadd (x := x3) (y := 1) hx hb dL_law_555 ?_
                            obtain ⟨v114, ev114, h⟩ := gb_s h
                            obtain ⟨hin, ev114⟩ := g_sc_s ev114
                            refine va_sld hx hb hX hbl hbA hI.2.1 hin dL_law_556 ?_
                            refine g_topi ev114 ?_
                            refine lv_aload_n hx hb dL_law_557 rfl (lv_at hl 0 rfl) ?_
                            refine lv_iload_n hx hb dL_law_558 rfl (lv_at hl 3 rfl) ?_
                            refine lv_iconst (v := 2) hx hb dL_law_559 (by decide) ?_
                            refine lv_iadd (x := x3) (y := 2) hx hb dL_law_560 ?_
                            obtain ⟨v115, ev115, h⟩ := gb_s h
                            obtain ⟨hin, ev115⟩ := g_sc_s ev115
                            refine va_sld hx hb hX hbl hbA hI.2.1 hin dL_law_561 ?_
                            refine g_topi ev115 ?_
                            obtain ⟨cO, h⟩ := gck_s h
                            obtain ⟨r116, G117, er116, h⟩ := gb2_s h
                            refine g_callV X hI (q := (RX6, TX6, 17)) (b := x2) (av := [.int v114, .int v115]) cO rfl (c_X6_one er116) gm_X6_one tw_4_61 tw_4_62 tw_4_63 ⟨by decide, by decide⟩ hl.1 (rest := [.int r111]) rfl (Nat.le_of_ble_eq_true rfl) dL_law_562 ⟨by show cl + 4 + 0 ≤ 600000; omega, by show sl + 249 + 0 ≤ 7302250; omega⟩ (st1 := [.int r116, .int r111]) rfl (cells' := cl + 4) (slots' := sl + 249) rfl rfl (fun H locs hI => ?_)
                            refine lv_icmp_eq (tgt := 778) hx hb dL_law_565 (by decide) (fun c => ?_) (fun c => ?_)
                            · have h := g_t _ c h
                              obtain ⟨v118, ev118, h⟩ := gl_s h
                              refine lv_iinc (v := v118) (lv' := [(3, .int v118), (0, .ref b), (1, .ref x1), (2, .ref x2)]) hx hb dL_law_778 hl (k := 3) rfl (by rw [← ev118]; rfl) (by decide) rfl (fun ls hl => ?_)
                              refine lv_goto (tgt := 18) hx hb dL_law_781 (by decide) ?_
                              exact ih (by omega) (by omega) hI h (lv_sub hl [1, 2, 3, 0] rfl)
                            · have h := g_f _ c h
                              refine lv_iconst (v := 0) hx hb dL_law_568 (by decide) ?_
                              exact absurd (Option.some.inj h) (by decide)
                          · have h := g_f _ c10 h
                            by_cases c11 : (v1 &&& 31) = 11
                            · have h := g_t _ c11 h
                              refine lv_tableIn (off := 537) (tgt := 570) hx hb dL_law_33 (by rw [c11]; decide) (by rw [c11]; decide) (by rw [c11]; rfl) (by decide) ?_
                              refine lv_aload_n hx hb dL_law_570 rfl (lv_at hl 1 rfl) ?_
                              refine lv_aload_n hx hb dL_law_571 rfl (lv_at hl 0 rfl) ?_
                              refine lv_iload_n hx hb dL_law_572 rfl (lv_at hl 3 rfl) ?_
                              refine lv_iconst (v := 1) hx hb dL_law_573 (by decide) ?_
                              refine lv_iadd (x := x3) (y := 1) hx hb dL_law_574 ?_
                              obtain ⟨v119, ev119, h⟩ := gb_s h
                              obtain ⟨hin, ev119⟩ := g_sc_s ev119
                              refine va_sld hx hb hX hbl hbA hI.2.1 hin dL_law_575 ?_
                              refine g_topi ev119 ?_
                              refine lv_aload_n hx hb dL_law_576 rfl (lv_at hl 0 rfl) ?_
                              refine lv_iload_n hx hb dL_law_577 rfl (lv_at hl 3 rfl) ?_
                              refine lv_iconst (v := 2) hx hb dL_law_578 (by decide) ?_
                              refine lv_iadd (x := x3) (y := 2) hx hb dL_law_579 ?_
                              obtain ⟨v120, ev120, h⟩ := gb_s h
                              obtain ⟨hin, ev120⟩ := g_sc_s ev120
                              refine va_sld hx hb hX hbl hbA hI.2.1 hin dL_law_580 ?_
                              refine g_topi ev120 ?_
                              obtain ⟨cO, h⟩ := gck_s h
                              obtain ⟨r121, G122, n123, er121, h⟩ := gb3_s h
                              refine g_callV X hI (q := (RX5, TX5, 9)) (b := x1) (av := [.int v119, .int v120]) cO rfl (c_X5_cast er121) gm_X5_cast tw_2_238 tw_2_239 tw_3_0 ⟨by decide, by decide⟩ hl.1 (rest := []) rfl (Nat.le_of_ble_eq_true rfl) dL_law_581 ⟨by show cl + 4 ≤ 600000; omega, by show sl + 249 ≤ 7302250; omega⟩ (st1 := [.int r121]) rfl (cells' := cl + 4) (slots' := sl + 249) rfl rfl (fun H locs hI => ?_)
                              refine lv_aload_n hx hb dL_law_584 rfl (lv_at hl 2 rfl) ?_
                              refine lv_aload_n hx hb dL_law_585 rfl (lv_at hl 0 rfl) ?_
                              refine lv_iload_n hx hb dL_law_586 rfl (lv_at hl 3 rfl) ?_
                              refine lv_iconst (v := 1) hx hb dL_law_587 (by decide) ?_
                              refine lv_iadd (x := x3) (y := 1) hx hb dL_law_588 ?_
                              obtain ⟨v124, ev124, h⟩ := gb_s h
                              obtain ⟨hin, ev124⟩ := g_sc_s ev124
                              refine va_sld hx hb hX hbl hbA hI.2.1 hin dL_law_589 ?_
                              refine g_topi ev124 ?_
                              refine lv_aload_n hx hb dL_law_590 rfl (lv_at hl 0 rfl) ?_
                              refine lv_iload_n hx hb dL_law_591 rfl (lv_at hl 3 rfl) ?_
                              refine lv_iconst (v := 2) hx hb dL_law_592 (by decide) ?_
                              refine lv_iadd (x := x3) (y := 2) hx hb dL_law_593 ?_
                              obtain ⟨v125, ev125, h⟩ := gb_s h
                              obtain ⟨hin, ev125⟩ := g_sc_s ev125
                              refine va_sld hx hb hX hbl hbA hI.2.1 hin dL_law_594 ?_
                              refine g_topi ev125 ?_
                              obtain ⟨cO, h⟩ := gck_s h
                              obtain ⟨r126, G127, er126, h⟩ := gb2_s h
                              refine g_callV X hI (q := (RX6, TX6, 17)) (b := x2) (av := [.int v124, .int v125]) cO rfl (c_X6_cast er126) gm_X6_cast tw_4_72 tw_4_73 tw_4_74 ⟨by decide, by decide⟩ hl.1 (rest := [.int r121]) rfl (Nat.le_of_ble_eq_true rfl) dL_law_595 ⟨by show cl + 4 + 0 ≤ 600000; omega, by show sl + 249 + 0 ≤ 7302250; omega⟩ (st1 := [.int r126, .int r121]) rfl (cells' := cl + 4) (slots' := sl + 249) rfl rfl (fun H locs hI => ?_)
                              refine lv_icmp_eq (tgt := 778) hx hb dL_law_598 (by decide) (fun c => ?_) (fun c => ?_)
                              · have h := g_t _ c h
                                obtain ⟨v128, ev128, h⟩ := gl_s h
                                refine lv_iinc (v := v128) (lv' := [(3, .int v128), (0, .ref b), (1, .ref x1), (2, .ref x2)]) hx hb dL_law_778 hl (k := 3) rfl (by rw [← ev128]; rfl) (by decide) rfl (fun ls hl => ?_)
                                refine lv_goto (tgt := 18) hx hb dL_law_781 (by decide) ?_
                                exact ih (by omega) (by omega) hI h (lv_sub hl [1, 2, 3, 0] rfl)
                              · have h := g_f _ c h
                                refine lv_iconst (v := 0) hx hb dL_law_601 (by decide) ?_
                                exact absurd (Option.some.inj h) (by decide)
                            · have h := g_f _ c11 h
                              by_cases c12 : (v1 &&& 31) = 12
                              · have h := g_t _ c12 h
                                refine lv_tableIn (off := 570) (tgt := 603) hx hb dL_law_33 (by rw [c12]; decide) (by rw [c12]; decide) (by rw [c12]; rfl) (by decide) ?_
                                refine lv_aload_n hx hb dL_law_603 rfl (lv_at hl 1 rfl) ?_
                                refine lv_aload_n hx hb dL_law_604 rfl (lv_at hl 0 rfl) ?_
                                refine lv_iload_n hx hb dL_law_605 rfl (lv_at hl 3 rfl) ?_
                                refine lv_iconst (v := 1) hx hb dL_law_606 (by decide) ?_
                                refine lv_iadd (x := x3) (y := 1) hx hb dL_law_607 ?_
                                obtain ⟨v129, ev129, h⟩ := gb_s h
                                obtain ⟨hin, ev129⟩ := g_sc_s ev129
                                refine va_sld hx hb hX hbl hbA hI.2.1 hin dL_law_608 ?_
                                refine g_topi ev129 ?_
                                refine lv_aload_n hx hb dL_law_609 rfl (lv_at hl 0 rfl) ?_
                                refine lv_iload_n hx hb dL_law_610 rfl (lv_at hl 3 rfl) ?_
                                refine lv_iconst (v := 2) hx hb dL_law_611 (by decide) ?_
                                refine lv_iadd (x := x3) (y := 2) hx hb dL_law_612 ?_
                                obtain ⟨v130, ev130, h⟩ := gb_s h
                                obtain ⟨hin, ev130⟩ := g_sc_s ev130
                                refine va_sld hx hb hX hbl hbA hI.2.1 hin dL_law_613 ?_
                                refine g_topi ev130 ?_
                                refine lv_aload_n hx hb dL_law_614 rfl (lv_at hl 0 rfl) ?_
                                refine lv_iload_n hx hb dL_law_615 rfl (lv_at hl 3 rfl) ?_
                                refine lv_iconst (v := 3) hx hb dL_law_616 (by decide) ?_
                                refine lv_iadd (x := x3) (y := 3) hx hb dL_law_617 ?_
                                obtain ⟨v131, ev131, h⟩ := gb_s h
                                obtain ⟨hin, ev131⟩ := g_sc_s ev131
                                refine va_sld hx hb hX hbl hbA hI.2.1 hin dL_law_618 ?_
                                refine g_topi ev131 ?_
                                obtain ⟨cO, h⟩ := gck_s h
                                obtain ⟨r132, G133, n134, er132, h⟩ := gb3_s h
                                refine g_callV X hI (q := (RX5, TX5, 9)) (b := x1) (av := [.int v129, .int v130, .int v131]) cO rfl (c_X5_where er132) gm_X5_where tw_3_2 tw_3_3 tw_3_4 ⟨by decide, by decide⟩ hl.1 (rest := []) rfl (Nat.le_of_ble_eq_true rfl) dL_law_619 ⟨by show cl + 4 ≤ 600000; omega, by show sl + 249 ≤ 7302250; omega⟩ (st1 := [.int r132]) rfl (cells' := cl + 4) (slots' := sl + 249) rfl rfl (fun H locs hI => ?_)
                                refine lv_aload_n hx hb dL_law_622 rfl (lv_at hl 2 rfl) ?_
                                refine lv_aload_n hx hb dL_law_623 rfl (lv_at hl 0 rfl) ?_
                                refine lv_iload_n hx hb dL_law_624 rfl (lv_at hl 3 rfl) ?_
                                refine lv_iconst (v := 1) hx hb dL_law_625 (by decide) ?_
                                refine lv_iadd (x := x3) (y := 1) hx hb dL_law_626 ?_
                                obtain ⟨v135, ev135, h⟩ := gb_s h
                                obtain ⟨hin, ev135⟩ := g_sc_s ev135
                                refine va_sld hx hb hX hbl hbA hI.2.1 hin dL_law_627 ?_
                                refine g_topi ev135 ?_
                                refine lv_aload_n hx hb dL_law_628 rfl (lv_at hl 0 rfl) ?_
                                refine lv_iload_n hx hb dL_law_629 rfl (lv_at hl 3 rfl) ?_
                                refine lv_iconst (v := 2) hx hb dL_law_630 (by decide) ?_
                                refine lv_iadd (x := x3) (y := 2) hx hb dL_law_631 ?_
                                obtain ⟨v136, ev136, h⟩ := gb_s h
                                obtain ⟨hin, ev136⟩ := g_sc_s ev136
                                refine va_sld hx hb hX hbl hbA hI.2.1 hin dL_law_632 ?_
                                refine g_topi ev136 ?_
                                refine lv_aload_n hx hb dL_law_633 rfl (lv_at hl 0 rfl) ?_
                                refine lv_iload_n hx hb dL_law_634 rfl (lv_at hl 3 rfl) ?_
                                refine lv_iconst (v := 3) hx hb dL_law_635 (by decide) ?_
                                refine lv_iadd (x := x3) (y := 3) hx hb dL_law_636 ?_
                                obtain ⟨v137, ev137, h⟩ := gb_s h
                                obtain ⟨hin, ev137⟩ := g_sc_s ev137
                                refine va_sld hx hb hX hbl hbA hI.2.1 hin dL_law_637 ?_
                                refine g_topi ev137 ?_
                                obtain ⟨cO, h⟩ := gck_s h
                                obtain ⟨r138, G139, er138, h⟩ := gb2_s h
                                refine g_callV X hI (q := (RX6, TX6, 17)) (b := x2) (av := [.int v135, .int v136, .int v137]) cO rfl (c_X6_where er138) gm_X6_where tw_4_76 tw_4_77 tw_4_78 ⟨by decide, by decide⟩ hl.1 (rest := [.int r132]) rfl (Nat.le_of_ble_eq_true rfl) dL_law_638 ⟨by show cl + 4 + 0 ≤ 600000; omega, by show sl + 249 + 0 ≤ 7302250; omega⟩ (st1 := [.int r138, .int r132]) rfl (cells' := cl + 4) (slots' := sl + 249) rfl rfl (fun H locs hI => ?_)
                                refine lv_icmp_eq (tgt := 778) hx hb dL_law_641 (by decide) (fun c => ?_) (fun c => ?_)
                                · have h := g_t _ c h
                                  obtain ⟨v140, ev140, h⟩ := gl_s h
                                  refine lv_iinc (v := v140) (lv' := [(3, .int v140), (0, .ref b), (1, .ref x1), (2, .ref x2)]) hx hb dL_law_778 hl (k := 3) rfl (by rw [← ev140]; rfl) (by decide) rfl (fun ls hl => ?_)
                                  refine lv_goto (tgt := 18) hx hb dL_law_781 (by decide) ?_
                                  exact ih (by omega) (by omega) hI h (lv_sub hl [1, 2, 3, 0] rfl)
                                · have h := g_f _ c h
                                  refine lv_iconst (v := 0) hx hb dL_law_644 (by decide) ?_
                                  exact absurd (Option.some.inj h) (by decide)
                              · have h := g_f _ c12 h
                                by_cases c13 : (v1 &&& 31) = 13
                                · have h := g_t _ c13 h
                                  refine lv_tableIn (off := 613) (tgt := 646) hx hb dL_law_33 (by rw [c13]; decide) (by rw [c13]; decide) (by rw [c13]; rfl) (by decide) ?_
                                  refine lv_aload_n hx hb dL_law_646 rfl (lv_at hl 1 rfl) ?_
                                  refine lv_aload_n hx hb dL_law_647 rfl (lv_at hl 0 rfl) ?_
                                  refine lv_iload_n hx hb dL_law_648 rfl (lv_at hl 3 rfl) ?_
                                  refine lv_iconst (v := 1) hx hb dL_law_649 (by decide) ?_
                                  refine lv_iadd (x := x3) (y := 1) hx hb dL_law_650 ?_
                                  obtain ⟨v141, ev141, h⟩ := gb_s h
                                  obtain ⟨hin, ev141⟩ := g_sc_s ev141
                                  refine va_sld hx hb hX hbl hbA hI.2.1 hin dL_law_651 ?_
                                  refine g_topi ev141 ?_
                                  refine lv_aload_n hx hb dL_law_652 rfl (lv_at hl 0 rfl) ?_
                                  refine lv_iload_n hx hb dL_law_653 rfl (lv_at hl 3 rfl) ?_
                                  refine lv_iconst (v := 2) hx hb dL_law_654 (by decide) ?_
                                  refine lv_iadd (x := x3) (y := 2) hx hb dL_law_655 ?_
                                  obtain ⟨v142, ev142, h⟩ := gb_s h
                                  obtain ⟨hin, ev142⟩ := g_sc_s ev142
                                  refine va_sld hx hb hX hbl hbA hI.2.1 hin dL_law_656 ?_
                                  refine g_topi ev142 ?_
                                  refine lv_aload_n hx hb dL_law_657 rfl (lv_at hl 0 rfl) ?_
                                  refine lv_iload_n hx hb dL_law_658 rfl (lv_at hl 3 rfl) ?_
                                  refine lv_iconst (v := 3) hx hb dL_law_659 (by decide) ?_
                                  refine lv_iadd (x := x3) (y := 3) hx hb dL_law_660 ?_
                                  obtain ⟨v143, ev143, h⟩ := gb_s h
                                  obtain ⟨hin, ev143⟩ := g_sc_s ev143
                                  refine va_sld hx hb hX hbl hbA hI.2.1 hin dL_law_661 ?_
                                  refine g_topi ev143 ?_
                                  refine lv_aload_n hx hb dL_law_662 rfl (lv_at hl 0 rfl) ?_
                                  refine lv_iload_n hx hb dL_law_663 rfl (lv_at hl 3 rfl) ?_
                                  refine lv_iconst (v := 4) hx hb dL_law_664 (by decide) ?_
                                  refine lv_iadd (x := x3) (y := 4) hx hb dL_law_665 ?_
                                  obtain ⟨v144, ev144, h⟩ := gb_s h
                                  obtain ⟨hin, ev144⟩ := g_sc_s ev144
                                  refine va_sld hx hb hX hbl hbA hI.2.1 hin dL_law_666 ?_
                                  refine g_topi ev144 ?_
                                  refine lv_aload_n hx hb dL_law_667 rfl (lv_at hl 0 rfl) ?_
                                  refine lv_iload_n hx hb dL_law_668 rfl (lv_at hl 3 rfl) ?_
                                  refine lv_iconst (v := 5) hx hb dL_law_669 (by decide) ?_
                                  refine lv_iadd (x := x3) (y := 5) hx hb dL_law_670 ?_
                                  obtain ⟨v145, ev145, h⟩ := gb_s h
                                  obtain ⟨hin, ev145⟩ := g_sc_s ev145
                                  refine va_sld hx hb hX hbl hbA hI.2.1 hin dL_law_671 ?_
                                  refine g_topi ev145 ?_
                                  obtain ⟨cO, h⟩ := gck_s h
                                  obtain ⟨r146, G147, er146, h⟩ := gb2_s h
                                  refine g_callV X hI (q := (RX5, TX5, 9)) (b := x1) (av := [.int v141, .int v142, .int v143, .int v144, .int v145]) cO rfl (c_X5_copy er146) gm_X5_copy tw_3_11 tw_3_12 tw_3_13 ⟨by decide, by decide⟩ hl.1 (rest := []) rfl (Nat.le_of_ble_eq_true rfl) dL_law_672 ⟨by show cl + 0 ≤ 600000; omega, by show sl + 0 ≤ 7302250; omega⟩ (st1 := [.int r146]) rfl (cells' := cl) (slots' := sl) rfl rfl (fun H locs hI => ?_)
                                  refine lv_aload_n hx hb dL_law_675 rfl (lv_at hl 2 rfl) ?_
                                  refine lv_aload_n hx hb dL_law_676 rfl (lv_at hl 0 rfl) ?_
                                  refine lv_iload_n hx hb dL_law_677 rfl (lv_at hl 3 rfl) ?_
                                  refine lv_iconst (v := 1) hx hb dL_law_678 (by decide) ?_
                                  refine lv_iadd (x := x3) (y := 1) hx hb dL_law_679 ?_
                                  obtain ⟨v148, ev148, h⟩ := gb_s h
                                  obtain ⟨hin, ev148⟩ := g_sc_s ev148
                                  refine va_sld hx hb hX hbl hbA hI.2.1 hin dL_law_680 ?_
                                  refine g_topi ev148 ?_
                                  refine lv_aload_n hx hb dL_law_681 rfl (lv_at hl 0 rfl) ?_
                                  refine lv_iload_n hx hb dL_law_682 rfl (lv_at hl 3 rfl) ?_
                                  refine lv_iconst (v := 2) hx hb dL_law_683 (by decide) ?_
                                  refine lv_iadd (x := x3) (y := 2) hx hb dL_law_684 ?_
                                  obtain ⟨v149, ev149, h⟩ := gb_s h
                                  obtain ⟨hin, ev149⟩ := g_sc_s ev149
                                  refine va_sld hx hb hX hbl hbA hI.2.1 hin dL_law_685 ?_
                                  refine g_topi ev149 ?_
                                  refine lv_aload_n hx hb dL_law_686 rfl (lv_at hl 0 rfl) ?_
                                  refine lv_iload_n hx hb dL_law_687 rfl (lv_at hl 3 rfl) ?_
                                  refine lv_iconst (v := 3) hx hb dL_law_688 (by decide) ?_
                                  refine lv_iadd (x := x3) (y := 3) hx hb dL_law_689 ?_
                                  obtain ⟨v150, ev150, h⟩ := gb_s h
                                  obtain ⟨hin, ev150⟩ := g_sc_s ev150
                                  refine va_sld hx hb hX hbl hbA hI.2.1 hin dL_law_690 ?_
                                  refine g_topi ev150 ?_
                                  refine lv_aload_n hx hb dL_law_691 rfl (lv_at hl 0 rfl) ?_
                                  refine lv_iload_n hx hb dL_law_692 rfl (lv_at hl 3 rfl) ?_
                                  refine lv_iconst (v := 4) hx hb dL_law_693 (by decide) ?_
                                  refine lv_iadd (x := x3) (y := 4) hx hb dL_law_694 ?_
                                  obtain ⟨v151, ev151, h⟩ := gb_s h
                                  obtain ⟨hin, ev151⟩ := g_sc_s ev151
                                  refine va_sld hx hb hX hbl hbA hI.2.1 hin dL_law_695 ?_
                                  refine g_topi ev151 ?_
                                  refine lv_aload_n hx hb dL_law_696 rfl (lv_at hl 0 rfl) ?_
                                  refine lv_iload_n hx hb dL_law_697 rfl (lv_at hl 3 rfl) ?_
                                  refine lv_iconst (v := 5) hx hb dL_law_698 (by decide) ?_
                                  refine lv_iadd (x := x3) (y := 5) hx hb dL_law_699 ?_
                                  obtain ⟨v152, ev152, h⟩ := gb_s h
                                  obtain ⟨hin, ev152⟩ := g_sc_s ev152
                                  refine va_sld hx hb hX hbl hbA hI.2.1 hin dL_law_700 ?_
                                  refine g_topi ev152 ?_
                                  obtain ⟨cO, h⟩ := gck_s h
                                  obtain ⟨r153, G154, er153, h⟩ := gb2_s h
                                  refine g_callV X hI (q := (RX6, TX6, 17)) (b := x2) (av := [.int v148, .int v149, .int v150, .int v151, .int v152]) cO rfl (c_X6_copy er153) gm_X6_copy tw_4_80 tw_4_81 tw_4_82 ⟨by decide, by decide⟩ hl.1 (rest := [.int r146]) rfl (Nat.le_of_ble_eq_true rfl) dL_law_701 ⟨by show cl + 0 ≤ 600000; omega, by show sl + 0 ≤ 7302250; omega⟩ (st1 := [.int r153, .int r146]) rfl (cells' := cl) (slots' := sl) rfl rfl (fun H locs hI => ?_)
                                  refine lv_icmp_eq (tgt := 778) hx hb dL_law_704 (by decide) (fun c => ?_) (fun c => ?_)
                                  · have h := g_t _ c h
                                    obtain ⟨v155, ev155, h⟩ := gl_s h
                                    refine lv_iinc (v := v155) (lv' := [(3, .int v155), (0, .ref b), (1, .ref x1), (2, .ref x2)]) hx hb dL_law_778 hl (k := 3) rfl (by rw [← ev155]; rfl) (by decide) rfl (fun ls hl => ?_)
                                    refine lv_goto (tgt := 18) hx hb dL_law_781 (by decide) ?_
                                    refine W.widen (k := cl + 4) (n := sl + 249) (by omega) (by omega) ?_
                                    exact ih (by omega) (by omega) hI h (lv_sub hl [1, 2, 3, 0] rfl)
                                  · have h := g_f _ c h
                                    refine lv_iconst (v := 0) hx hb dL_law_707 (by decide) ?_
                                    exact absurd (Option.some.inj h) (by decide)
                                · have h := g_f _ c13 h
                                  by_cases c14 : (v1 &&& 31) = 14
                                  · have h := g_t _ c14 h
                                    refine lv_tableIn (off := 676) (tgt := 709) hx hb dL_law_33 (by rw [c14]; decide) (by rw [c14]; decide) (by rw [c14]; rfl) (by decide) ?_
                                    refine lv_aload_n hx hb dL_law_709 rfl (lv_at hl 1 rfl) ?_
                                    refine lv_aload_n hx hb dL_law_710 rfl (lv_at hl 0 rfl) ?_
                                    refine lv_iload_n hx hb dL_law_711 rfl (lv_at hl 3 rfl) ?_
                                    refine lv_iconst (v := 1) hx hb dL_law_712 (by decide) ?_
                                    refine lv_iadd (x := x3) (y := 1) hx hb dL_law_713 ?_
                                    obtain ⟨v156, ev156, h⟩ := gb_s h
                                    obtain ⟨hin, ev156⟩ := g_sc_s ev156
                                    refine va_sld hx hb hX hbl hbA hI.2.1 hin dL_law_714 ?_
                                    refine g_topi ev156 ?_
                                    refine lv_aload_n hx hb dL_law_715 rfl (lv_at hl 0 rfl) ?_
                                    refine lv_iload_n hx hb dL_law_716 rfl (lv_at hl 3 rfl) ?_
                                    refine lv_iconst (v := 2) hx hb dL_law_717 (by decide) ?_
                                    refine lv_iadd (x := x3) (y := 2) hx hb dL_law_718 ?_
                                    obtain ⟨v157, ev157, h⟩ := gb_s h
                                    obtain ⟨hin, ev157⟩ := g_sc_s ev157
                                    refine va_sld hx hb hX hbl hbA hI.2.1 hin dL_law_719 ?_
                                    refine g_topi ev157 ?_
                                    obtain ⟨cO, h⟩ := gck_s h
                                    obtain ⟨r158, G159, er158, h⟩ := gb2_s h
                                    refine g_callV X hI (q := (RX5, TX5, 9)) (b := x1) (av := [.int v156, .int v157]) cO rfl (c_X5_same er158) gm_X5_same tw_3_15 tw_3_16 tw_3_17 ⟨by decide, by decide⟩ hl.1 (rest := []) rfl (Nat.le_of_ble_eq_true rfl) dL_law_720 ⟨by show cl + 0 ≤ 600000; omega, by show sl + 0 ≤ 7302250; omega⟩ (st1 := [.int r158]) rfl (cells' := cl) (slots' := sl) rfl rfl (fun H locs hI => ?_)
                                    refine lv_aload_n hx hb dL_law_723 rfl (lv_at hl 2 rfl) ?_
                                    refine lv_aload_n hx hb dL_law_724 rfl (lv_at hl 0 rfl) ?_
                                    refine lv_iload_n hx hb dL_law_725 rfl (lv_at hl 3 rfl) ?_
                                    refine lv_iconst (v := 1) hx hb dL_law_726 (by decide) ?_
                                    refine lv_iadd (x := x3) (y := 1) hx hb dL_law_727 ?_
                                    obtain ⟨v160, ev160, h⟩ := gb_s h
                                    obtain ⟨hin, ev160⟩ := g_sc_s ev160
                                    refine va_sld hx hb hX hbl hbA hI.2.1 hin dL_law_728 ?_
                                    refine g_topi ev160 ?_
                                    refine lv_aload_n hx hb dL_law_729 rfl (lv_at hl 0 rfl) ?_
                                    refine lv_iload_n hx hb dL_law_730 rfl (lv_at hl 3 rfl) ?_
                                    refine lv_iconst (v := 2) hx hb dL_law_731 (by decide) ?_
                                    refine lv_iadd (x := x3) (y := 2) hx hb dL_law_732 ?_
                                    obtain ⟨v161, ev161, h⟩ := gb_s h
                                    obtain ⟨hin, ev161⟩ := g_sc_s ev161
                                    refine va_sld hx hb hX hbl hbA hI.2.1 hin dL_law_733 ?_
                                    refine g_topi ev161 ?_
                                    obtain ⟨cO, h⟩ := gck_s h
                                    obtain ⟨r162, G163, er162, h⟩ := gb2_s h
                                    refine g_callV X hI (q := (RX6, TX6, 17)) (b := x2) (av := [.int v160, .int v161]) cO rfl (c_X6_same er162) gm_X6_same tw_4_84 tw_4_85 tw_4_86 ⟨by decide, by decide⟩ hl.1 (rest := [.int r158]) rfl (Nat.le_of_ble_eq_true rfl) dL_law_734 ⟨by show cl + 0 ≤ 600000; omega, by show sl + 0 ≤ 7302250; omega⟩ (st1 := [.int r162, .int r158]) rfl (cells' := cl) (slots' := sl) rfl rfl (fun H locs hI => ?_)
                                    refine lv_icmp_eq (tgt := 778) hx hb dL_law_737 (by decide) (fun c => ?_) (fun c => ?_)
                                    · have h := g_t _ c h
                                      obtain ⟨v164, ev164, h⟩ := gl_s h
                                      refine lv_iinc (v := v164) (lv' := [(3, .int v164), (0, .ref b), (1, .ref x1), (2, .ref x2)]) hx hb dL_law_778 hl (k := 3) rfl (by rw [← ev164]; rfl) (by decide) rfl (fun ls hl => ?_)
                                      refine lv_goto (tgt := 18) hx hb dL_law_781 (by decide) ?_
                                      refine W.widen (k := cl + 4) (n := sl + 249) (by omega) (by omega) ?_
                                      exact ih (by omega) (by omega) hI h (lv_sub hl [1, 2, 3, 0] rfl)
                                    · have h := g_f _ c h
                                      refine lv_iconst (v := 0) hx hb dL_law_740 (by decide) ?_
                                      exact absurd (Option.some.inj h) (by decide)
                                  · have h := g_f _ c14 h
                                    by_cases c15 : (v1 &&& 31) = 15
                                    · have h := g_t _ c15 h
                                      refine lv_tableIn (off := 709) (tgt := 742) hx hb dL_law_33 (by rw [c15]; decide) (by rw [c15]; decide) (by rw [c15]; rfl) (by decide) ?_
                                      refine lv_aload_n hx hb dL_law_742 rfl (lv_at hl 1 rfl) ?_
                                      obtain ⟨cO, h⟩ := gck_s h
                                      obtain ⟨r165, er165, h⟩ := gb_s h
                                      refine g_callV X hI (q := (RX5, TX5, 9)) (b := x1) (av := []) cO rfl (c_X5_place er165) gm_X5_place tw_3_24 tw_3_25 tw_3_26 ⟨by decide, by decide⟩ hl.1 (rest := []) rfl (Nat.le_of_ble_eq_true rfl) dL_law_743 ⟨by show cl + 0 ≤ 600000; omega, by show sl + 0 ≤ 7302250; omega⟩ (st1 := [.int r165]) rfl (cells' := cl) (slots' := sl) rfl rfl (fun H locs hI => ?_)
                                      refine lv_aload_n hx hb dL_law_746 rfl (lv_at hl 2 rfl) ?_
                                      obtain ⟨cO, h⟩ := gck_s h
                                      obtain ⟨r166, er166, h⟩ := gb_s h
                                      refine g_callV X hI (q := (RX6, TX6, 17)) (b := x2) (av := []) cO rfl (c_X6_place er166) gm_X6_place tw_4_88 tw_4_89 tw_4_90 ⟨by decide, by decide⟩ hl.1 (rest := [.int r165]) rfl (Nat.le_of_ble_eq_true rfl) dL_law_747 ⟨by show cl + 0 ≤ 600000; omega, by show sl + 0 ≤ 7302250; omega⟩ (st1 := [.int r166, .int r165]) rfl (cells' := cl) (slots' := sl) rfl rfl (fun H locs hI => ?_)
                                      refine lv_icmp_eq (tgt := 778) hx hb dL_law_750 (by decide) (fun c => ?_) (fun c => ?_)
                                      · have h := g_t _ c h
                                        obtain ⟨v167, ev167, h⟩ := gl_s h
                                        refine lv_iinc (v := v167) (lv' := [(3, .int v167), (0, .ref b), (1, .ref x1), (2, .ref x2)]) hx hb dL_law_778 hl (k := 3) rfl (by rw [← ev167]; rfl) (by decide) rfl (fun ls hl => ?_)
                                        refine lv_goto (tgt := 18) hx hb dL_law_781 (by decide) ?_
                                        refine W.widen (k := cl + 4) (n := sl + 249) (by omega) (by omega) ?_
                                        exact ih (by omega) (by omega) hI h (lv_sub hl [1, 2, 3, 0] rfl)
                                      · have h := g_f _ c h
                                        refine lv_iconst (v := 0) hx hb dL_law_753 (by decide) ?_
                                        exact absurd (Option.some.inj h) (by decide)
                                    · have h := g_f _ c15 h
                                      by_cases c16 : (v1 &&& 31) = 16
                                      · have h := g_t _ c16 h
                                        refine lv_tableIn (off := 722) (tgt := 755) hx hb dL_law_33 (by rw [c16]; decide) (by rw [c16]; decide) (by rw [c16]; rfl) (by decide) ?_
                                        refine lv_aload_n hx hb dL_law_755 rfl (lv_at hl 1 rfl) ?_
                                        refine lv_aload_n hx hb dL_law_756 rfl (lv_at hl 0 rfl) ?_
                                        refine lv_iload_n hx hb dL_law_757 rfl (lv_at hl 3 rfl) ?_
                                        refine lv_iconst (v := 1) hx hb dL_law_758 (by decide) ?_
                                        refine lv_iadd (x := x3) (y := 1) hx hb dL_law_759 ?_
                                        obtain ⟨v168, ev168, h⟩ := gb_s h
                                        obtain ⟨hin, ev168⟩ := g_sc_s ev168
                                        refine va_sld hx hb hX hbl hbA hI.2.1 hin dL_law_760 ?_
                                        refine g_topi ev168 ?_
                                        obtain ⟨cO, h⟩ := gck_s h
                                        obtain ⟨r169, er169, h⟩ := gb_s h
                                        refine g_callV X hI (q := (RX5, TX5, 9)) (b := x1) (av := [.int v168]) cO rfl (c_X5_count er169) gm_X5_count tw_3_28 tw_3_29 tw_3_30 ⟨by decide, by decide⟩ hl.1 (rest := []) rfl (Nat.le_of_ble_eq_true rfl) dL_law_761 ⟨by show cl + 0 ≤ 600000; omega, by show sl + 0 ≤ 7302250; omega⟩ (st1 := [.int r169]) rfl (cells' := cl) (slots' := sl) rfl rfl (fun H locs hI => ?_)
                                        refine lv_aload_n hx hb dL_law_764 rfl (lv_at hl 2 rfl) ?_
                                        refine lv_aload_n hx hb dL_law_765 rfl (lv_at hl 0 rfl) ?_
                                        refine lv_iload_n hx hb dL_law_766 rfl (lv_at hl 3 rfl) ?_
                                        refine lv_iconst (v := 1) hx hb dL_law_767 (by decide) ?_
                                        refine lv_iadd (x := x3) (y := 1) hx hb dL_law_768 ?_
                                        obtain ⟨v170, ev170, h⟩ := gb_s h
                                        obtain ⟨hin, ev170⟩ := g_sc_s ev170
                                        refine va_sld hx hb hX hbl hbA hI.2.1 hin dL_law_769 ?_
                                        refine g_topi ev170 ?_
                                        obtain ⟨cO, h⟩ := gck_s h
                                        obtain ⟨r171, er171, h⟩ := gb_s h
                                        refine g_callV X hI (q := (RX6, TX6, 17)) (b := x2) (av := [.int v170]) cO rfl (c_X6_count er171) gm_X6_count tw_4_92 tw_4_93 tw_4_94 ⟨by decide, by decide⟩ hl.1 (rest := [.int r169]) rfl (Nat.le_of_ble_eq_true rfl) dL_law_770 ⟨by show cl + 0 ≤ 600000; omega, by show sl + 0 ≤ 7302250; omega⟩ (st1 := [.int r171, .int r169]) rfl (cells' := cl) (slots' := sl) rfl rfl (fun H locs hI => ?_)
                                        refine lv_icmp_eq (tgt := 778) hx hb dL_law_773 (by decide) (fun c => ?_) (fun c => ?_)
                                        · have h := g_t _ c h
                                          obtain ⟨v172, ev172, h⟩ := gl_s h
                                          refine lv_iinc (v := v172) (lv' := [(3, .int v172), (0, .ref b), (1, .ref x1), (2, .ref x2)]) hx hb dL_law_778 hl (k := 3) rfl (by rw [← ev172]; rfl) (by decide) rfl (fun ls hl => ?_)
                                          refine lv_goto (tgt := 18) hx hb dL_law_781 (by decide) ?_
                                          refine W.widen (k := cl + 4) (n := sl + 249) (by omega) (by omega) ?_
                                          exact ih (by omega) (by omega) hI h (lv_sub hl [1, 2, 3, 0] rfl)
                                        · have h := g_f _ c h
                                          refine lv_iconst (v := 0) hx hb dL_law_776 (by decide) ?_
                                          exact absurd (Option.some.inj h) (by decide)
                                      · have h := g_f _ c16 h
                                        refine lv_tableOut (tgt := 778) hx hb dL_law_33 (by have q0 := lv_neT (a := 0) c0 (by decide); have q1 := lv_neT (a := 1) c1 (by decide); have q2 := lv_neT (a := 2) c2 (by decide); have q3 := lv_neT (a := 3) c3 (by decide); have q4 := lv_neT (a := 4) c4 (by decide); have q5 := lv_neT (a := 5) c5 (by decide); have q6 := lv_neT (a := 6) c6 (by decide); have q7 := lv_neT (a := 7) c7 (by decide); have q8 := lv_neT (a := 8) c8 (by decide); have q9 := lv_neT (a := 9) c9 (by decide); have q10 := lv_neT (a := 10) c10 (by decide); have q11 := lv_neT (a := 11) c11 (by decide); have q12 := lv_neT (a := 12) c12 (by decide); have q13 := lv_neT (a := 13) c13 (by decide); have q14 := lv_neT (a := 14) c14 (by decide); have q15 := lv_neT (a := 15) c15 (by decide); have q16 := lv_neT (a := 16) c16 (by decide); omega) (by decide) ?_
                                        obtain ⟨v173, ev173, h⟩ := gl_s h
                                        refine lv_iinc (v := v173) (lv' := [(3, .int v173), (0, .ref b), (1, .ref x1), (2, .ref x2)]) hx hb dL_law_778 hl (k := 3) rfl (by rw [← ev173]; rfl) (by decide) rfl (fun ls hl => ?_)
                                        refine lv_goto (tgt := 18) hx hb dL_law_781 (by decide) ?_
                                        refine W.widen (k := cl + 4) (n := sl + 249) (by omega) (by omega) ?_
                                        exact ih (by omega) (by omega) hI h (lv_sub hl [1, 2, 3, 0] rfl)
def f_L_law (xs : Nat → Int32) (L : Nat) (n : Nat) : Option Int32 :=
  gl (g_up (fun _ => none) n (.inl (4, [.null, .null, .null, .null, .int 0, .int 0, .int 0, .int 0, .int 0]))) fun G1 =>
  gb2 (f_X5_init G1 (n + 1) n) fun G2 n3 =>
  gl (g_up G2 n3 (.inl (5, [.int 0, .null, .null, .null, .null, .null, .null, .null, .int 0, .int 0, .int 0, .int 0, .null, .int 0, .int 0, .int 0, .int 0]))) fun G4 =>
  gb2 (f_X6_init G4 (n3 + 1) n3) fun G5 n6 =>
  f_L_law_18 xs L 600 G5 n6 n n3 0
set_option maxHeartbeats 40000000 in
set_option maxRecDepth 100000 in
theorem b_L_law_0 {p : Program} {l : Launch} {e : Env} {s : State} {m : MethodId} {below : List Frame} {meth : Method} {c : Code} {E : gE} {b L : Nat} {xs : Nat → Int32} (X : g_X E (fun _ => none) s.heap.size p s m #[Value.ref b] meth c cL_law 4 RL meth.name ret) (hX : va_X b L xs s s.heap) (hbl : b < s.heap.size) (hr : meth.sig.returnType = ret) (hlocks : meth.locks = false) {n : Nat} (hn : s.heap.size = n) (h : f_L_law xs L n = some 1) {ls : Array Slot} (hl : lv_has ls 4 [(0, .ref b)]) : W p l e room_1 s m #[Value.ref b] below meth c s.heap [] 0 0 (lw_Z below #[Value.ref b] s) (F0 m 0 ls []) := by
  have hx := X.1
  have hb := X.2.1
  have hbA : ¬ (g_A (fun _ => none) s.heap.size) b := fun q => q.elim (fun q => q rfl) (fun q => absurd hbl (Nat.not_lt.mpr q))
  have hI : g_I E (g_A (fun _ => none) s.heap.size) (fun _ => none) n s.heap s.heap [] := ⟨⟨hn, fun a c h => by cases h⟩, va_S.rf, fun q h => absurd rfl h⟩
  unfold f_L_law at h
  obtain ⟨G1, eG1, h⟩ := gl_s h
  refine g_new X hI (ci := 4) (fs := [.null, .null, .null, .null, .int 0, .int 0, .int 0, .int 0, .int 0]) (C := RX5) (T := TX5) (N := 9) rfl gu_X5 tyX5 tyX5_ok tw_1_10 tw_1_11 tw_1_1 (fun j hj => by rcases (show j = 0 ∨ j = 1 ∨ j = 2 ∨ j = 3 ∨ j = 4 ∨ j = 5 ∨ j = 6 ∨ j = 7 ∨ j = 8 by omega) with rfl | rfl | rfl | rfl | rfl | rfl | rfl | rfl | rfl <;> rfl) (by decide) (by decide) dL_law_0 (fun H hI => ?_)
  rw [eG1] at hI
  refine W.cs (cells' := 1) (slots' := 9) rfl rfl ?_
  refine lv_dup hx hb dL_law_3 rfl ?_
  obtain ⟨G2, n3, eG2, h⟩ := gb2_s h
  refine g_callI X hI (b := n) (av := []) (c_X5_init eG2) gm_X5_init tw_1_12 tw_1_13 rfl ⟨by decide, by decide⟩ hl.1 (rest := [.ref n]) rfl (Nat.le_of_ble_eq_true rfl) dL_law_4 ⟨by decide, by decide⟩ (st1 := [.ref n]) rfl (cells' := 9) (slots' := 285) rfl rfl (fun H locs hI => ?_)
  refine lv_astore_n (lv' := [(1, .ref n), (0, .ref b)]) hx hb dL_law_7 rfl hl (by decide) rfl (fun ls hl => ?_)
  obtain ⟨G4, eG4, h⟩ := gl_s h
  refine g_new X hI (ci := 5) (fs := [.int 0, .null, .null, .null, .null, .null, .null, .null, .int 0, .int 0, .int 0, .int 0, .null, .int 0, .int 0, .int 0, .int 0]) (C := RX6) (T := TX6) (N := 17) rfl gu_X6 tyX6 tyX6_ok tw_3_36 tw_3_37 tw_1_5 (fun j hj => by rcases (show j = 0 ∨ j = 1 ∨ j = 2 ∨ j = 3 ∨ j = 4 ∨ j = 5 ∨ j = 6 ∨ j = 7 ∨ j = 8 ∨ j = 9 ∨ j = 10 ∨ j = 11 ∨ j = 12 ∨ j = 13 ∨ j = 14 ∨ j = 15 ∨ j = 16 by omega) with rfl | rfl | rfl | rfl | rfl | rfl | rfl | rfl | rfl | rfl | rfl | rfl | rfl | rfl | rfl | rfl | rfl <;> rfl) (by decide) (by decide) dL_law_8 (fun H hI => ?_)
  rw [eG4] at hI
  refine W.cs (cells' := 10) (slots' := 302) rfl rfl ?_
  refine lv_dup hx hb dL_law_11 rfl ?_
  obtain ⟨G5, n6, eG5, h⟩ := gb2_s h
  refine g_callI X hI (b := n3) (av := []) (c_X6_init eG5) gm_X6_init tw_3_38 tw_3_39 rfl ⟨by decide, by decide⟩ hl.1 (rest := [.ref n3]) rfl (Nat.le_of_ble_eq_true rfl) dL_law_12 ⟨by decide, by decide⟩ (st1 := [.ref n3]) rfl (cells' := 18) (slots' := 4497) rfl rfl (fun H locs hI => ?_)
  refine lv_astore_n (lv' := [(2, .ref n3), (1, .ref n), (0, .ref b)]) hx hb dL_law_15 rfl hl (by decide) rfl (fun ls hl => ?_)
  refine lv_iconst (v := 0) hx hb dL_law_16 (by decide) ?_
  refine lv_istore_n (lv' := [(3, .int 0), (2, .ref n3), (1, .ref n), (0, .ref b)]) hx hb dL_law_17 rfl hl (by decide) rfl (fun ls hl => ?_)
  exact b_L_law_18 X hX hbl hr hlocks 600 (by omega) (by omega) hI h (lv_sub hl [3, 2, 1, 0] rfl)
