/-! Two reals: quotients cut, rests; all acts. -/
theorem over_val {a b : Int64} {k1 k2 : Nat} {n1 n2 : Int32} {u1 u2 : Nat} (hn1 : n1 = 0 ∨ n1 = 1) (hn2 : n2 = 0 ∨ n2 = 1) (w1 : RV a k1 n1 u1) (w2 : RV b k2 n2 u2) {l : Int32} (hl : l = 4 ∨ l = 5) :
    ∃ r k n u, f_X6_over a b l = some r ∧ RV r k n u ∧ (n = 0 ∨ n = 1) ∧ (l = 4 → k = 1 → F4 u) ∧
      ∀ {G : gG} {x : Nat} {c0 : gC}, G x = some c0 → isR c0 → ∃ c, f_X2_setValue G x (tz l (quoZ 23 127 k1 n1 u1 k2 n2 u2) (quoZ 52 1023 k1 n1 u1 k2 n2 u2)) l = some (g_up G x c) ∧ CV c k n u := by
  obtain ⟨⟨r, h1, h2, h3⟩, h4⟩ := over_ok hn1 hn2 w1 w2
  have h1 : f_X6_over a b 4 = some r := h1
  have h4 : f_X6_over a b 5 = some (fin5 (quoZ 52 1023 k1 n1 u1 k2 n2 u2)) := h4
  rcases hl with rfl | rfl
  · obtain ⟨k, n, u, hn, q1, q2, q3⟩ := h3.rv
    have e := q1.fb hn q3
    rw [h2] at e
    have e' : tz 4 (quoZ 23 127 k1 n1 u1 k2 n2 u2) (quoZ 52 1023 k1 n1 u1 k2 n2 u2) = fin4 (exZ 23 127 k n u) := Option.some.inj e
    refine ⟨r, k, n, u, h1, q1, hn, fun _ => q3, ?_⟩
    intro G x c0 g1 g2
    rw [e']
    exact q2.set hn g1 g2
  · obtain ⟨k, n, u, hn, q1⟩ := val5_of (quoZ_ok (k1 := k1) (k2 := k2) (n1 := n1) (n2 := n2) (u1 := u1) (u2 := u2)).v5
    refine ⟨_, k, n, u, h4, q1, hn, fun q => absurd q (by decide), ?_⟩
    intro G x c0 g1 g2
    exact q1.set hn g1 g2
section OR
variable {G : gG} {ar r0 r1 r2 : Nat} {c1 c2 : gC} {k1 k2 : Nat} {n1 n2 : Int32} {u1 u2 : Nat} {a b : Int64} {l : Int32}
theorem or45 {md : Nat} {op : Int32} (hop : (op = 4 ∧ md = 3) ∨ (op = 5 ∧ md = 0)) (hA : AR G ar r0 r1 r2) (h0 : G r0 = some c1) (h1 : G r1 = some c2) (v1 : CV c1 k1 n1 u1) (v2 : CV c2 k2 n2 u2) (w1 : RV a k1 n1 u1) (w2 : RV b k2 n2 u2) (hn1 : n1 = 0 ∨ n1 = 1) (hn2 : n2 = 0 ∨ n2 = 1) (hl : l = 4 ∨ l = 5) : RG G ar r0 r1 r2 l (orst G ar op l) (f_X6_reckoned op a b) := by
  obtain ⟨c, hc, hr⟩ := hA.2.2.2.1
  obtain ⟨c', f1, f2, f3⟩ := setQuotient_ok hc hr h0 h1 v1 v2
  obtain ⟨r, k, n, u, o1, o2, hn, o3, o4⟩ := over_val hn1 hn2 w1 w2 hl
  have hA' := hA.up2 f2
  have t1 := f3.tz (g_up_same G r2 c') hl
  obtain ⟨c3, s1, s2⟩ := o4 (g_up_same G r2 c') f2
  rw [g_up_up] at s1
  have hA3 := hA.up2 s2.real
  have hmd : md ≤ 3 := by omega
  obtain ⟨c4, p1, p2⟩ := rwhole_ok (g_up_same G r2 c3) hn s2 hmd
  rw [g_up_up] at p1
  have hA4 := hA.up2 p2.real
  obtain ⟨r', p3, p4⟩ := cut_ok hn o2 hmd
  refine RG_mk (G' := g_up G r2 c4) (exZ 23 127 (cutK md n k u) n (cutU md n k u)) (exZ 52 1023 (cutK md n k u) n (cutU md n k u)) hl (exZ_ok hn) (exZ_ok hn) hA4 (FRM.up2 _ _ _ _ _) ?_ ?_
  · have key : f_X0_ofReals_158 G ar op l = some (tz l (exZ 23 127 (cutK md n k u) n (cutU md n k u)) (exZ 52 1023 (cutK md n k u) n (cutU md n k u)), g_up G r2 c4) := by
      have e204 : f_X0_ofReals_204 (g_up G r2 c3) ar l (nI (md + 3)) r2 = some (tz l (exZ 23 127 (cutK md n k u) n (cutU md n k u)) (exZ 52 1023 (cutK md n k u) n (cutU md n k u)), g_up G r2 c4) := by
        unfold f_X0_ofReals_204
        rw [gck_true (isR_o (g_up_same _ _ _) s2.real), p1, gb_some]
        exact of297 hA4 (g_up_same _ _ _) p2.real p2.tv hl
      unfold f_X0_ofReals_158
      rw [hA.f2, gb_some, hA.f0, gb_some, hA.f1, gb_some, gck_true (isR_o hc hr), f1, gb_some, hA'.f2, gb_some, gb_some, gck_true (isR_o (g_up_same _ _ _) f2), t1, gb_some, gck_true (isR_o (g_up_same _ _ _) f2), s1, gb_some, hA3.f2, gb_some]
      rcases hop with ⟨rfl, rfl⟩ | ⟨rfl, rfl⟩
      · rw [if_pos rfl]
        exact e204
      · rw [if_neg (by decide)]
        exact e204
    rw [← key]
    unfold orst
    rcases hop with ⟨rfl, rfl⟩ | ⟨rfl, rfl⟩
    · rw [if_neg (by decide), if_neg (by decide), if_neg (by decide), if_neg (by decide), if_pos rfl]
    · rw [if_neg (by decide), if_neg (by decide), if_neg (by decide), if_neg (by decide), if_neg (by decide), if_pos rfl]
  · refine p4.rf hn ?_ ?_
    · intro e4 hk
      unfold cutK at hk
      unfold cutU
      by_cases hk1 : k = 1
      · rw [if_pos hk1] at hk ⊢
        refine F4_cut (o3 e4 hk1) (fun z => ?_)
        rw [if_pos z] at hk
        omega
      · rw [if_neg hk1] at hk
        exact absurd hk hk1
    · intro m hm
      rw [hm]
      rcases hop with ⟨rfl, rfl⟩ | ⟨rfl, rfl⟩
      · rw [rec4]
        show (gb (f_X6_over a b l) fun r => f_X6_cut r 3) = some r'
        rw [o1, gb_some]
        exact p3
      · rw [rec5]
        show (gb (f_X6_over a b l) fun r => f_X6_cut r 0) = some r'
        rw [o1, gb_some]
        exact p3
theorem rest_F4 (f1 : l = 4 → k1 = 1 → F4 u1) (f2 : l = 4 → k2 = 1 → F4 u2) (hl : l = 4) (hk1 : k1 ≤ 3) (hk2 : k2 ≤ 3) (h : restK k1 u1 k2 u2 = 1) : F4 (restU k1 u1 k2 u2) := by
  unfold restK at h
  unfold restU
  by_cases c1 : k1 = 3 ∨ k2 = 3 ∨ k1 = 2 ∨ k2 = 0
  · rw [if_pos c1] at h; omega
  · rw [if_neg c1] at h
    by_cases c2 : k1 = 0 ∨ k2 = 2
    · rw [if_pos c2] at h
      rw [if_neg (by omega)]
      exact f1 hl h
    · rw [if_neg c2] at h
      rw [if_pos (by omega)]
      refine F4_mod (f1 hl (by omega)) (f2 hl (by omega)) (fun z => ?_)
      rw [if_pos z] at h
      omega
theorem RV.k3 {a : Int64} {k : Nat} {n : Int32} {u : Nat} (h : RV a k n u) : k ≤ 3 := by
  rcases h with ⟨rfl, -⟩ | ⟨rfl, -⟩ | ⟨rfl, -⟩ | ⟨rfl, -⟩ <;> omega
theorem or6 (hA : AR G ar r0 r1 r2) (h0 : G r0 = some c1) (h1 : G r1 = some c2) (v1 : CV c1 k1 n1 u1) (v2 : CV c2 k2 n2 u2) (w1 : RV a k1 n1 u1) (w2 : RV b k2 n2 u2) (hn1 : n1 = 0 ∨ n1 = 1) (hn2 : n2 = 0 ∨ n2 = 1) (g1 : l = 4 → k1 = 1 → F4 u1) (g2 : l = 4 → k2 = 1 → F4 u2) (hl : l = 4 ∨ l = 5) : RG G ar r0 r1 r2 l (orst G ar 6 l) (f_X6_reckoned 6 a b) := by
  obtain ⟨c, hc, hr⟩ := hA.2.2.2.1
  have d := hA.2.2.2.2
  obtain ⟨c', f1, f2⟩ := setRest_ok hc hr h0 h1 d.2.1 hn1 v1 v2 w1.dv w2.dv
  obtain ⟨r, p1, p2⟩ := left_ok hn1 hn2 w1 w2
  refine RG_mk (G' := g_up G r2 c') (exZ 23 127 (restK k1 u1 k2 u2) n1 (restU k1 u1 k2 u2)) (exZ 52 1023 (restK k1 u1 k2 u2) n1 (restU k1 u1 k2 u2)) hl (exZ_ok hn1) (exZ_ok hn1) (hA.up2 f2.real) (FRM.up2 _ _ _ _ _) ?_ ?_
  · unfold orst
    rw [if_neg (by decide), if_neg (by decide), if_neg (by decide), if_neg (by decide), if_neg (by decide), if_neg (by decide), if_pos rfl, hA.f2, gb_some, hA.f0, gb_some, hA.f1, gb_some, gck_true (isR_o hc hr), f1, gb_some]
    exact of297 (hA.up2 f2.real) (g_up_same _ _ _) f2.real f2.tv hl
  · rw [rec6]
    exact p2.rf hn1 (fun e4 hk => rest_F4 g1 g2 e4 w1.k3 w2.k3 hk) (fun _ _ => p1)
theorem rec7 (a b : Int64) : f_X6_reckoned 7 a b = fun l => gb (f_X6_left a b) fun r =>
    if f_X6_isNan r = 0 then if f_X6_isZero r = 0 then if (0 : Int64) ≤ r then f_X6_reckoned_208 b l r 0 else f_X6_reckoned_208 b l r 1 else some r else some r := by
  funext l
  unfold f_X6_reckoned
  rw [if_neg (by decide), if_neg (by decide), if_neg (by decide), if_neg (by decide), if_neg (by decide), if_neg (by decide), if_neg (by decide), if_pos rfl]
theorem RV.nn {a : Int64} {k : Nat} {n : Int32} {u : Nat} (hn : n = 0 ∨ n = 1) (h : RV a k n u) : f_X6_isNan a = if k = 3 then 1 else 0 := by
  rcases h.num with ⟨rfl, rfl⟩ | ⟨D, w⟩
  · rw [isNan_nan, if_pos rfl]
  · have := w.2.2.1
    rw [w.nan hn, if_neg (by omega)]
theorem RV.sgn {a : Int64} {k : Nat} {n : Int32} {u : Nat} (hn : n = 0 ∨ n = 1) (h : RV a k n u) (h3 : ¬ k = 3) : (0 : Int64) ≤ a ↔ n = 0 := by
  rcases h.num with ⟨rfl, rfl⟩ | ⟨D, w⟩
  · exact absurd rfl h3
  · exact w.sg hn
theorem rec219 {b r : Int64} {k2 : Nat} {n2 nr : Int32} {u2 : Nat} (hn2 : n2 = 0 ∨ n2 = 1) (w2 : RV b k2 n2 u2) (h3 : ¬ k2 = 3) (l : Int32) : f_X6_reckoned_208 b l r nr = if nr = n2 then some r else f_X6_plus r b l := by
  unfold f_X6_reckoned_208 f_X6_reckoned_219
  have S := w2.sgn hn2 h3
  have e : ∀ s : Int32, (if nr = s then some r else gb (f_X6_plus r b l) fun r1 => some r1) = if nr = s then some r else f_X6_plus r b l := by
    intro s
    split
    · rfl
    · cases f_X6_plus r b l <;> rfl
  rcases hn2 with rfl | rfl
  · rw [ifp S rfl]; exact e 0
  · rw [ifn S (by decide)]; exact e 1
theorem rest_k (k1 u1 k2 u2 : Nat) (h1 : k1 ≤ 3) : (restK k1 u1 k2 u2 = 0 ∨ restK k1 u1 k2 u2 = 1 ∨ restK k1 u1 k2 u2 = 3) ∧ (restK k1 u1 k2 u2 = 1 → ¬ k2 = 3) := by
  unfold restK
  by_cases c1 : k1 = 3 ∨ k2 = 3 ∨ k1 = 2 ∨ k2 = 0
  · rw [if_pos c1]; omega
  · rw [if_neg c1]
    by_cases c2 : k1 = 0 ∨ k2 = 2
    · rw [if_pos c2]; omega
    · rw [if_neg c2]
      split <;> omega
theorem or7 (hA : AR G ar r0 r1 r2) (h0 : G r0 = some c1) (h1 : G r1 = some c2) (v1 : CV c1 k1 n1 u1) (v2 : CV c2 k2 n2 u2) (w1 : RV a k1 n1 u1) (w2 : RV b k2 n2 u2) (hn1 : n1 = 0 ∨ n1 = 1) (hn2 : n2 = 0 ∨ n2 = 1) (g1 : l = 4 → k1 = 1 → F4 u1) (g2 : l = 4 → k2 = 1 → F4 u2) (hl : l = 4 ∨ l = 5) : RG G ar r0 r1 r2 l (orst G ar 7 l) (f_X6_reckoned 7 a b) := by
  obtain ⟨c, hc, hr⟩ := hA.2.2.2.1
  have d := hA.2.2.2.2
  obtain ⟨c', f1, f2⟩ := setRest_ok hc hr h0 h1 d.2.1 hn1 v1 v2 w1.dv w2.dv
  obtain ⟨r, p1, p2⟩ := left_ok hn1 hn2 w1 w2
  obtain ⟨kr, k23⟩ := rest_k k1 u1 k2 u2 w1.k3
  have hF := fun (e4 : l = 4) hk => rest_F4 g1 g2 e4 w1.k3 w2.k3 hk
  generalize restK k1 u1 k2 u2 = K at *
  generalize restU k1 u1 k2 u2 = U at *
  have hA' := hA.up2 f2.real
  obtain ⟨N', s', x', hc', -⟩ := f2.kd
  have K' : g_fI (g_up G r2 c') r2 1 0 = some (nI K) := rc_k (by rw [g_up_same, hc'])
  have cK : nI K = 1 ↔ K = 1 := nI_eq (b := 1) (by omega) (by omega)
  have hsame : f_X0_ofReals_297 (g_up G r2 c') ar l = some (tz l (exZ 23 127 K n1 U) (exZ 52 1023 K n1 U), g_up G r2 c') := of297 hA' (g_up_same _ _ _) f2.real f2.tv hl
  have start : orst G ar 7 l = (if nI K = 1 then
      (gb (g_fA (g_up G r2 c') ar 0 2) fun g30 => gb (g_fI (g_up G r2 c') g30 1 1) fun v31 => gb (g_fA (g_up G r2 c') ar 0 1) fun g32 => gb (g_fI (g_up G r2 c') g32 1 1) fun v33 =>
        if v31 = v33 then f_X0_ofReals_297 (g_up G r2 c') ar l else
        gb (g_fA (g_up G r2 c') ar 0 0) fun g34 => gb (g_fA (g_up G r2 c') ar 0 2) fun g35 => gck (g_isO (g_up G r2 c') g34 1) <| gb (f_X2_setAs (g_up G r2 c') g34 g35) fun G36 =>
        gb (g_fA G36 ar 0 2) fun g37 => gb (g_fA G36 ar 0 0) fun g38 => gb (g_fA G36 ar 0 1) fun g39 => gck (g_isO G36 g37 1) <| gb (f_X2_setSum G36 g37 g38 g39) fun G40 => f_X0_ofReals_297 G40 ar l)
      else f_X0_ofReals_297 (g_up G r2 c') ar l) := by
    unfold orst
    rw [if_neg (by decide), if_neg (by decide), if_neg (by decide), if_neg (by decide), if_neg (by decide), if_neg (by decide), if_neg (by decide), hA.f2, gb_some, hA.f0, gb_some, hA.f1, gb_some, gck_true (isR_o hc hr), f1, gb_some, hA'.f2, gb_some, K', gb_some]
  rw [start]
  by_cases hK : K = 1
  · rw [ifp cK hK, hA'.f2, gb_some]
    subst hK
    obtain ⟨sS, sX, hs⟩ := f2.sg (by omega)
    obtain ⟨tS, tX, ht⟩ := v2.sg (k23 rfl)
    have hc'2 : (g_up G r2 c') r2 = some (rc (nI 1) n1 sS sX) := by rw [g_up_same, hs]
    have hr1 : (g_up G r2 c') r1 = some c2 := by rw [g_up_ne d.2.2.1]; exact h1
    rw [rc_n hc'2, gb_some, hA'.f1, gb_some, rc_n (ht ▸ hr1), gb_some]
    have N := p2.nn hn1
    have Z := p2.zr hn1
    have S := p2.sgn hn1 (by omega)
    rw [if_neg (by omega)] at N Z
    have hrec : f_X6_reckoned 7 a b = fun l => if n1 = n2 then some r else f_X6_plus r b l := by
      rw [rec7]
      funext l
      rw [p1, gb_some, N, if_pos rfl, Z, if_pos rfl, rec219 hn2 w2 (k23 rfl), rec219 hn2 w2 (k23 rfl)]
      rcases hn1 with rfl | rfl
      · rw [ifp S rfl]
      · rw [ifn S (by decide)]
    rw [hrec]
    by_cases e : n1 = n2
    · rw [if_pos e]
      refine RG_mk (G' := g_up G r2 c') _ _ hl (exZ_ok hn1) (exZ_ok hn1) hA' (FRM.up2 _ _ _ _ _) hsame ?_
      exact p2.rf hn1 hF (fun m _ => by rw [if_pos e])
    · rw [if_neg e]
      have hr0 : (g_up G r2 c') r0 = some c1 := by rw [g_up_ne d.2.1]; exact h0
      obtain ⟨q1, q2, q3, q4, hc1⟩ := v1.real
      have as := setAs_ok (hc1 ▸ hr0) hc'2 (fun q => d.2.1 q.symm) hn1
      have hA3 : AR (g_up (g_up G r2 c') r0 (rc (nI 1) n1 sS sX)) ar r0 r1 r2 := hA'.up0 ⟨_, _, _, _, rfl⟩
      have h02 : (g_up (g_up G r2 c') r0 (rc (nI 1) n1 sS sX)) r2 = some c' := by rw [g_up_ne (fun q => d.2.1 q.symm), g_up_same]
      have h01 : (g_up (g_up G r2 c') r0 (rc (nI 1) n1 sS sX)) r1 = some c2 := by rw [g_up_ne (fun q => d.1 q.symm)]; exact hr1
      obtain ⟨c5, s1, s2, s3⟩ := setSum_ok h02 f2.real (g_up_same _ _ _) h01 d.2.1 d.2.2.1 hn1 hn2 (hs ▸ f2) v2
      refine RG_mk (G' := g_up (g_up (g_up G r2 c') r0 (rc (nI 1) n1 sS sX)) r2 c5) (sumZ 23 127 1 n1 U k2 n2 u2) (sumZ 52 1023 1 n1 U k2 n2 u2) hl (sumZ_ok hn1 hn2) (sumZ_ok hn1 hn2) (hA3.up2 s2) (((FRM.up2 _ _ _ _ _).trans (FRM.up0 _ _ _ _ _)).trans (FRM.up2 _ _ _ _ _)) ?_ ?_
      · rw [hA'.f0, gb_some, gb_some, gck_true (isR_o hr0 v1.real), as, gb_some, hA3.f2, gb_some, hA3.f0, gb_some, hA3.f1, gb_some, gck_true (isR_o h02 f2.real), s1, gb_some]
        exact of297 (hA3.up2 s2) (g_up_same _ _ _) s2 s3 hl
      · have e2 : (fun l => if n1 = n2 then some r else f_X6_plus r b l) = fun l => f_X6_plus r b l := funext (fun l => if_neg e)
        rw [e2]
        exact (plus_ok hn1 hn2 p2 w2).rf l
  · rw [ifn cK hK]
    refine RG_mk (G' := g_up G r2 c') _ _ hl (exZ_ok hn1) (exZ_ok hn1) hA' (FRM.up2 _ _ _ _ _) hsame ?_
    refine p2.rf hn1 hF (fun m _ => ?_)
    rw [rec7]
    show (gb (f_X6_left a b) _) = some r
    have N := p2.nn hn1
    have Z := p2.zr hn1
    rw [p1, gb_some, N, Z]
    rcases kr with rfl | rfl | rfl
    · simp (decide := true) only [if_true, if_false]
    · exact absurd rfl hK
    · simp (decide := true) only [if_true, if_false]
end OR
/-- the operands in cells and at the reference -/
theorem ops_ok {G : gG} {ar r0 r1 r2 : Nat} (hA : AR G ar r0 r1 r2) {l : Int32} (hl : l = 4 ∨ l = 5) {x y : Int64} (hx : VAL l x) (hy : VAL l y) (op : Int32) :
    ∃ c1 c2 k1 n1 u1 k2 n2 u2 a b, f_X0_ofReals G ar op l x y = orst (g_up (g_up G r0 c1) r1 c2) ar op l ∧ CV c1 k1 n1 u1 ∧ CV c2 k2 n2 u2 ∧ RV a k1 n1 u1 ∧ RV b k2 n2 u2 ∧ (n1 = 0 ∨ n1 = 1) ∧ (n2 = 0 ∨ n2 = 1) ∧
      (l = 4 → k1 = 1 → F4 u1) ∧ (l = 4 → k2 = 1 → F4 u2) ∧ (l = 4 → f_X6_wide x = some a ∧ f_X6_wide y = some b) ∧ (l = 5 → x = a ∧ y = b) := by
  obtain ⟨d0, hd0, hr0⟩ := hA.2.1
  obtain ⟨d1, hd1, hr1⟩ := hA.2.2.1
  have ne : ¬ r1 = r0 := fun q => hA.2.2.2.2.1 q.symm
  rw [ofReals_eq, hA.f0, gb_some, gck_true (isR_o hd0 hr0)]
  rcases hl with rfl | rfl
  · obtain ⟨k1, n1, u1, hn1, v1⟩ := val4_of hx
    obtain ⟨k2, n2, u2, hn2, v2⟩ := val4_of hy
    obtain ⟨a, a1, a2⟩ := v1.wide hn1
    obtain ⟨b, b1, b2⟩ := v2.wide hn2
    obtain ⟨c1, s1, s2⟩ := v1.set hn1 hd0 hr0
    have hA1 := hA.up0 s2.real
    have hd1' : (g_up G r0 c1) r1 = some d1 := by rw [g_up_ne ne]; exact hd1
    obtain ⟨c2, t1, t2⟩ := v2.set hn2 hd1' hr1
    refine ⟨c1, c2, k1, n1, u1, k2, n2, u2, a, b, ?_, s2, t2, a2, b2, hn1, hn2, fun _ => v1.F4, fun _ => v2.F4, fun _ => ⟨a1, b1⟩, fun q => absurd q (by decide)⟩
    rw [s1, gb_some, hA1.f1, gb_some, gck_true (isR_o hd1' hr1), t1, gb_some]
  · obtain ⟨k1, n1, u1, hn1, v1⟩ := val5_of hx
    obtain ⟨k2, n2, u2, hn2, v2⟩ := val5_of hy
    obtain ⟨c1, s1, s2⟩ := v1.set hn1 hd0 hr0
    have hA1 := hA.up0 s2.real
    have hd1' : (g_up G r0 c1) r1 = some d1 := by rw [g_up_ne ne]; exact hd1
    obtain ⟨c2, t1, t2⟩ := v2.set hn2 hd1' hr1
    refine ⟨c1, c2, k1, n1, u1, k2, n2, u2, x, y, ?_, s2, t2, v1, v2, hn1, hn2, fun q => absurd q (by decide), fun q => absurd q (by decide), fun q => absurd q (by decide), fun _ => ⟨rfl, rfl⟩⟩
    rw [s1, gb_some, hA1.f1, gb_some, gck_true (isR_o hd1' hr1), t1, gb_some]
/-- what the reference answers on two values of a real lane -/
def RZ (l : Int32) (op : Int32) (x y z : Int64) : Prop :=
  (l = 4 → ∃ a b r, f_X6_wide x = some a ∧ f_X6_wide y = some b ∧ f_X6_reckoned op a b 4 = some r ∧ f_X6_floatBits r = some z) ∧ (l = 5 → f_X6_reckoned op x y 5 = some z)
theorem ofReals_ok {G : gG} {ar r0 r1 r2 : Nat} (hA : AR G ar r0 r1 r2) {l : Int32} (hl : l = 4 ∨ l = 5) {x y : Int64} (hx : VAL l x) (hy : VAL l y) {op : Int32} (hop : op = 0 ∨ op = 1 ∨ op = 2 ∨ op = 3 ∨ op = 4 ∨ op = 5 ∨ op = 6 ∨ op = 7) :
    ∃ z G', f_X0_ofReals G ar op l x y = some (z, G') ∧ AR G' ar r0 r1 r2 ∧ FRM G G' r0 r1 r2 ∧ RZ l op x y z ∧ VAL l z := by
  obtain ⟨c1, c2, k1, n1, u1, k2, n2, u2, a, b, e, v1, v2, w1, w2, hn1, hn2, g1, g2, q4, q5⟩ := ops_ok hA hl hx hy op
  have hA' := (hA.up0 v1.real).up1 v2.real
  have h0 : (g_up (g_up G r0 c1) r1 c2) r0 = some c1 := by rw [g_up_ne hA.2.2.2.2.1, g_up_same]
  have h1 : (g_up (g_up G r0 c1) r1 c2) r1 = some c2 := g_up_same _ _ _
  have R : RG (g_up (g_up G r0 c1) r1 c2) ar r0 r1 r2 l (orst (g_up (g_up G r0 c1) r1 c2) ar op l) (f_X6_reckoned op a b) := by
    rcases hop with rfl | rfl | rfl | rfl | rfl | rfl | rfl | rfl
    · exact or0 hA' h0 h1 v1 v2 w1 w2 hn1 hn2 hl
    · exact or1 hA' h0 h1 v1 v2 w1 w2 hn1 hn2 hl
    · exact or2 hA' h0 h1 v1 v2 w1 w2 hn1 hn2 hl
    · exact or3 hA' h0 h1 v1 v2 w1 w2 hn1 hn2 hl
    · exact or45 (Or.inl ⟨rfl, rfl⟩) hA' h0 h1 v1 v2 w1 w2 hn1 hn2 hl
    · exact or45 (Or.inr ⟨rfl, rfl⟩) hA' h0 h1 v1 v2 w1 w2 hn1 hn2 hl
    · exact or6 hA' h0 h1 v1 v2 w1 w2 hn1 hn2 g1 g2 hl
    · exact or7 hA' h0 h1 v1 v2 w1 w2 hn1 hn2 g1 g2 hl
  obtain ⟨z, G', r1', r2', r3, r4, r5⟩ := R
  refine ⟨z, G', e.trans r1', r2', (((FRM.up0 _ _ _ _ _).trans (FRM.up1 _ _ _ _ _)).trans r3), ⟨fun e4 => ?_, fun e5 => ?_⟩, r5⟩
  · obtain ⟨r, t1, t2⟩ := r4.1 e4
    exact ⟨a, b, r, (q4 e4).1, (q4 e4).2, t1, t2⟩
  · rw [(q5 e5).1, (q5 e5).2]
    exact r4.2 e5
