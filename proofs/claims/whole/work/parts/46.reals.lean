/-! Two reals: the class's acts. -/
theorem epk_dec4 {q : Nat} (hq : 0 < q) (h53 : bl q ≤ 24) {t : Int} (ht : -149 ≤ t) (hl : (bl q : Int) + t - 1 ≤ 127) : ∃ j : Nat, vM 23 (epk 23 127 q t / 2 ^ 23) (epk 23 127 q t % 2 ^ 23) = q * 2 ^ j ∧ vE 23 127 (epk 23 127 q t / 2 ^ 23) = t - j ∧ epk 23 127 q t < 255 * 2 ^ 23 ∧ 0 < epk 23 127 q t ∧ -149 ≤ t - j := by
  have hp := bl_pos hq
  by_cases c : -126 ≤ (bl q : Int) + t - 1
  · obtain ⟨n1, n2⟩ := norm_hi hq (w := 23) (by omega)
    refine ⟨24 - bl q, ?_⟩
    rw [epk_n (by omega) (by omega)]
    generalize q * 2 ^ (23 + 1 - bl q) = M at *
    obtain ⟨L, hL⟩ : ∃ L : Nat, ((bl q : Int) + t - 1 + (127 : Nat) - 1).toNat = L := ⟨_, rfl⟩
    rw [hL]
    have hL2 : L ≤ 253 := by omega
    have e1 : (L * 2 ^ 23 + M) / 2 ^ 23 = L + 1 := by omega
    have e2 : (L * 2 ^ 23 + M) % 2 ^ 23 = M - 2 ^ 23 := by omega
    rw [e1, e2]
    unfold vM vE
    rw [if_neg (by omega)]
    refine ⟨by omega, by omega, by omega, by omega, by omega⟩
  · rw [epk_s (by omega)]
    refine ⟨(t - (1 - (127 : Nat) - (23 : Nat))).toNat, ?_⟩
    have hz : q * 2 ^ (t - (1 - (127 : Nat) - (23 : Nat))).toNat < 2 ^ 23 := by
      calc q * 2 ^ (t - (1 - (127 : Nat) - (23 : Nat))).toNat < 2 ^ bl q * 2 ^ (t - (1 - (127 : Nat) - (23 : Nat))).toNat := Nat.mul_lt_mul_of_pos_right (bl_lt q) (Nat.two_pow_pos _)
        _ ≤ 2 ^ 23 := by rw [← Nat.pow_add]; exact Nat.pow_le_pow_right (by omega) (by omega)
    have h0 : 0 < q * 2 ^ (t - (1 - (127 : Nat) - (23 : Nat))).toNat := Nat.mul_pos hq (Nat.two_pow_pos _)
    generalize q * 2 ^ (t - (1 - (127 : Nat) - (23 : Nat))).toNat = D at *
    have e1 : D / 2 ^ 23 = 0 := by omega
    have e2 : D % 2 ^ 23 = D := by omega
    rw [e1, e2]
    unfold vM vE
    rw [if_pos rfl]
    refine ⟨rfl, by omega, by omega, h0, by omega⟩
theorem F4.v4 {u : Nat} (h : F4 u) (n : Int32) : V4 (fin4 (exZ 23 127 1 n u)) 1 n u := by
  obtain ⟨q, t, q0, q1, t0, t1, rfl⟩ := h
  have hb := bl_le_of q1
  obtain ⟨j, j1, j2, j3, j4, j5⟩ := epk_dec4 q0 hb t0 t1
  have hp : 0 < uV q t := uV_pos q0
  have e : encU 23 127 (uV q t) = epk 23 127 q t := by
    unfold encU
    rw [if_neg (by omega), enc_u 23 127 q0 (by omega), enc_epk q0 (by omega) (by omega) (by omega) (by omega)]
  rw [exZ_1, e]
  refine Or.inr (Or.inl ⟨rfl, epk 23 127 q t, rfl, j4, j3, ?_⟩)
  unfold uD
  rw [j1, j2]
  exact uV_shl (by omega)
theorem FR.rv {r : Int64} (h : FR r) : ∃ k n u, (n = 0 ∨ n = 1) ∧ RV r k n u ∧ V4 (fin4 (exZ 23 127 k n u)) k n u ∧ (k = 1 → F4 u) := by
  rcases h with rfl | ⟨n, D, hn, rfl, rfl | rfl | ⟨q, t, q0, q1, t0, t1, rfl⟩⟩
  · exact ⟨3, 0, 0, Or.inl rfl, Or.inr (Or.inr (Or.inr ⟨rfl, rfl⟩)), Or.inr (Or.inr (Or.inr ⟨rfl, rfl⟩)), fun q => by omega⟩
  · exact ⟨0, n, 0, hn, Or.inl ⟨rfl, rfl, rfl⟩, Or.inl ⟨rfl, rfl, rfl⟩, fun q => by omega⟩
  · exact ⟨2, n, 0, hn, Or.inr (Or.inr (Or.inl ⟨rfl, rfl⟩)), Or.inr (Or.inr (Or.inl ⟨rfl, by rw [exZ_2, infB4]; rfl⟩)), fun q => by omega⟩
  · have hb : bl q ≤ 25 := bl_le_of (by omega)
    obtain ⟨j, j1, j2, j3, j4, -⟩ := epk_dec q0 (by omega) (t := t) (by omega) (by omega)
    have bd : -1074 ≤ t - j := by rw [← j2]; exact (vE_bd (by omega)).1
    have hF : F4 (uV q t) := by
      by_cases c : q = 2 ^ 24
      · have e : bl q = 25 := by rw [c]; exact bl_of (by omega) (by omega)
        refine ⟨2 ^ 23, t + 1, by omega, by omega, by omega, ?_, ?_⟩
        · rw [show bl (2 ^ 23) = 24 from bl_of (by omega) (by omega)]
          omega
        · have := uV_split (m := 2 ^ 23) (e := t) (j := 1) (by omega)
          rw [c]
          exact this
      · exact ⟨q, t, q0, by omega, t0, t1, rfl⟩
    refine ⟨1, n, uV q t, hn, Or.inr (Or.inl ⟨rfl, _, rfl, j4, j3, ?_⟩), hF.v4 n, fun _ => hF⟩
    rw [j1, j2]
    exact uV_shl (by omega)
/-- what the reference answers in a lane -/
def RF (l : Int32) (f : Int32 → Option Int64) (z : Int64) : Prop := (l = 4 → ∃ r, f 4 = some r ∧ f_X6_floatBits r = some z) ∧ (l = 5 → f 5 = some z)
def tz (l : Int32) (z4 z5 : Option (Int32 × Nat)) : Int64 := if l = 4 then fin4 z4 else fin5 z5
theorem PR.rf {f : Int32 → Option Int64} {z4 z5 : Option (Int32 × Nat)} (h : PR f z4 z5) (l : Int32) : RF l f (tz l z4 z5) := by
  obtain ⟨⟨r, h1, h2, -⟩, h3⟩ := h
  refine ⟨fun e => ?_, fun e => ?_⟩
  · exact ⟨r, h1, by rw [h2, e]; rfl⟩
  · rw [h3, e]; rfl
theorem RV.rf {a : Int64} {k : Nat} {n : Int32} {u : Nat} (hn : n = 0 ∨ n = 1) (h : RV a k n u) {l : Int32} (h4 : l = 4 → k = 1 → F4 u) {f : Int32 → Option Int64} (hf : ∀ m, m = l → f m = some a) : RF l f (tz l (exZ 23 127 k n u) (exZ 52 1023 k n u)) := by
  refine ⟨fun e => ⟨a, hf 4 e.symm, ?_⟩, fun e => ?_⟩
  · rw [h.fb hn (h4 e), e]; rfl
  · rw [hf 5 e.symm, e]
    exact congrArg some h.f5
theorem tz_val {l : Int32} (hl : l = 4 ∨ l = 5) {z4 z5 : Option (Int32 × Nat)} (h4 : OKZ 23 127 z4) (h5 : OKZ 52 1023 z5) : VAL l (tz l z4 z5) := by
  rcases hl with rfl | rfl
  · exact h4.v4
  · exact h5.v5
theorem TV.tz {c : gC} {z4 z5 : Option (Int32 × Nat)} (h : TV c z4 z5) {G : gG} {a : Nat} (hG : G a = some c) {l : Int32} (hl : l = 4 ∨ l = 5) : f_X2_toValue G a l = some (tz l z4 z5) := by
  rcases hl with rfl | rfl
  · exact (h G a hG).1
  · exact (h G a hG).2
theorem of297 {G : gG} {ar r0 r1 r2 : Nat} (hA : AR G ar r0 r1 r2) {c : gC} (hG : G r2 = some c) (hr : isR c) {z4 z5 : Option (Int32 × Nat)} (h : TV c z4 z5) {l : Int32} (hl : l = 4 ∨ l = 5) : f_X0_ofReals_297 G ar l = some (tz l z4 z5, G) := by
  unfold f_X0_ofReals_297
  rw [hA.f2, gb_some, gck_true (isR_o hG hr), h.tz hG hl, gb_some]
def orst (G4 : gG) (th : Nat) (a1 : Int32) (a2 : Int32) : Option (Int64 × gG) :=
  if a1 = 0 then
    gb (g_fA G4 th 0 2) fun g5 =>
    gb (g_fA G4 th 0 0) fun g6 =>
    gb (g_fA G4 th 0 1) fun g7 =>
    gck (g_isO G4 g5 1) <|
    gb (f_X2_setSum G4 g5 g6 g7) fun G8 =>
    f_X0_ofReals_297 G8 th a2
  else
  if a1 = 1 then
    gb (g_fA G4 th 0 1) fun g9 =>
    gb (g_fA G4 th 0 1) fun g10 =>
    gb (g_fI G4 g10 1 1) fun v11 =>
    if v11 = 0 then
      f_X0_ofReals_101 G4 th a2 1 g9
    else
    f_X0_ofReals_101 G4 th a2 0 g9
  else
  if a1 = 2 then
    gb (g_fA G4 th 0 2) fun g12 =>
    gb (g_fA G4 th 0 0) fun g13 =>
    gb (g_fA G4 th 0 1) fun g14 =>
    gck (g_isO G4 g12 1) <|
    gb (f_X2_setProduct G4 g12 g13 g14) fun G15 =>
    f_X0_ofReals_297 G15 th a2
  else
  if a1 = 3 then
    gb (g_fA G4 th 0 2) fun g16 =>
    gb (g_fA G4 th 0 0) fun g17 =>
    gb (g_fA G4 th 0 1) fun g18 =>
    gck (g_isO G4 g16 1) <|
    gb (f_X2_setQuotient G4 g16 g17 g18) fun G19 =>
    f_X0_ofReals_297 G19 th a2
  else
  if a1 = 4 then
    f_X0_ofReals_158 G4 th a1 a2
  else
  if a1 = 5 then
    f_X0_ofReals_158 G4 th a1 a2
  else
  if a1 = 6 then
    gb (g_fA G4 th 0 2) fun g20 =>
    gb (g_fA G4 th 0 0) fun g21 =>
    gb (g_fA G4 th 0 1) fun g22 =>
    gck (g_isO G4 g20 1) <|
    gb (f_X2_setRest G4 g20 g21 g22) fun G23 =>
    f_X0_ofReals_297 G23 th a2
  else
  gb (g_fA G4 th 0 2) fun g24 =>
  gb (g_fA G4 th 0 0) fun g25 =>
  gb (g_fA G4 th 0 1) fun g26 =>
  gck (g_isO G4 g24 1) <|
  gb (f_X2_setRest G4 g24 g25 g26) fun G27 =>
  gb (g_fA G27 th 0 2) fun g28 =>
  gb (g_fI G27 g28 1 0) fun v29 =>
  if v29 = 1 then
    gb (g_fA G27 th 0 2) fun g30 =>
    gb (g_fI G27 g30 1 1) fun v31 =>
    gb (g_fA G27 th 0 1) fun g32 =>
    gb (g_fI G27 g32 1 1) fun v33 =>
    if v31 = v33 then
      f_X0_ofReals_297 G27 th a2
    else
    gb (g_fA G27 th 0 0) fun g34 =>
    gb (g_fA G27 th 0 2) fun g35 =>
    gck (g_isO G27 g34 1) <|
    gb (f_X2_setAs G27 g34 g35) fun G36 =>
    gb (g_fA G36 th 0 2) fun g37 =>
    gb (g_fA G36 th 0 0) fun g38 =>
    gb (g_fA G36 th 0 1) fun g39 =>
    gck (g_isO G36 g37 1) <|
    gb (f_X2_setSum G36 g37 g38 g39) fun G40 =>
    f_X0_ofReals_297 G40 th a2
  else
  f_X0_ofReals_297 G27 th a2
theorem ofReals_eq (G : gG) (th : Nat) (a1 a2 : Int32) (a3 a5 : Int64) : f_X0_ofReals G th a1 a2 a3 a5 =
  gb (g_fA G th 0 0) fun g1 =>
  gck (g_isO G g1 1) <|
  gb (f_X2_setValue G g1 a3 a2) fun G2 =>
  gb (g_fA G2 th 0 1) fun g3 =>
  gck (g_isO G2 g3 1) <|
  gb (f_X2_setValue G2 g3 a5 a2) fun G4 => orst G4 th a1 a2 := rfl
/-- what an act must give -/
def RG (G : gG) (ar r0 r1 r2 : Nat) (l : Int32) (o : Option (Int64 × gG)) (f : Int32 → Option Int64) : Prop := ∃ z G', o = some (z, G') ∧ AR G' ar r0 r1 r2 ∧ FRM G G' r0 r1 r2 ∧ RF l f z ∧ VAL l z
theorem RG_mk {G G' : gG} {ar r0 r1 r2 : Nat} {l : Int32} {o : Option (Int64 × gG)} {f : Int32 → Option Int64} (z4 z5 : Option (Int32 × Nat)) (hl : l = 4 ∨ l = 5) (o4 : OKZ 23 127 z4) (o5 : OKZ 52 1023 z5) (hA : AR G' ar r0 r1 r2) (hF : FRM G G' r0 r1 r2) (e : o = some (tz l z4 z5, G')) (hR : RF l f (tz l z4 z5)) : RG G ar r0 r1 r2 l o f := ⟨_, G', e, hA, hF, hR, tz_val hl o4 o5⟩
theorem rec0 (a b : Int64) : f_X6_reckoned 0 a b = fun l => f_X6_plus a b l := by
  funext l; unfold f_X6_reckoned; rw [if_pos rfl]
  cases f_X6_plus a b l <;> rfl
theorem rec1 (a b : Int64) : f_X6_reckoned 1 a b = fun l => f_X6_plus a (f_X6_other b) l := by
  funext l; unfold f_X6_reckoned; rw [if_neg (by decide), if_pos rfl]
  cases f_X6_plus a (f_X6_other b) l <;> rfl
theorem rec2 (a b : Int64) : f_X6_reckoned 2 a b = fun l => f_X6_times a b l := by
  funext l; unfold f_X6_reckoned; rw [if_neg (by decide), if_neg (by decide), if_pos rfl]
  cases f_X6_times a b l <;> rfl
theorem rec3 (a b : Int64) : f_X6_reckoned 3 a b = fun l => f_X6_over a b l := by
  funext l; unfold f_X6_reckoned; rw [if_neg (by decide), if_neg (by decide), if_neg (by decide), if_pos rfl]
  cases f_X6_over a b l <;> rfl
theorem rec4 (a b : Int64) : f_X6_reckoned 4 a b = fun l => gb (f_X6_over a b l) fun r => f_X6_cut r 3 := by
  funext l; unfold f_X6_reckoned; rw [if_neg (by decide), if_neg (by decide), if_neg (by decide), if_neg (by decide), if_pos rfl]
  cases f_X6_over a b l with
  | none => rfl
  | some r => show (gb (f_X6_cut r 3) fun r6 => some r6) = f_X6_cut r 3; cases f_X6_cut r 3 <;> rfl
theorem rec5 (a b : Int64) : f_X6_reckoned 5 a b = fun l => gb (f_X6_over a b l) fun r => f_X6_cut r 0 := by
  funext l; unfold f_X6_reckoned; rw [if_neg (by decide), if_neg (by decide), if_neg (by decide), if_neg (by decide), if_neg (by decide), if_pos rfl]
  cases f_X6_over a b l with
  | none => rfl
  | some r => show (gb (f_X6_cut r 0) fun r6 => some r6) = f_X6_cut r 0; cases f_X6_cut r 0 <;> rfl
theorem rec6 (a b : Int64) : f_X6_reckoned 6 a b = fun _ => f_X6_left a b := by
  funext l; unfold f_X6_reckoned; rw [if_neg (by decide), if_neg (by decide), if_neg (by decide), if_neg (by decide), if_neg (by decide), if_neg (by decide), if_pos rfl]
  cases f_X6_left a b <;> rfl
section OR
variable {G : gG} {ar r0 r1 r2 : Nat} {c1 c2 : gC} {k1 k2 : Nat} {n1 n2 : Int32} {u1 u2 : Nat} {a b : Int64} {l : Int32}
theorem or0 (hA : AR G ar r0 r1 r2) (h0 : G r0 = some c1) (h1 : G r1 = some c2) (v1 : CV c1 k1 n1 u1) (v2 : CV c2 k2 n2 u2) (w1 : RV a k1 n1 u1) (w2 : RV b k2 n2 u2) (hn1 : n1 = 0 ∨ n1 = 1) (hn2 : n2 = 0 ∨ n2 = 1) (hl : l = 4 ∨ l = 5) : RG G ar r0 r1 r2 l (orst G ar 0 l) (f_X6_reckoned 0 a b) := by
  obtain ⟨c, hc, hr⟩ := hA.2.2.2.1
  have d := hA.2.2.2.2
  obtain ⟨c', f1, f2, f3⟩ := setSum_ok hc hr h0 h1 d.2.1 d.2.2.1 hn1 hn2 v1 v2
  refine RG_mk (G' := g_up G r2 c') (sumZ 23 127 k1 n1 u1 k2 n2 u2) (sumZ 52 1023 k1 n1 u1 k2 n2 u2) hl (sumZ_ok hn1 hn2) (sumZ_ok hn1 hn2) (hA.up2 f2) (FRM.up2 _ _ _ _ _) ?_ ?_
  · unfold orst
    rw [if_pos rfl, hA.f2, gb_some, hA.f0, gb_some, hA.f1, gb_some, gck_true (isR_o hc hr), f1, gb_some]
    exact of297 (hA.up2 f2) (g_up_same _ _ _) f2 f3 hl
  · rw [rec0]
    exact (plus_ok hn1 hn2 w1 w2).rf l
theorem or2 (hA : AR G ar r0 r1 r2) (h0 : G r0 = some c1) (h1 : G r1 = some c2) (v1 : CV c1 k1 n1 u1) (v2 : CV c2 k2 n2 u2) (w1 : RV a k1 n1 u1) (w2 : RV b k2 n2 u2) (hn1 : n1 = 0 ∨ n1 = 1) (hn2 : n2 = 0 ∨ n2 = 1) (hl : l = 4 ∨ l = 5) : RG G ar r0 r1 r2 l (orst G ar 2 l) (f_X6_reckoned 2 a b) := by
  obtain ⟨c, hc, hr⟩ := hA.2.2.2.1
  obtain ⟨c', f1, f2, f3⟩ := setProduct_ok hc hr h0 h1 v1 v2
  refine RG_mk (G' := g_up G r2 c') (prodZ 23 127 k1 n1 u1 k2 n2 u2) (prodZ 52 1023 k1 n1 u1 k2 n2 u2) hl prodZ_ok prodZ_ok (hA.up2 f2) (FRM.up2 _ _ _ _ _) ?_ ?_
  · unfold orst
    rw [if_neg (by decide), if_neg (by decide), if_pos rfl, hA.f2, gb_some, hA.f0, gb_some, hA.f1, gb_some, gck_true (isR_o hc hr), f1, gb_some]
    exact of297 (hA.up2 f2) (g_up_same _ _ _) f2 f3 hl
  · rw [rec2]
    exact (times_ok hn1 hn2 w1 w2).rf l
theorem or3 (hA : AR G ar r0 r1 r2) (h0 : G r0 = some c1) (h1 : G r1 = some c2) (v1 : CV c1 k1 n1 u1) (v2 : CV c2 k2 n2 u2) (w1 : RV a k1 n1 u1) (w2 : RV b k2 n2 u2) (hn1 : n1 = 0 ∨ n1 = 1) (hn2 : n2 = 0 ∨ n2 = 1) (hl : l = 4 ∨ l = 5) : RG G ar r0 r1 r2 l (orst G ar 3 l) (f_X6_reckoned 3 a b) := by
  obtain ⟨c, hc, hr⟩ := hA.2.2.2.1
  obtain ⟨c', f1, f2, f3⟩ := setQuotient_ok hc hr h0 h1 v1 v2
  refine RG_mk (G' := g_up G r2 c') (quoZ 23 127 k1 n1 u1 k2 n2 u2) (quoZ 52 1023 k1 n1 u1 k2 n2 u2) hl quoZ_ok quoZ_ok (hA.up2 f2) (FRM.up2 _ _ _ _ _) ?_ ?_
  · unfold orst
    rw [if_neg (by decide), if_neg (by decide), if_neg (by decide), if_pos rfl, hA.f2, gb_some, hA.f0, gb_some, hA.f1, gb_some, gck_true (isR_o hc hr), f1, gb_some]
    exact of297 (hA.up2 f2) (g_up_same _ _ _) f2 f3 hl
  · rw [rec3]
    exact (over_ok hn1 hn2 w1 w2).rf l
/-! The difference. -/
def flip (n : Int32) : Int32 := if n = 0 then 1 else 0
theorem flip_b (n : Int32) : flip n = 0 ∨ flip n = 1 := by
  unfold flip
  split
  · exact Or.inr rfl
  · exact Or.inl rfl
theorem xor63 {n : Int32} (hn : n = 0 ∨ n = 1) {D : Nat} (hD : D < 2 ^ 63) : (sgD n D ^^^ (-9223372036854775808)) = sgD (flip n) D := by
  have key : ∀ {X : Nat}, X < 2 ^ 63 → (lN X ^^^ (-9223372036854775808)) = lN (X + 2 ^ 63) := by
    intro X hX
    apply lN_ext
    rw [show (-9223372036854775808 : Int64) = lN (2 ^ 63) from by decide, Int64.toBitVec_xor, BitVec.toNat_xor, lN_tn (by omega), lN_tn (by omega)]
    have e : X ^^^ 2 ^ 63 = X ||| 2 ^ 63 := by
      apply Nat.eq_of_testBit_eq
      intro i
      rw [Nat.testBit_xor, Nat.testBit_or, Nat.testBit_two_pow]
      by_cases c : 63 = i
      · rw [← c, Nat.testBit_lt_two_pow hX]
        rfl
      · rw [decide_eq_false c, Bool.xor_false, Bool.or_false]
    have e2 := lor_add (a := 1) (b := X) (k := 63) hX
    rw [Nat.one_mul] at e2
    rw [e, Nat.or_comm, e2, Nat.add_comm]
  rcases hn with rfl | rfl
  · rw [sgD_0, key hD]
    exact (sgD_1 hD).symm
  · rw [sgD_1 hD, ← key hD, Int64.xor_assoc, Int64.xor_self, Int64.xor_zero]
    exact (sgD_0 D).symm
theorem other_RV {b : Int64} {k : Nat} {n : Int32} {u : Nat} (hn : n = 0 ∨ n = 1) (h : RV b k n u) : RV (f_X6_other b) k (flip n) u := by
  unfold f_X6_other
  rcases h.num with ⟨rfl, rfl⟩ | ⟨D, w⟩
  · rw [isNan_nan, if_neg (by decide)]
    exact Or.inr (Or.inr (Or.inr ⟨rfl, rfl⟩))
  · rw [w.nan hn, if_pos rfl]
    rcases h with ⟨rfl, rfl, rfl⟩ | ⟨rfl, D, rfl, h0, h1, rfl⟩ | ⟨rfl, rfl⟩ | ⟨rfl, rfl⟩
    · exact Or.inl ⟨rfl, rfl, xor63 hn (by omega)⟩
    · exact Or.inr (Or.inl ⟨rfl, D, xor63 hn (by omega), h0, h1, rfl⟩)
    · exact Or.inr (Or.inr (Or.inl ⟨rfl, xor63 hn (by omega)⟩))
    · exact absurd w.2.2.1 (by omega)
theorem CV.flip {c : gC} {k : Nat} {n : Int32} {u : Nat} (h : CV c k n u) {G : gG} {a : Nat} (hG : G a = some c) : ∃ N c', g_fI G a 1 1 = some N ∧ g_sZ G a 1 1 (flip N) = some (g_up G a c') ∧ CV c' k (flip n) u := by
  rcases h with ⟨rfl, rfl, s, x, rfl⟩ | ⟨rfl, X, E, rfl, h⟩ | ⟨rfl, s, x, rfl⟩ | ⟨rfl, n', s, x, rfl⟩
  · exact ⟨_, _, rc_n hG, rc_sn hG (flip_b n), Or.inl ⟨rfl, rfl, _, _, rfl⟩⟩
  · exact ⟨_, _, rc_n hG, rc_sn hG (flip_b n), Or.inr (Or.inl ⟨rfl, X, E, rfl, h⟩)⟩
  · exact ⟨_, _, rc_n hG, rc_sn hG (flip_b n), Or.inr (Or.inr (Or.inl ⟨rfl, _, _, rfl⟩))⟩
  · exact ⟨_, _, rc_n hG, rc_sn hG (flip_b n'), Or.inr (Or.inr (Or.inr ⟨rfl, _, _, _, rfl⟩))⟩
theorem or1 (hA : AR G ar r0 r1 r2) (h0 : G r0 = some c1) (h1 : G r1 = some c2) (v1 : CV c1 k1 n1 u1) (v2 : CV c2 k2 n2 u2) (w1 : RV a k1 n1 u1) (w2 : RV b k2 n2 u2) (hn1 : n1 = 0 ∨ n1 = 1) (hn2 : n2 = 0 ∨ n2 = 1) (hl : l = 4 ∨ l = 5) : RG G ar r0 r1 r2 l (orst G ar 1 l) (f_X6_reckoned 1 a b) := by
  obtain ⟨c, hc, hr⟩ := hA.2.2.2.1
  have d := hA.2.2.2.2
  obtain ⟨N, c3, q1, q2, q3⟩ := v2.flip h1
  have hA' := hA.up1 q3.real
  obtain ⟨c', f1, f2, f3⟩ := setSum_ok (G := g_up G r1 c3) (th := r2) (a1 := r0) (a2 := r1) (by rw [g_up_ne (fun q => d.2.2.1 q.symm)]; exact hc) hr (by rw [g_up_ne d.1]; exact h0) (g_up_same _ _ _) d.2.1 d.2.2.1 hn1 (flip_b n2) v1 q3
  refine RG_mk (G' := g_up (g_up G r1 c3) r2 c') (sumZ 23 127 k1 n1 u1 k2 (flip n2) u2) (sumZ 52 1023 k1 n1 u1 k2 (flip n2) u2) hl (sumZ_ok hn1 (flip_b n2)) (sumZ_ok hn1 (flip_b n2)) (hA'.up2 f2) ((FRM.up1 _ _ _ _ _).trans (FRM.up2 _ _ _ _ _)) ?_ ?_
  · unfold orst f_X0_ofReals_101
    rw [if_neg (by decide), if_pos rfl, hA.f1, gb_some, gb_some, q1, gb_some]
    have e : ∀ s : Int32, flip N = s → (gb (g_sZ G r1 1 1 s) fun G1 => gb (g_fA G1 ar 0 2) fun g2 => gb (g_fA G1 ar 0 0) fun g3 => gb (g_fA G1 ar 0 1) fun g4 => gck (g_isO G1 g2 1) <| gb (f_X2_setSum G1 g2 g3 g4) fun G5 => f_X0_ofReals_297 G5 ar l) = some (tz l (sumZ 23 127 k1 n1 u1 k2 (flip n2) u2) (sumZ 52 1023 k1 n1 u1 k2 (flip n2) u2), g_up (g_up G r1 c3) r2 c') := by
      intro s hs
      rw [← hs, q2, gb_some, hA'.f2, gb_some, hA'.f0, gb_some, hA'.f1, gb_some, gck_true (isR_o (c := c) (by rw [g_up_ne (fun q => d.2.2.1 q.symm)]; exact hc) hr), f1, gb_some]
      exact of297 (hA'.up2 f2) (g_up_same _ _ _) f2 f3 hl
    by_cases z : N = 0
    · rw [if_pos z]
      exact e 1 (by unfold flip; rw [if_pos z])
    · rw [if_neg z]
      exact e 0 (by unfold flip; rw [if_neg z])
  · rw [rec1]
    exact (plus_ok hn1 (flip_b n2) w1 (other_RV hn2 w2)).rf l
end OR
