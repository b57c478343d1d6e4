/-! Moving a value to a lane: class and reference. -/
/-- the class's reckoner with its three cells -/
def AR (G : gG) (ar r0 r1 r2 : Nat) : Prop :=
  G ar = some (.inl (0, [.ref r0, .ref r1, .ref r2])) ∧ (∃ c, G r0 = some c ∧ isR c) ∧ (∃ c, G r1 = some c ∧ isR c) ∧ (∃ c, G r2 = some c ∧ isR c) ∧
  ¬ r0 = r1 ∧ ¬ r0 = r2 ∧ ¬ r1 = r2 ∧ ¬ ar = r0 ∧ ¬ ar = r1 ∧ ¬ ar = r2
/-- nothing but the three cells has changed -/
def FRM (G G' : gG) (r0 r1 r2 : Nat) : Prop := ∀ a, ¬ a = r0 → ¬ a = r1 → ¬ a = r2 → G' a = G a
theorem FRM.refl (G : gG) (r0 r1 r2 : Nat) : FRM G G r0 r1 r2 := fun _ _ _ _ => rfl
theorem FRM.trans {G G' G'' : gG} {r0 r1 r2 : Nat} (h : FRM G G' r0 r1 r2) (h' : FRM G' G'' r0 r1 r2) : FRM G G'' r0 r1 r2 := fun a h0 h1 h2 => (h' a h0 h1 h2).trans (h a h0 h1 h2)
theorem FRM.up0 (G : gG) (r0 r1 r2 : Nat) (c : gC) : FRM G (g_up G r0 c) r0 r1 r2 := fun _ h _ _ => g_up_ne h
theorem FRM.up1 (G : gG) (r0 r1 r2 : Nat) (c : gC) : FRM G (g_up G r1 c) r0 r1 r2 := fun _ _ h _ => g_up_ne h
theorem FRM.up2 (G : gG) (r0 r1 r2 : Nat) (c : gC) : FRM G (g_up G r2 c) r0 r1 r2 := fun _ _ _ h => g_up_ne h
theorem AR.up0 {G : gG} {ar r0 r1 r2 : Nat} (h : AR G ar r0 r1 r2) {c : gC} (hc : isR c) : AR (g_up G r0 c) ar r0 r1 r2 := by
  obtain ⟨h1, h2, h3, h4, d1, d2, d3, d4, d5, d6⟩ := h
  refine ⟨by rw [g_up_ne d4]; exact h1, ⟨c, g_up_same _ _ _, hc⟩, ?_, ?_, d1, d2, d3, d4, d5, d6⟩
  · rw [g_up_ne (fun q => d1 q.symm)]; exact h3
  · rw [g_up_ne (fun q => d2 q.symm)]; exact h4
theorem AR.up1 {G : gG} {ar r0 r1 r2 : Nat} (h : AR G ar r0 r1 r2) {c : gC} (hc : isR c) : AR (g_up G r1 c) ar r0 r1 r2 := by
  obtain ⟨h1, h2, h3, h4, d1, d2, d3, d4, d5, d6⟩ := h
  refine ⟨by rw [g_up_ne d5]; exact h1, ?_, ⟨c, g_up_same _ _ _, hc⟩, ?_, d1, d2, d3, d4, d5, d6⟩
  · rw [g_up_ne d1]; exact h2
  · rw [g_up_ne (fun q => d3 q.symm)]; exact h4
theorem AR.up2 {G : gG} {ar r0 r1 r2 : Nat} (h : AR G ar r0 r1 r2) {c : gC} (hc : isR c) : AR (g_up G r2 c) ar r0 r1 r2 := by
  obtain ⟨h1, h2, h3, h4, d1, d2, d3, d4, d5, d6⟩ := h
  refine ⟨by rw [g_up_ne d6]; exact h1, ?_, ?_, ⟨c, g_up_same _ _ _, hc⟩, d1, d2, d3, d4, d5, d6⟩
  · rw [g_up_ne d2]; exact h2
  · rw [g_up_ne d3]; exact h3
theorem AR.f0 {G : gG} {ar r0 r1 r2 : Nat} (h : AR G ar r0 r1 r2) : g_fA G ar 0 0 = some r0 := by simp [g_fA, g_fld, h.1]
theorem AR.f1 {G : gG} {ar r0 r1 r2 : Nat} (h : AR G ar r0 r1 r2) : g_fA G ar 0 1 = some r1 := by simp [g_fA, g_fld, h.1]
theorem AR.f2 {G : gG} {ar r0 r1 r2 : Nat} (h : AR G ar r0 r1 r2) : g_fA G ar 0 2 = some r2 := by simp [g_fA, g_fld, h.1]
theorem AR.o {G : gG} {ar r0 r1 r2 : Nat} (h : AR G ar r0 r1 r2) : g_isO G ar 0 = true := by simp [g_isO, h.1]
theorem isR_o {G : gG} {a : Nat} {c : gC} (h : G a = some c) (hr : isR c) : g_isO G a 1 = true := by
  obtain ⟨k, n, s, e, rfl⟩ := hr
  exact rc_o h
theorem nearest_ok {a : Int64} {k : Nat} {n : Int32} {u : Nat} (hn : n = 0 ∨ n = 1) (h : RV a k n u) : ∃ r, f_X6_nearest a 4 = some r ∧ f_X6_floatBits r = some (fin4 (exZ 23 127 k n u)) := by
  rcases h.num with ⟨rfl, rfl⟩ | ⟨D, w⟩
  · refine ⟨9221120237041090560, ?_, floatBits_nan⟩
    unfold f_X6_nearest
    rw [isNan_nan, if_neg (by decide)]
  · have N := w.nan hn
    have I := w.inf hn
    have S := w.sg hn
    have kr := w.2.2.1
    unfold f_X6_nearest
    rw [N, if_pos rfl, I]
    by_cases k2 : k = 2
    · have ha : a = sgD n (2047 * 2 ^ 52) := by
        have h1 := w.2.2.2.2.1.mp k2
        rw [w.1, h1]
      rw [if_pos k2, if_neg (by decide), k2, exZ_2, infB4]
      exact ⟨a, rfl, by rw [ha]; exact floatBits_inf hn⟩
    · rw [if_neg k2, if_pos rfl]
      have hs : (if (0 : Int64) ≤ a then f_X6_nearest_33 a 4 0 else f_X6_nearest_33 a 4 1) = f_X6_nearest_33 a 4 n := by
        rcases hn with rfl | rfl
        · rw [ifp S rfl]
        · rw [ifn S (by decide)]
      rw [hs]
      unfold f_X6_nearest_33
      by_cases k0 : k = 0
      · have hD0 := w.2.2.2.1.mp k0
        have hu : uV (vM 52 (D / 2 ^ 52) (D % 2 ^ 52)) (vE 52 1023 (D / 2 ^ 52)) = u := w.2.2.2.2.2 k2
        obtain ⟨rfl, -⟩ := w
        rw [mant_ok hn (by omega), hD0, show vM 52 (0 / 2 ^ 52) (0 % 2 ^ 52) = 0 by decide, fit_0, gb_some]
        rw [hD0, show vM 52 (0 / 2 ^ 52) (0 % 2 ^ 52) = 0 by decide] at hu
        have hu0 : u = 0 := by rw [← hu]; exact Nat.zero_mul _
        refine ⟨_, rfl, ?_⟩
        rw [k0, hu0]
        exact floatBits_zero hn
      · obtain ⟨M, e, m1, p1, a1, a2, a3, a4, a5⟩ := w.fin hn k0 k2
        obtain ⟨D', -, f1, f2⟩ := fit4 hn a1 (show M < 2 ^ 62 by omega) (e := e) (by omega) 0
        rw [m1, p1, f1, gb_some]
        refine ⟨_, rfl, ?_⟩
        rw [f2, show k = 1 by omega, exZ_1, ← a5]
        unfold encU
        have hp : 0 < uV M e := uV_pos a1
        rw [if_neg (by omega), enc_u 23 127 a1 (by omega)]
        rfl
theorem mm_clmp (s : Int64) : f_J9_max_f86c9 (-2147483648) (f_J9_min_f86c9 2147483647 s) = clmp (-2147483648) 2147483647 s := by
  unfold f_J9_max_f86c9 f_J9_min_f86c9 clmp
  have e1 : (2147483647 : Int64).toInt = 2147483647 := by decide
  have e2 : (-2147483648 : Int64).toInt = -2147483648 := by decide
  by_cases c1 : s < 2147483647
  · rw [if_pos c1]
    rw [Int64.lt_iff_toInt_lt, e1] at c1
    by_cases c2 : (-2147483648 : Int64) ≤ s
    · have c3 : s ≤ 2147483647 := by rw [Int64.le_iff_toInt_le, e1]; omega
      rw [if_pos c2, if_pos c3]
      by_cases c4 : (-2147483648 : Int64) < s
      · rw [if_pos c4]
      · rw [if_neg c4]
        rw [Int64.lt_iff_toInt_lt, e2] at c4
        rw [Int64.le_iff_toInt_le, e2] at c2
        apply Int64.toInt_inj.mp
        rw [e2]; omega
    · rw [if_neg c2, if_neg]
      intro q
      rw [Int64.le_iff_toInt_le, e2] at c2
      rw [Int64.lt_iff_toInt_lt, e2] at q
      omega
  · rw [if_neg c1, if_pos (by decide)]
    rw [Int64.lt_iff_toInt_lt, e1] at c1
    have c2 : (-2147483648 : Int64) ≤ s := by rw [Int64.le_iff_toInt_le, e2]; omega
    rw [if_pos c2]
    by_cases c3 : s ≤ 2147483647
    · rw [if_pos c3]
      rw [Int64.le_iff_toInt_le, e1] at c3
      apply Int64.toInt_inj.mp
      rw [e1]; omega
    · rw [if_neg c3]
theorem clmp_all (s : Int64) : clmp (-9223372036854775808) 9223372036854775807 s = s := by
  have e1 : (9223372036854775807 : Int64).toInt = 9223372036854775807 := by decide
  have e2 : (-9223372036854775808 : Int64).toInt = -9223372036854775808 := by decide
  have h1 := Int64.le_toInt s
  have h2 := Int64.toInt_lt s
  unfold clmp
  rw [if_pos (by rw [Int64.le_iff_toInt_le, e2]; omega), if_pos (by rw [Int64.le_iff_toInt_le, e1]; omega)]
theorem sat_3 {k : Nat} {n : Int32} {v : Nat} (h0 : k = 0 → v = 0) : satB (-9223372036854775808) 9223372036854775807 k n v = satL k n v := by
  unfold satB satL
  rw [clmp_all]
  by_cases k3 : k = 3
  · rw [if_pos k3, if_pos (Or.inr k3)]
  · rw [if_neg k3]
    by_cases k0 : k = 0
    · rw [if_pos (Or.inl k0), h0 k0, if_neg (by omega)]
      split <;> rfl
    · rw [if_neg (show ¬ (k = 0 ∨ k = 3) by omega)]
theorem sat_12 {k : Nat} {n : Int32} {v : Nat} (h0 : k = 0 → v = 0) : f_J9_max_f86c9 (-2147483648) (f_J9_min_f86c9 2147483647 (satL k n v)) = satB (-2147483648) 2147483647 k n v := by
  rw [mm_clmp]
  unfold satB satL
  by_cases k3 : k = 3
  · rw [if_pos k3, if_pos (Or.inr k3)]
    decide
  · rw [if_neg k3]
    by_cases k0 : k = 0
    · rw [if_pos (Or.inl k0), h0 k0, if_neg (by omega)]
      split <;> rfl
    · rw [if_neg (show ¬ (k = 0 ∨ k = 3) by omega)]
      by_cases g : k = 2 ∨ 2 ^ 63 ≤ v
      · rw [if_pos g, if_pos g]
        split
        · decide
        · decide
      · rw [if_neg g, if_neg g]
theorem RV.u0 {a : Int64} {k : Nat} {n : Int32} {u : Nat} (h : RV a k n u) (hk : k = 0) : cutV 3 n u 1200 = 0 := by
  rcases h with ⟨-, rfl, -⟩ | ⟨rfl, -⟩ | ⟨rfl, -⟩ | ⟨rfl, -⟩
  · rw [cut3]; exact Nat.zero_div _
  · omega
  · omega
  · omega
/-- from a real cell to a lane, beside the reference -/
theorem moved_76 {G : gG} {ar r0 r1 r2 : Nat} (hA : AR G ar r0 r1 r2) {c : gC} (hc : G r0 = some c) {k : Nat} {n : Int32} {u : Nat} (hn : n = 0 ∨ n = 1) (hv : CV c k n u) {a : Int64} (ha : RV a k n u) {a4 : Int32} (h4 : a4 = 1 ∨ a4 = 2 ∨ a4 = 3 ∨ a4 = 4 ∨ a4 = 5) :
    ∃ y, f_X0_moved_76 G ar a4 = some (y, G) ∧ f_X6_to_75 a4 a = some y ∧ VAL a4 y := by
  have hr := hv.real
  unfold f_X0_moved_76 f_X0_wholeOf f_X6_to_75
  have tv := hv.tv G r0 hc
  have u0 := ha.u0
  rcases h4 with rfl | rfl | rfl | rfl | rfl
  · refine ⟨f_X6_kept (satB (-2147483648) 2147483647 k n (cutV 3 n u 1200)) 1, ?_, ?_, val_kept (Or.inr (Or.inl rfl)) _⟩
    · rw [if_pos (by decide), hA.f0, gb_some, gck_true (isR_o hc hr), toLong_ok hc hv, gb_some, if_neg (by decide)]
      simp only [gl]
      rw [sat_12 u0, low_kept (Or.inr (Or.inl rfl)), gb_some]
    · rw [if_neg (by decide), if_neg (by decide), if_neg (by decide), number_ok hn ha, gb_some]
  · refine ⟨f_X6_kept (satB (-2147483648) 2147483647 k n (cutV 3 n u 1200)) 2, ?_, ?_, val_kept (Or.inr (Or.inr (Or.inl rfl))) _⟩
    · rw [if_pos (by decide), hA.f0, gb_some, gck_true (isR_o hc hr), toLong_ok hc hv, gb_some, if_neg (by decide)]
      simp only [gl]
      rw [sat_12 u0, low_kept (Or.inr (Or.inr (Or.inl rfl))), gb_some]
    · rw [if_neg (by decide), if_neg (by decide), if_neg (by decide), number_ok hn ha, gb_some]
  · refine ⟨satL k n (cutV 3 n u 1200), ?_, ?_, kept_3 _⟩
    · rw [if_pos (by decide), hA.f0, gb_some, gck_true (isR_o hc hr), toLong_ok hc hv, gb_some, if_pos rfl, gb_some]
    · rw [if_neg (by decide), if_pos rfl, number_ok hn ha, gb_some, sat_3 u0]
  · obtain ⟨r, q1, q2⟩ := nearest_ok hn ha
    refine ⟨fin4 (exZ 23 127 k n u), ?_, ?_, (exZ_ok hn).v4⟩
    · rw [if_neg (by decide), hA.f0, gb_some, gck_true (isR_o hc hr), tv.1, gb_some]
    · rw [if_neg (by decide), if_neg (by decide), if_pos (by decide), if_pos rfl, q1, gb_some, q2, gb_some]
  · refine ⟨fin5 (exZ 52 1023 k n u), ?_, ?_, (exZ_ok hn).v5⟩
    · rw [if_neg (by decide), hA.f0, gb_some, gck_true (isR_o hc hr), tv.2, gb_some]
    · rw [if_neg (by decide), if_neg (by decide), if_pos (by decide), if_neg (by decide), ha.f5]
theorem zero4 {x : Int64} {k : Nat} {n : Int32} {u : Nat} (hn : n = 0 ∨ n = 1) (h : V4 x k n u) : f_X1_isZero x 4 = if k = 0 then 1 else 0 := by
  have z1 : ∀ F : Nat, F < 2 ^ 31 → (sgF n F = 0 ↔ (n = 0 ∧ F = 0)) := by
    intro F hF
    rcases hn with rfl | rfl
    · rw [sgF_0, lN_z (by omega)]
      exact ⟨fun q => ⟨rfl, q⟩, fun q => q.2⟩
    · rw [sgF_1 hF, lN_z (by omega)]
      exact ⟨fun q => by omega, fun q => absurd q.1 (by decide)⟩
  have z2 : ∀ F : Nat, F < 2 ^ 31 → (sgF n F = -2147483648 ↔ (n = 1 ∧ F = 0)) := by
    intro F hF
    rw [show (-2147483648 : Int64) = lN (2 ^ 64 - 2 ^ 31) from by decide]
    rcases hn with rfl | rfl
    · rw [sgF_0, lN_inj (by omega) (by omega)]
      exact ⟨fun q => by omega, fun q => absurd q.1 (by decide)⟩
    · rw [sgF_1 hF, lN_inj (by omega) (by omega)]
      exact ⟨fun q => ⟨rfl, by omega⟩, fun q => by omega⟩
  have key : ∀ F : Nat, F < 2 ^ 31 → f_X1_isZero (sgF n F) 4 = if F = 0 then 1 else 0 := by
    intro F hF
    unfold f_X1_isZero f_X1_isZero_19
    have a1 := z1 F hF
    have a2 := z2 F hF
    by_cases c : F = 0
    · rw [if_pos c]
      rcases hn with rfl | rfl
      · rw [ifp a1 ⟨rfl, c⟩]
      · rw [ifn a1 (fun q => absurd q.1 (by decide)), if_pos rfl, ifp a2 ⟨rfl, c⟩]
    · rw [if_neg c, ifn a1 (fun q => c q.2), if_pos rfl, ifn a2 (fun q => c q.2), if_neg (by decide)]
  rcases h with ⟨rfl, rfl, rfl⟩ | ⟨rfl, F, rfl, h0, h1, rfl⟩ | ⟨rfl, rfl⟩ | ⟨rfl, rfl⟩
  · exact key 0 (by omega)
  · rw [key F (by omega), if_neg (by omega)]; rfl
  · exact key _ (by omega)
  · decide
theorem zero5 {x : Int64} {k : Nat} {n : Int32} {u : Nat} (hn : n = 0 ∨ n = 1) (h : RV x k n u) : f_X1_isZero x 5 = if k = 0 then 1 else 0 := by
  have z1 : ∀ F : Nat, F < 2 ^ 63 → (sgD n F = 0 ↔ (n = 0 ∧ F = 0)) := by
    intro F hF
    rcases hn with rfl | rfl
    · rw [sgD_0, lN_z (by omega)]
      exact ⟨fun q => ⟨rfl, q⟩, fun q => q.2⟩
    · rw [sgD_1 hF, lN_z (by omega)]
      exact ⟨fun q => by omega, fun q => absurd q.1 (by decide)⟩
  have z2 : ∀ F : Nat, F < 2 ^ 63 → (sgD n F = -9223372036854775808 ↔ (n = 1 ∧ F = 0)) := by
    intro F hF
    rw [show (-9223372036854775808 : Int64) = lN (2 ^ 63) from by decide]
    rcases hn with rfl | rfl
    · rw [sgD_0, lN_inj (by omega) (by omega)]
      exact ⟨fun q => by omega, fun q => absurd q.1 (by decide)⟩
    · rw [sgD_1 hF, lN_inj (by omega) (by omega)]
      exact ⟨fun q => ⟨rfl, by omega⟩, fun q => by omega⟩
  have key : ∀ F : Nat, F < 2 ^ 63 → f_X1_isZero (sgD n F) 5 = if F = 0 then 1 else 0 := by
    intro F hF
    unfold f_X1_isZero f_X1_isZero_19
    have a1 := z1 F hF
    have a2 := z2 F hF
    by_cases c : F = 0
    · rw [if_pos c]
      rcases hn with rfl | rfl
      · rw [ifp a1 ⟨rfl, c⟩]
      · rw [ifn a1 (fun q => absurd q.1 (by decide)), if_neg (by decide), if_pos rfl, ifp a2 ⟨rfl, c⟩]
    · rw [if_neg c, ifn a1 (fun q => c q.2), if_neg (by decide), if_pos rfl, ifn a2 (fun q => c q.2)]
  rcases h with ⟨rfl, rfl, rfl⟩ | ⟨rfl, F, rfl, h0, h1, rfl⟩ | ⟨rfl, rfl⟩ | ⟨rfl, rfl⟩
  · exact key 0 (by omega)
  · rw [key F (by omega), if_neg (by omega)]; rfl
  · exact key _ (by omega)
  · decide
theorem RV.zr {x : Int64} {k : Nat} {n : Int32} {u : Nat} (hn : n = 0 ∨ n = 1) (h : RV x k n u) : f_X6_isZero x = if k = 0 then 1 else 0 := by
  rcases h.num with ⟨rfl, rfl⟩ | ⟨D, w⟩
  · decide
  · exact w.zero hn
theorem zero_w {l : Int32} (h : LW l) (x : Int64) : f_X1_isZero x l = if x = 0 then 1 else 0 := by
  unfold f_X1_isZero f_X1_isZero_19
  rcases h with rfl | rfl | rfl | rfl <;> simp (decide := true) only [if_true, if_false]
theorem moved_ok {G : gG} {ar r0 r1 r2 : Nat} (hA : AR G ar r0 r1 r2) {a3 a4 : Int32} (h3 : LN a3) (h4 : LN a4) {x : Int64} (hx : VAL a3 x) :
    ∃ y c, f_X0_moved G ar x a3 a4 = some (y, g_up G r0 c) ∧ isR c ∧ f_X6_to x a3 a4 = some y ∧ VAL a4 y := by
  obtain ⟨c0, hc0, hr0⟩ := hA.2.1
  have same : ∀ y : Int64, (some (y, G) : Option (Int64 × gG)) = some (y, g_up G r0 c0) := fun y => by rw [g_up_id hc0]
  unfold f_X0_moved f_X6_to
  by_cases e : a3 = a4
  · rw [if_pos e, if_pos e]
    exact ⟨x, c0, same x, hr0, rfl, e ▸ hx⟩
  · rw [if_neg e, if_neg e]
    have v0 : VAL 0 0 := by unfold VAL; rw [kept_0]; decide
    have v1 : VAL 0 1 := by unfold VAL; rw [kept_0]; decide
    rcases h3.cs with w3 | rfl | rfl
    · have n3 : ¬ (4 : Int32) ≤ a3 := by rcases w3 with rfl | rfl | rfl | rfl <;> decide
      have i3 : f_X1_isReal a3 = 0 := by rcases w3 with rfl | rfl | rfl | rfl <;> decide
      rw [if_neg n3, i3, if_pos rfl]
      by_cases e4 : a4 = 0
      · rw [if_pos e4, if_pos e4, zero_w w3]
        subst e4
        by_cases z : x = 0
        · rw [if_pos z, if_pos z, if_neg (by decide)]
          exact ⟨0, c0, same 0, hr0, rfl, v0⟩
        · rw [if_neg z, if_neg z, if_pos rfl]
          exact ⟨1, c0, same 1, hr0, rfl, v1⟩
      · rw [if_neg e4, if_neg e4]
        rcases h4.cs with w4 | h4'
        · have n4 : ¬ (4 : Int32) ≤ a4 := by rcases w4 with rfl | rfl | rfl | rfl <;> decide
          have i4 : f_X1_isReal a4 = 0 := by rcases w4 with rfl | rfl | rfl | rfl <;> decide
          rw [if_neg n4, i4, if_pos rfl, low_kept w4.ln]
          exact ⟨_, c0, same _, hr0, rfl, val_kept w4.ln _⟩
        · have n4 : (4 : Int32) ≤ a4 := by rcases h4' with rfl | rfl <;> decide
          have i4 : f_X1_isReal a4 = 1 := by rcases h4' with rfl | rfl <;> decide
          rw [if_pos n4, i4, if_neg (by decide)]
          unfold f_X0_moved_49
          rw [i3, if_pos rfl, hA.f0, gb_some, gck_true (isR_o hc0 hr0)]
          obtain ⟨n, m, hm⟩ := long_cs x
          have hn : n = 0 ∨ n = 1 := by
            rcases hm with ⟨h, -⟩ | ⟨h, -⟩
            · exact Or.inl h
            · exact Or.inr h
          obtain ⟨c, f1, f2, f3⟩ := setWhole_ok hc0 hr0 hm
          have tv := f3 (g_up G r0 c) r0 (g_up_same _ _ _)
          obtain ⟨⟨r, p1, p2, -⟩, p3⟩ := ofWhole_ok hm
          have p1 : f_X6_ofWhole x 4 = some r := p1
          have p3 : f_X6_ofWhole x 5 = some (fin5 (whZ 52 1023 n m)) := p3
          rw [f1, gb_some]
          unfold f_X0_moved_76
          rw [i4, if_neg (by decide), (hA.up0 f2).f0, gb_some, gck_true (isR_o (g_up_same _ _ _) f2)]
          rcases h4' with rfl | rfl
          · rw [tv.1, gb_some, p1, gb_some, if_pos rfl, p2, gb_some]
            exact ⟨_, c, rfl, f2, rfl, (whZ_ok hn).v4⟩
          · rw [tv.2, gb_some, p3, gb_some, if_neg (by decide)]
            exact ⟨_, c, rfl, f2, rfl, (whZ_ok hn).v5⟩
    · obtain ⟨k, n, u, hn, hv⟩ := val4_of hx
      obtain ⟨a, ha1, ha2⟩ := hv.wide hn
      rw [if_pos (show (4 : Int32) ≤ 4 by decide), if_pos (show (4 : Int32) = 4 from rfl), ha1, gb_some, zero4 hn hv, show f_X1_isReal 4 = 1 by decide, if_neg (show ¬ (1 : Int32) = 0 by decide)]
      by_cases e4 : a4 = 0
      · subst e4
        unfold f_X6_to_75
        rw [if_pos rfl, if_pos rfl, ha2.zr hn]
        by_cases z : k = 0
        · rw [if_pos z, if_neg (by decide), if_neg (by decide)]
          exact ⟨0, c0, same 0, hr0, rfl, v0⟩
        · rw [if_neg z, if_pos rfl, if_pos rfl]
          exact ⟨1, c0, same 1, hr0, rfl, v1⟩
      · rw [if_neg e4]
        unfold f_X0_moved_49
        rw [show f_X1_isReal 4 = 1 by decide, if_neg (by decide), hA.f0, gb_some, gck_true (isR_o hc0 hr0)]
        obtain ⟨c, f1, f2⟩ := hv.set hn hc0 hr0
        rw [f1, gb_some]
        obtain ⟨y, q1, q2, q3⟩ := moved_76 (hA.up0 f2.real) (g_up_same _ _ _) hn f2 ha2 (a4 := a4) (by
          rcases h4 with h | h | h | h | h | h
          · exact absurd h e4
          · exact Or.inl h
          · exact Or.inr (Or.inl h)
          · exact Or.inr (Or.inr (Or.inl h))
          · exact absurd h.symm e
          · exact Or.inr (Or.inr (Or.inr (Or.inr h))))
        exact ⟨y, c, q1, f2.real, q2, q3⟩
    · obtain ⟨k, n, u, hn, hv⟩ := val5_of hx
      rw [if_pos (show (4 : Int32) ≤ 5 by decide), if_neg (show ¬ (5 : Int32) = 4 by decide), zero5 hn hv, show f_X1_isReal 5 = 1 by decide, if_neg (show ¬ (1 : Int32) = 0 by decide)]
      by_cases e4 : a4 = 0
      · subst e4
        unfold f_X6_to_75
        rw [if_pos rfl, if_pos rfl, hv.zr hn]
        by_cases z : k = 0
        · rw [if_pos z, if_neg (by decide), if_neg (by decide)]
          exact ⟨0, c0, same 0, hr0, rfl, v0⟩
        · rw [if_neg z, if_pos rfl, if_pos rfl]
          exact ⟨1, c0, same 1, hr0, rfl, v1⟩
      · rw [if_neg e4]
        unfold f_X0_moved_49
        rw [show f_X1_isReal 5 = 1 by decide, if_neg (by decide), hA.f0, gb_some, gck_true (isR_o hc0 hr0)]
        obtain ⟨c, f1, f2⟩ := hv.set hn hc0 hr0
        rw [f1, gb_some]
        obtain ⟨y, q1, q2, q3⟩ := moved_76 (hA.up0 f2.real) (g_up_same _ _ _) hn f2 hv (a4 := a4) (by
          rcases h4 with h | h | h | h | h | h
          · exact absurd h e4
          · exact Or.inl h
          · exact Or.inr (Or.inl h)
          · exact Or.inr (Or.inr (Or.inl h))
          · exact Or.inr (Or.inr (Or.inr (Or.inl h)))
          · exact absurd h.symm e)
        exact ⟨y, c, q1, f2.real, q2, q3⟩
