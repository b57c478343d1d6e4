/-! The class's quotients. -/
theorem cq_step {G : gG} {x0 x2 x3 : Nat} {x1 : Int32} {p q : Nat} (hp : p < 2 ^ 53) (hq : 2 ^ 52 ≤ q) (hq2 : q < 2 ^ 53) {n : Nat} (hn : n < 6) (fu : Nat) :
    f_X2_setFiniteQuotient_53 (fu + 1) G x0 x1 x2 x3 (lN q) (lN (p * 2 ^ (10 * n) % q)) (lN (p * 2 ^ (10 * n) / q)) 6 (nI n) = f_X2_setFiniteQuotient_53 fu G x0 x1 x2 x3 (lN q) (lN (p * 2 ^ (10 * (n + 1)) % q)) (lN (p * 2 ^ (10 * (n + 1)) / q)) 6 (nI (n + 1)) := by
  have hr : p * 2 ^ (10 * n) % q < q := Nat.mod_lt _ (by omega)
  have hs := qstep (A := p * 2 ^ (10 * n)) (c := q) (i := 10) (by omega)
  have e0 : p * 2 ^ (10 * (n + 1)) = p * 2 ^ (10 * n) * 2 ^ 10 := by
    rw [Nat.mul_assoc, ← Nat.pow_add]
    exact congrArg (fun z => p * 2 ^ z) (by omega)
  have hA : p * 2 ^ (10 * n) < 2 ^ 53 * 2 ^ 50 := by
    have h1 : (2 : Nat) ^ (10 * n) ≤ 2 ^ 50 := Nat.pow_le_pow_right (by omega) (by omega)
    calc p * 2 ^ (10 * n) ≤ p * 2 ^ 50 := Nat.mul_le_mul_left _ h1
      _ < 2 ^ 53 * 2 ^ 50 := Nat.mul_lt_mul_of_pos_right hp (by omega)
  have hsz : p * 2 ^ (10 * n) / q < 2 ^ 51 := by
    rw [Nat.div_lt_iff_lt_mul (by omega)]
    omega
  rw [e0, hs.1, hs.2]
  generalize p * 2 ^ (10 * n) % q = r at *
  generalize p * 2 ^ (10 * n) / q = s at *
  have hrq : r * 2 ^ 10 / q < 2 ^ 10 := by
    rw [Nat.div_lt_iff_lt_mul (by omega)]
    omega
  have c1 : (6 : Int32) ≤ nI n ↔ 6 ≤ n := by rw [show (6 : Int32) = nI 6 from rfl, nI_leI (by omega) (by omega)]
  have c2 : ¬ lN q = 0 := fun z => by have := (lN_z (x := q) (by omega)).mp z; omega
  rw [f_X2_setFiniteQuotient_53, ifn c1 (by omega)]
  simp only [gl, gneL_ok c2]
  rw [show (10 : Int32) = nI 10 from rfl, lshl_N _ (by omega), lshl_N _ (by omega), pk_lDiv (by omega) (by omega) (by omega), lrem_N (by omega) (by omega) (by omega), lor_N (by omega) (by omega), lor_add hrq, nI_1]
theorem cq_loop {G : gG} {x0 x2 x3 : Nat} {x1 : Int32} {p q : Nat} (hp : p < 2 ^ 53) (hq : 2 ^ 52 ≤ q) (hq2 : q < 2 ^ 53) : ∀ (i n fu : Nat), n + i = 6 →
    f_X2_setFiniteQuotient_53 (fu + i) G x0 x1 x2 x3 (lN q) (lN (p * 2 ^ (10 * n) % q)) (lN (p * 2 ^ (10 * n) / q)) 6 (nI n) = f_X2_setFiniteQuotient_53 fu G x0 x1 x2 x3 (lN q) (lN (p * 2 ^ 60 % q)) (lN (p * 2 ^ 60 / q)) 6 (nI 6) := by
  intro i
  induction i with
  | zero =>
    intro n fu h
    have h6 : n = 6 := by omega
    have h60 : 10 * n = 60 := by omega
    rw [h60, h6, Nat.add_zero]
  | succ i ih =>
    intro n fu h
    rw [← Nat.add_assoc, cq_step hp hq hq2 (by omega) (fu + i), ih (n + 1) fu (by omega)]
theorem cq_end {G : gG} {th a1 a2 : Nat} {k0 n0 n1 n2 : Int32} {s0 : Int64} {e0 : Int32} {X Y : Nat} {E1 E2 : Int} (ht : G th = some (rc k0 n0 s0 e0)) (h1 : G a1 = some (rc 1 n1 (lN X) (jI E1))) (h2 : G a2 = some (rc 1 n2 (lN Y) (jI E2))) {n : Int32} (hn : n = 0 ∨ n = 1) {N r : Nat} (hN : N < 2 ^ 64) (hr : r < 2 ^ 64) (p1 : 0 < jam N (decide (r ≠ 0))) (p2 : jam N (decide (r ≠ 0)) < 2 ^ 63) (c : Int64) (fu : Nat) :
    f_X2_setFiniteQuotient_53 (fu + 1) G th n a1 a2 c (lN r) (lN N) 6 (nI 6) = some (g_up G th (rf n (jam N (decide (r ≠ 0))) (E1 - E2 - 60))) := by
  have c3 := lN_z (x := r) hr
  have ex : jI E1 - jI E2 - (6 : Int32) * 10 = jI (E1 - E2 - 60) := by
    rw [show (6 : Int32) * 10 = jI 60 from by decide, jI_sub, jI_sub]
  have key : ∀ {s : Int32} {M : Nat}, (lN N ||| Int32.toInt64 s) = lN M → 0 < M → M < 2 ^ 63 → f_X2_setFiniteQuotient_109 G a1 a2 6 s (lN N) n th = some (g_up G th (rf n M (E1 - E2 - 60))) := by
    intro s M hM m1 m2
    unfold f_X2_setFiniteQuotient_109
    rw [rc_e h1, gb_some, rc_e h2, gb_some, ex, gck_true (rc_o ht), hM, setFinite_ok ht hn m1 m2, gb_some]
    rfl
  rw [f_X2_setFiniteQuotient_53, if_pos (by decide)]
  by_cases d : r = 0
  · have ds : decide (r ≠ 0) = false := decide_eq_false (fun z => z d)
    rw [ds] at p1 p2 ⊢
    rw [ifp c3 d]
    refine key ?_ p1 p2
    rw [show Int32.toInt64 0 = lN 0 from rfl, lor_N hN (by omega), Nat.or_zero]
    rfl
  · have ds : decide (r ≠ 0) = true := decide_eq_true d
    rw [ds] at p1 p2 ⊢
    rw [ifn c3 d]
    refine key ?_ p1 p2
    rw [show Int32.toInt64 1 = lN 1 from rfl, lor_N hN (by omega)]
    rfl
theorem fq_core {G : gG} {th a2 a3 : Nat} {n : Int32} {V1 V3 W2 W4 Q R : Int64} (h2 : g_fL G a3 1 2 = some V1) (e2 : g_lushr V1 10 = W2) (c2 : ¬ W2 = 0) (h1 : g_fL G a2 1 2 = some V3) (e4 : g_lushr V3 10 = W4) (eq : W4 / W2 = Q) (er : g_lrem W4 W2 = R) {fu : Nat} (hfu : 5000 = fu) : f_X2_setFiniteQuotient G th n a2 a3 = f_X2_setFiniteQuotient_53 fu G th n a2 a3 W2 R Q 6 0 := by
  unfold f_X2_setFiniteQuotient
  rw [hfu, h2, gb_some, e2]
  simp only [gl]
  rw [if_neg c2, h1, gb_some, e4, gneL_ok c2, gneL_ok c2, eq, er]
theorem fquo_eq {G : gG} {th a1 a2 : Nat} {n1 n2 : Int32} {X Y : Nat} {E1 E2 : Int} (h1 : G a1 = some (rc 1 n1 (lN X) (jI E1))) (h2 : G a2 = some (rc 1 n2 (lN Y) (jI E2))) {n : Int32} {p q : Nat} (eX : g_lushr (lN X) 10 = lN p) (eY : g_lushr (lN Y) 10 = lN q) (hp : p < 2 ^ 53) (hq : 2 ^ 52 ≤ q) (hq2 : q < 2 ^ 53) :
    ∃ fu, f_X2_setFiniteQuotient G th n a1 a2 = f_X2_setFiniteQuotient_53 (fu + 1) G th n a1 a2 (lN q) (lN (p * 2 ^ 60 % q)) (lN (p * 2 ^ 60 / q)) 6 (nI 6) := by
  have c2 : ¬ lN q = 0 := fun z => by have := (lN_z (x := q) (by omega)).mp z; omega
  obtain ⟨fu, hfu⟩ : ∃ fu : Nat, 5000 = fu + 1 + 6 := ⟨4993, rfl⟩
  have st := cq_loop (G := G) (x0 := th) (x1 := n) (x2 := a1) (x3 := a2) hp hq hq2 6 0 (fu + 1) (by omega)
  rw [Nat.mul_zero, Nat.pow_zero, Nat.mul_one, nI_0] at st
  exact ⟨fu, (fq_core (rc_s h2) eY c2 (rc_s h1) eX (pk_lDiv (by omega) (by omega) (by omega)) (lrem_N (by omega) (by omega) (by omega)) hfu).trans st⟩
theorem fquo_ok {G : gG} {th a1 a2 : Nat} {k0 n0 n1 n2 : Int32} {s0 : Int64} {e0 : Int32} {X Y : Nat} {E1 E2 : Int} (ht : G th = some (rc k0 n0 s0 e0)) (h1 : G a1 = some (rc 1 n1 (lN X) (jI E1))) (h2 : G a2 = some (rc 1 n2 (lN Y) (jI E2))) {n : Int32} (hn : n = 0 ∨ n = 1) (hX1 : 2 ^ 62 ≤ X) (hX2 : X < 2 ^ 63) (hX : X % 2 ^ 10 = 0) (hY1 : 2 ^ 62 ≤ Y) (hY2 : Y < 2 ^ 63) (hY : Y % 2 ^ 10 = 0) (b1 : -1200 ≤ E1 ∧ E1 ≤ 2000) (b2 : -1200 ≤ E2 ∧ E2 ≤ 2000) :
    ∃ c, f_X2_setFiniteQuotient G th n a1 a2 = some (g_up G th c) ∧ isR c ∧ TV c (some (n, quoE 23 127 (uV X E1) (uV Y E2))) (some (n, quoE 52 1023 (uV X E1) (uV Y E2))) := by
  obtain ⟨q4, p1, p2⟩ := cquo 23 127 (by omega) hX1 hX2 hX hY1 hY2 hY b1 b2
  obtain ⟨q5, -, -⟩ := cquo 52 1023 (by omega) hX1 hX2 hX hY1 hY2 hY b1 b2
  rw [← q4, ← q5]
  have eX : g_lushr (lN X) 10 = lN (X / 2 ^ 10) := lushr_N (by omega) (k := 10) (by omega)
  have eY : g_lushr (lN Y) 10 = lN (Y / 2 ^ 10) := lushr_N (by omega) (k := 10) (by omega)
  have a2' : X / 2 ^ 10 < 2 ^ 53 := by omega
  have a3 : 2 ^ 52 ≤ Y / 2 ^ 10 := by omega
  have a4 : Y / 2 ^ 10 < 2 ^ 53 := by omega
  clear q4 q5
  generalize X / 2 ^ 10 = p at *
  generalize Y / 2 ^ 10 = q at *
  have hlt : p * 2 ^ 60 / q < 2 ^ 62 := by
    rw [Nat.div_lt_iff_lt_mul (by omega)]
    omega
  have hrr : p * 2 ^ 60 % q < q := Nat.mod_lt _ (by omega)
  obtain ⟨fu, hf⟩ := fquo_eq (th := th) (n := n) h1 h2 eX eY a2' a3 a4
  rw [hf]
  clear hf
  generalize p * 2 ^ 60 / q = N at *
  generalize p * 2 ^ 60 % q = r at *
  exact ⟨_, cq_end ht h1 h2 hn (by omega) (by omega) p1 p2 _ _, ⟨_, _, _, _, rfl⟩, TV_of (tv_fin p1 p2 (by omega))⟩
def quoZ (w b : Nat) (k1 : Nat) (n1 : Int32) (u1 : Nat) (k2 : Nat) (n2 : Int32) (u2 : Nat) : Option (Int32 × Nat) :=
  if k1 = 3 ∨ k2 = 3 ∨ (k1 = 0 ∧ k2 = 0) ∨ (k1 = 2 ∧ k2 = 2) then none
  else if k1 = 2 ∨ k2 = 0 then some (sgnP n1 n2, infB w b) else if k1 = 0 ∨ k2 = 2 then some (sgnP n1 n2, 0)
  else some (sgnP n1 n2, quoE w b u1 u2)
theorem setQuotient_16 {G : gG} {th a1 a2 : Nat} {K1 N1 K2 N2 : Int32} {S1 S2 : Int64} {X1 X2 : Int32} (h1 : G a1 = some (rc K1 N1 S1 X1)) (h2 : G a2 = some (rc K2 N2 S2 X2)) : f_X2_setQuotient G th a1 a2 = f_X2_setQuotient_16 G th a1 a2 (sgnP N1 N2) := by
  unfold f_X2_setQuotient sgnP
  rw [rc_n h1, gb_some, rc_n h2, gb_some]
  by_cases c : N1 = N2
  · rw [if_pos c, if_pos c]
  · rw [if_neg c, if_neg c]
theorem setQuotient_ok {G : gG} {th a1 a2 : Nat} {c0 c1 c2 : gC} (ht : G th = some c0) (hr : isR c0) (h1 : G a1 = some c1) (h2 : G a2 = some c2) {k1 k2 : Nat} {n1 n2 : Int32} {u1 u2 : Nat} (v1 : CV c1 k1 n1 u1) (v2 : CV c2 k2 n2 u2) :
    ∃ c, f_X2_setQuotient G th a1 a2 = some (g_up G th c) ∧ isR c ∧ TV c (quoZ 23 127 k1 n1 u1 k2 n2 u2) (quoZ 52 1023 k1 n1 u1 k2 n2 u2) := by
  obtain ⟨k0, n0, s0, e0, rfl⟩ := hr
  have nan : ∃ c, f_X2_setQuotient_64 G th = some (g_up G th c) ∧ isR c ∧ TV c none none := by
    refine ⟨rc 3 0 s0 e0, ?_, ⟨_, _, _, _, rfl⟩, TV_nan⟩
    unfold f_X2_setQuotient_64
    rw [gck_true (rc_o ht), setKind_ok ht 3 (Or.inl rfl), gb_some]
  have k112 : f_X2_setQuotient_112 G th (sgnP n1 n2) = some (g_up G th (rc 2 (sgnP n1 n2) s0 e0)) := by
    unfold f_X2_setQuotient_112
    rw [gck_true (rc_o ht), setKind_ok ht 2 (sgnP_b n1 n2), gb_some]
  have k88 : f_X2_setQuotient_88 G th (sgnP n1 n2) = some (g_up G th (rc 0 (sgnP n1 n2) s0 e0)) := by
    unfold f_X2_setQuotient_88
    rw [gck_true (rc_o ht), setKind_ok ht 0 (sgnP_b n1 n2), gb_some]
  rcases v1 with ⟨rfl, rfl, s1, x1, rfl⟩ | ⟨rfl, X, E1, rfl, w1, w2, w3, w4, w5, rfl⟩ | ⟨rfl, s1, x1, rfl⟩ | ⟨rfl, n1', s1, x1, rfl⟩
  · rcases v2 with ⟨rfl, rfl, s2, x2, rfl⟩ | ⟨rfl, Y, E2, rfl, z1, z2, z3, z4, z5, rfl⟩ | ⟨rfl, s2, x2, rfl⟩ | ⟨rfl, n2', s2, x2, rfl⟩
    all_goals rw [setQuotient_16 h1 h2]
    all_goals simp (decide := true) only [f_X2_setQuotient_16, f_X2_setQuotient_33, f_X2_setQuotient_38, f_X2_setQuotient_73, rc_k h1, rc_k h2, gb_some, if_true, if_false, quoZ]
    · exact nan
    · exact ⟨_, k88, ⟨_, _, _, _, rfl⟩, TV_zero⟩
    · exact ⟨_, k88, ⟨_, _, _, _, rfl⟩, TV_zero⟩
    · exact nan
  · rcases v2 with ⟨rfl, rfl, s2, x2, rfl⟩ | ⟨rfl, Y, E2, rfl, z1, z2, z3, z4, z5, rfl⟩ | ⟨rfl, s2, x2, rfl⟩ | ⟨rfl, n2', s2, x2, rfl⟩
    all_goals rw [setQuotient_16 h1 h2]
    all_goals simp (decide := true) only [f_X2_setQuotient_16, f_X2_setQuotient_33, f_X2_setQuotient_38, f_X2_setQuotient_73, rc_k h1, rc_k h2, gb_some, if_true, if_false, quoZ]
    · exact ⟨_, k112, ⟨_, _, _, _, rfl⟩, TV_inf⟩
    · rw [gck_true (rc_o ht)]
      obtain ⟨c, q1, q2, q3⟩ := fquo_ok ht h1 h2 (sgnP_b n1 n2) w1 w2 w3 z1 z2 z3 ⟨w4, w5⟩ ⟨z4, z5⟩
      rw [q1, gb_some]
      exact ⟨c, rfl, q2, q3⟩
    · exact ⟨_, k88, ⟨_, _, _, _, rfl⟩, TV_zero⟩
    · exact nan
  · rcases v2 with ⟨rfl, rfl, s2, x2, rfl⟩ | ⟨rfl, Y, E2, rfl, z1, z2, z3, z4, z5, rfl⟩ | ⟨rfl, s2, x2, rfl⟩ | ⟨rfl, n2', s2, x2, rfl⟩
    all_goals rw [setQuotient_16 h1 h2]
    all_goals simp (decide := true) only [f_X2_setQuotient_16, f_X2_setQuotient_33, f_X2_setQuotient_38, f_X2_setQuotient_73, rc_k h1, rc_k h2, gb_some, if_true, if_false, quoZ]
    · exact ⟨_, k112, ⟨_, _, _, _, rfl⟩, TV_inf⟩
    · exact ⟨_, k112, ⟨_, _, _, _, rfl⟩, TV_inf⟩
    · exact nan
    · exact nan
  · have hz : ∀ w b, quoZ w b 3 n1 u1 k2 n2 u2 = none := fun w b => by unfold quoZ; rw [if_pos (Or.inl rfl)]
    rw [hz, hz]
    obtain ⟨K2, N2, S2, X2, rfl⟩ := v2.real
    rw [setQuotient_16 h1 h2]
    simp (decide := true) only [f_X2_setQuotient_16, f_X2_setQuotient_33, f_X2_setQuotient_38, rc_k h1, gb_some, if_true, if_false]
    exact nan
