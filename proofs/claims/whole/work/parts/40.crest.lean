/-! The class's rest. -/
def restK (k1 u1 k2 u2 : Nat) : Nat := if k1 = 3 ∨ k2 = 3 ∨ k1 = 2 ∨ k2 = 0 then 3 else if k1 = 0 ∨ k2 = 2 then k1 else if u1 % u2 = 0 then 0 else 1
def restU (k1 u1 k2 u2 : Nat) : Nat := if k1 = 1 ∧ k2 = 1 then u1 % u2 else u1
theorem bl_mono {a b : Nat} (h : a ≤ b) : bl a ≤ bl b := bl_le_of (Nat.lt_of_le_of_lt h (bl_lt b))
theorem jI_min {r : Int} (h : r < 2 ^ 30) (h0 : 0 < r) : f_J9_min_7cf53 (jI r) 10 = nI (min r.toNat 10) := by
  unfold f_J9_min_7cf53
  have c : (10 : Int32) < jI r ↔ 10 < r := jI_lt (a := 10) (b := r) (by omega) (by omega)
  by_cases d : 10 < r
  · rw [ifp c d, Nat.min_eq_right (by omega)]; rfl
  · rw [ifn c d, Nat.min_eq_left (by omega), ← jI_nI, Int.toNat_of_nonneg (by omega)]
theorem cr_core {G : gG} {x0 x1 x2 : Nat} {C R R2 V : Int64} {x7 y7 m : Int32} {fu : Nat} (c1 : ¬ x7 ≤ 0) (c2 : ¬ R = 0) (c3 : ¬ C = 0) (hm : f_J9_min_7cf53 x7 10 = m) (hs : g_lshl R m = R2) (hr : g_lrem R2 C = V) (hy : x7 + (-10) = y7) :
    f_X2_setFiniteRest_43 (fu + 1) G x0 x1 x2 C R x7 = f_X2_setFiniteRest_43 fu G x0 x1 x2 C V y7 := by
  rw [f_X2_setFiniteRest_43, if_neg c1, if_neg c2, gneL_ok c3]
  simp only [gl]
  rw [hm, hs, hr, hy]
theorem cr_end {G : gG} {x0 x1 x2 : Nat} {C R : Int64} {x7 : Int32} {fu : Nat} (c : x7 ≤ 0 ∨ R = 0) : f_X2_setFiniteRest_43 (fu + 1) G x0 x1 x2 C R x7 = f_X2_setFiniteRest_75 G x0 x1 x2 R := by
  rw [f_X2_setFiniteRest_43]
  by_cases c1 : x7 ≤ 0
  · rw [if_pos c1]
  · rw [if_neg c1, if_pos (c.resolve_left c1)]
theorem cr_loop {G : gG} {x0 x1 x2 : Nat} {q : Nat} (hq : 0 < q) (hq2 : q < 2 ^ 53) : ∀ (fu A : Nat) (r : Int), r ≤ 10 * fu → -100 ≤ r → r < 2 ^ 30 →
    f_X2_setFiniteRest_43 (fu + 1) G x0 x1 x2 (lN q) (lN (A % q)) (jI r) = f_X2_setFiniteRest_75 G x0 x1 x2 (lN (A * 2 ^ r.toNat % q)) := by
  intro fu
  induction fu with
  | zero =>
    intro A r h1 h2 h3
    have c : jI r ≤ 0 ↔ r ≤ 0 := jI_le (b := 0) (by omega) (by omega)
    rw [cr_end (Or.inl (c.mpr (by omega))), show r.toNat = 0 by omega, Nat.pow_zero, Nat.mul_one]
  | succ fu ih =>
    intro A r h1 h2 h3
    have c : jI r ≤ 0 ↔ r ≤ 0 := jI_le (b := 0) (by omega) (by omega)
    have hlt : A % q < q := Nat.mod_lt _ hq
    by_cases d1 : r ≤ 0
    · rw [cr_end (Or.inl (c.mpr d1)), show r.toNat = 0 by omega, Nat.pow_zero, Nat.mul_one]
    · by_cases d2 : A % q = 0
      · have e := (qstep (A := A) (c := q) (i := r.toNat) hq).2
        rw [d2, Nat.zero_mul, Nat.zero_mod] at e
        rw [cr_end (Or.inr (by rw [d2]; rfl)), e, d2]
      · have e := (qstep (A := A) (c := q) (i := min r.toNat 10) hq).2
        have hz := lN_z (x := A % q) (by omega)
        have hzq := lN_z (x := q) (by omega)
        have hp : (2 : Nat) ^ min r.toNat 10 ≤ 2 ^ 10 := Nat.pow_le_pow_right (by omega) (by omega)
        have hp2 := Nat.mul_le_mul (Nat.le_of_lt hlt) hp
        have e2 : jI r + (-10) = jI (r - 10) := by
          rw [show (-10 : Int32) = jI (-10) from rfl, jI_add]
          exact congrArg jI (by omega)
        rw [cr_core (fun z => d1 (c.mp z)) (fun z => d2 (hz.mp z)) (fun z => by have := hzq.mp z; omega) (jI_min h3 (by omega)) (lshl_N _ (by omega)) (lrem_N (by omega) hq (by omega)) e2, ← e]
        rw [ih (A * 2 ^ min r.toNat 10) (r - 10) (by omega) (by omega) (by omega), Nat.mul_assoc, ← Nat.pow_add]
        exact congrArg (fun z => f_X2_setFiniteRest_75 G x0 x1 x2 (lN (A * 2 ^ z % q))) (by omega)
theorem fr_core {G : gG} {th a1 a2 : Nat} {V1 V3 W2 W4 R : Int64} {E1 E2 E : Int32} (h2 : g_fL G a2 1 2 = some V1) (e2 : g_lushr V1 10 = W2) (c2 : ¬ W2 = 0) (h1 : g_fL G a1 1 2 = some V3) (e4 : g_lushr V3 10 = W4) (er : g_lrem W4 W2 = R) (x1 : g_fI G a1 1 3 = some E1) (x2 : g_fI G a2 1 3 = some E2) (he : E1 - E2 = E) {fu : Nat} (hfu : 5000 = fu) : f_X2_setFiniteRest G th a1 a2 = f_X2_setFiniteRest_43 fu G th a1 a2 W2 R E := by
  unfold f_X2_setFiniteRest
  rw [hfu, h2, gb_some, e2]
  simp only [gl]
  rw [if_neg c2, h1, gb_some, e4, gneL_ok c2, er, x1, gb_some, x2, gb_some, he]
theorem frest_ok {G : gG} {th a1 a2 : Nat} {k0 n0 n1 n2 : Int32} {s0 : Int64} {e0 : Int32} {X Y : Nat} {E1 E2 : Int} (ht : G th = some (rc k0 n0 s0 e0)) (h1 : G a1 = some (rc 1 n1 (lN X) (jI E1))) (h2 : G a2 = some (rc 1 n2 (lN Y) (jI E2))) (hn1 : n1 = 0 ∨ n1 = 1) (hX1 : 2 ^ 62 ≤ X) (hX2 : X < 2 ^ 63) (hX : X % 2 ^ 10 = 0) (hY1 : 2 ^ 62 ≤ Y) (hY2 : Y < 2 ^ 63) (hY : Y % 2 ^ 10 = 0) (b1 : -1200 ≤ E1 ∧ E1 ≤ 2000) (b2 : -1200 ≤ E2 ∧ E2 ≤ 2000) (hE : E2 ≤ E1) {u : Nat} (hu : uV X E1 % uV Y E2 = u) (hdv : 2 ^ 126 ∣ u) :
    ∃ c, f_X2_setFiniteRest G th a1 a2 = some (g_up G th c) ∧ CV c (if u = 0 then 0 else 1) n1 u := by
  have eX : g_lushr (lN X) 10 = lN (X / 2 ^ 10) := lushr_N (by omega) (k := 10) (by omega)
  have eY : g_lushr (lN Y) 10 = lN (Y / 2 ^ 10) := lushr_N (by omega) (k := 10) (by omega)
  have hu1 : uV X E1 = X / 2 ^ 10 * 2 ^ (E1 - E2).toNat * 2 ^ (10 + (E2 + 1200).toNat) := by
    unfold uV
    rw [Nat.mul_assoc, ← Nat.pow_add, show (E1 - E2).toNat + (10 + (E2 + 1200).toNat) = 10 + (E1 + 1200).toNat by omega, Nat.pow_add, ← Nat.mul_assoc, show X / 2 ^ 10 * 2 ^ 10 = X by omega]
  have hu2 : uV Y E2 = Y / 2 ^ 10 * 2 ^ (10 + (E2 + 1200).toNat) := by
    unfold uV
    rw [Nat.pow_add, ← Nat.mul_assoc, show Y / 2 ^ 10 * 2 ^ 10 = Y by omega]
  rw [hu1, hu2, Nat.mul_mod_mul_right] at hu
  have a2' : X / 2 ^ 10 < 2 ^ 53 := by omega
  have a3 : 2 ^ 52 ≤ Y / 2 ^ 10 := by omega
  have a4 : Y / 2 ^ 10 < 2 ^ 53 := by omega
  clear hu1 hu2
  generalize X / 2 ^ 10 = p at *
  generalize Y / 2 ^ 10 = q at *
  have c2 : ¬ lN q = 0 := fun z => by have := (lN_z (x := q) (by omega)).mp z; omega
  obtain ⟨fu, hfu, hfu2⟩ : ∃ fu : Nat, 5000 = fu + 1 ∧ 4999 ≤ fu := ⟨4999, rfl, by omega⟩
  have st := cr_loop (G := G) (x0 := th) (x1 := a1) (x2 := a2) (q := q) (by omega) a4 fu p (E1 - E2) (by omega) (by omega) (by omega)
  rw [fr_core (rc_s h2) eY c2 (rc_s h1) eX (lrem_N (by omega) (by omega) (by omega)) (rc_e h1) (rc_e h2) (jI_sub E1 E2) hfu, st]
  clear st
  have hm : p * 2 ^ (E1 - E2).toNat % q < q := Nat.mod_lt _ (by omega)
  generalize p * 2 ^ (E1 - E2).toNat % q = m at *
  unfold f_X2_setFiniteRest_75
  have hz := lN_z (x := m) (by omega)
  by_cases d : m = 0
  · rw [ifp hz d, rc_n h1, gb_some, gck_true (rc_o ht), setKind_ok ht 0 hn1, gb_some]
    rw [d, Nat.zero_mul] at hu
    rw [if_pos hu.symm]
    exact ⟨_, rfl, Or.inl ⟨rfl, hu.symm, _, _, rfl⟩⟩
  · have hm0 : 0 < m := by omega
    have hb := bl_le_of (show m < 2 ^ 53 by omega)
    have hbp := bl_pos hm0
    have hup : 0 < u := by rw [← hu]; exact Nat.mul_pos hm0 (Nat.two_pow_pos _)
    have hlo : 126 < bl m + (10 + (E2 + 1200).toNat) := by
      have h3 := Nat.le_of_dvd hup hdv
      have h4 : u < 2 ^ (bl m + (10 + (E2 + 1200).toNat)) := by
        rw [← hu, Nat.pow_add 2 (bl m)]
        exact Nat.mul_lt_mul_of_pos_right (bl_lt m) (Nat.two_pow_pos _)
      exact (Nat.pow_lt_pow_iff_right (by omega)).mp (Nat.lt_of_le_of_lt h3 h4)
    obtain ⟨n1', n2'⟩ := rf_norm hm0 (by omega)
    have e2 : jI E2 + 10 = jI (E2 + 10) := by rw [show (10 : Int32) = jI 10 from rfl, jI_add]
    rw [ifn hz d, rc_n h1, gb_some, rc_e h2, gb_some, gck_true (rc_o ht), e2, setFinite_ok ht hn1 hm0 (by omega), gb_some, if_neg (by omega)]
    refine ⟨_, rfl, Or.inr (Or.inl ⟨rfl, _, _, rfl, n1', n2', ?_, by omega, by omega, ?_⟩)⟩
    · apply Nat.mod_eq_zero_of_dvd
      exact Nat.dvd_trans (Nat.pow_dvd_pow 2 (by omega)) (Nat.dvd_mul_left _ _)
    · rw [← hu]
      rw [uV_shl (by omega)]
      unfold uV
      exact congrArg (fun z => m * 2 ^ z) (by omega)
theorem CV.sg {c : gC} {k : Nat} {n : Int32} {u : Nat} (h : CV c k n u) (h3 : ¬ k = 3) : ∃ s x, c = rc (nI k) n s x := by
  rcases h with ⟨rfl, -, s, x, rfl⟩ | ⟨rfl, X, E, rfl, -⟩ | ⟨rfl, s, x, rfl⟩ | ⟨rfl, -⟩
  · exact ⟨s, x, rfl⟩
  · exact ⟨_, _, rfl⟩
  · exact ⟨s, x, rfl⟩
  · exact absurd rfl h3
theorem CV.kd {c : gC} {k : Nat} {n : Int32} {u : Nat} (h : CV c k n u) : ∃ n' s x, c = rc (nI k) n' s x ∧ k ≤ 3 := by
  rcases h with ⟨rfl, -, s, x, rfl⟩ | ⟨rfl, X, E, rfl, -⟩ | ⟨rfl, s, x, rfl⟩ | ⟨rfl, n', s, x, rfl⟩
  · exact ⟨n, s, x, rfl, by omega⟩
  · exact ⟨_, _, _, rfl, by omega⟩
  · exact ⟨n, s, x, rfl, by omega⟩
  · exact ⟨n', s, x, rfl, by omega⟩
theorem setRest_ok {G : gG} {th a1 a2 : Nat} {c0 c1 c2 : gC} (ht : G th = some c0) (hr : isR c0) (h1 : G a1 = some c1) (h2 : G a2 = some c2) (d1 : ¬ a1 = th) {k1 k2 : Nat} {n1 n2 : Int32} {u1 u2 : Nat} (hn1 : n1 = 0 ∨ n1 = 1) (v1 : CV c1 k1 n1 u1) (v2 : CV c2 k2 n2 u2) (w1 : k1 = 1 → 2 ^ 126 ∣ u1) (w2 : k2 = 1 → 2 ^ 126 ∣ u2) :
    ∃ c, f_X2_setRest G th a1 a2 = some (g_up G th c) ∧ CV c (restK k1 u1 k2 u2) n1 (restU k1 u1 k2 u2) := by
  obtain ⟨k0, n0, s0, e0, rfl⟩ := hr
  obtain ⟨m1, s1, x1, hc1, l1⟩ := v1.kd
  obtain ⟨m2, s2, x2, hc2, l2⟩ := v2.kd
  have K1 := rc_k (hc1 ▸ h1)
  have K2 := rc_k (hc2 ▸ h2)
  have cc : ∀ {k j : Nat}, k ≤ 3 → j ≤ 3 → (nI k = nI j ↔ k = j) := fun a b => nI_eq (by omega) (by omega)
  have nan : f_X2_setRest_41 G th = some (g_up G th (rc 3 0 s0 e0)) := by
    unfold f_X2_setRest_41
    rw [gck_true (rc_o ht), setKind_ok ht 3 (Or.inl rfl), gb_some]
  have nanV : ∀ u, CV (rc 3 0 s0 e0) 3 n1 u := fun u => Or.inr (Or.inr (Or.inr ⟨rfl, 0, s0, e0, rfl⟩))
  unfold f_X2_setRest
  rw [K1, gb_some, show (3 : Int32) = nI 3 from rfl]
  by_cases t1 : k1 = 3
  · refine ⟨rc 3 0 s0 e0, ?_, ?_⟩
    · rw [ifp (cc l1 (by omega)) t1]
      unfold f_X2_setRest_16 f_X2_setRest_21
      rw [if_neg (by decide)]
      exact nan
    · unfold restK
      rw [if_pos (Or.inl t1)]
      exact nanV _
  · rw [ifn (cc l1 (by omega)) t1, K2, gb_some]
    by_cases t2 : k2 = 3
    · refine ⟨rc 3 0 s0 e0, ?_, ?_⟩
      · rw [ifp (cc l2 (by omega)) t2]
        unfold f_X2_setRest_16 f_X2_setRest_21
        rw [if_neg (by decide)]
        exact nan
      · unfold restK
        rw [if_pos (Or.inr (Or.inl t2))]
        exact nanV _
    · rw [ifn (cc l2 (by omega)) t2]
      unfold f_X2_setRest_21
      rw [if_pos rfl, K1, gb_some, show (2 : Int32) = nI 2 from rfl, show (0 : Int32) = nI 0 from rfl]
      by_cases t3 : k1 = 2
      · refine ⟨rc 3 0 s0 e0, ?_, ?_⟩
        · rw [ifp (cc l1 (by omega)) t3]
          exact nan
        · unfold restK
          rw [if_pos (Or.inr (Or.inr (Or.inl t3)))]
          exact nanV _
      · rw [ifn (cc l1 (by omega)) t3, K2, gb_some]
        by_cases t4 : k2 = 0
        · refine ⟨rc 3 0 s0 e0, ?_, ?_⟩
          · rw [ifp (cc l2 (by omega)) t4]
            exact nan
          · unfold restK
            rw [if_pos (Or.inr (Or.inr (Or.inr t4)))]
            exact nanV _
        · rw [ifn (cc l2 (by omega)) t4, gb_some]
          obtain ⟨sS, sX, hs1⟩ := v1.sg t1
          have as : f_X2_setRest_76 G th a1 = some (g_up G th c1) := by
            unfold f_X2_setRest_76
            rw [gck_true (rc_o ht), hs1, setAs_ok ht (hs1 ▸ h1) d1 hn1, gb_some]
          have rk : ∀ (h : k1 = 0 ∨ k2 = 2), restK k1 u1 k2 u2 = k1 ∧ restU k1 u1 k2 u2 = u1 := by
            intro h
            unfold restK restU
            rw [if_neg (by omega), if_pos h, if_neg (by omega)]
            exact ⟨rfl, rfl⟩
          by_cases t5 : k1 = 0
          · rw [ifp (cc l1 (by omega)) t5, (rk (Or.inl t5)).1, (rk (Or.inl t5)).2]
            exact ⟨_, as, v1⟩
          · rw [ifn (cc l1 (by omega)) t5, gb_some]
            by_cases t6 : k2 = 2
            · rw [ifp (cc l2 (by omega)) t6, (rk (Or.inr t6)).1, (rk (Or.inr t6)).2]
              exact ⟨_, as, v1⟩
            · rw [ifn (cc l2 (by omega)) t6]
              have q1 : k1 = 1 := by omega
              have q2 : k2 = 1 := by omega
              have hk : restK k1 u1 k2 u2 = if u1 % u2 = 0 then 0 else 1 := by
                unfold restK
                rw [if_neg (by omega), if_neg (by omega)]
              have hU : restU k1 u1 k2 u2 = u1 % u2 := by
                unfold restU
                rw [if_pos ⟨q1, q2⟩]
              have w1' := w1 q1
              have w2' := w2 q2
              rw [hk, hU]
              have v1' := v1
              rcases v1 with ⟨z, -⟩ | ⟨-, X, E1, rfl, p1, p2, p3, p4, p5, p6⟩ | ⟨z, -⟩ | ⟨z, -⟩
              · omega
              · rcases v2 with ⟨z, -⟩ | ⟨-, Y, E2, rfl, r1, r2, r3, r4, r5, r6⟩ | ⟨z, -⟩ | ⟨z, -⟩
                · omega
                · rw [rc_e h1, gb_some, rc_e h2, gb_some]
                  have cE : jI E2 ≤ jI E1 ↔ E2 ≤ E1 := jI_le (by omega) (by omega)
                  by_cases t7 : E2 ≤ E1
                  · rw [ifp cE t7, gck_true (rc_o ht)]
                    have hdv : 2 ^ 126 ∣ u1 % u2 := (Nat.dvd_mod_iff w2').mpr w1'
                    obtain ⟨c, f1, f2⟩ := frest_ok ht h1 h2 hn1 p1 p2 p3 r1 r2 r3 ⟨p4, p5⟩ ⟨r4, r5⟩ t7 (u := u1 % u2) (by rw [p6, r6]) hdv
                    rw [f1, gb_some]
                    exact ⟨c, rfl, f2⟩
                  · rw [ifn cE t7]
                    have hlt : u1 < u2 := by
                      rw [← p6, ← r6]
                      unfold uV
                      have e1 : (2 : Nat) ^ (E1 + 1200).toNat * 2 ≤ 2 ^ (E2 + 1200).toNat := by
                        rw [← Nat.pow_succ]
                        exact Nat.pow_le_pow_right (by omega) (by omega)
                      calc X * 2 ^ (E1 + 1200).toNat < 2 ^ 63 * 2 ^ (E1 + 1200).toNat := Nat.mul_lt_mul_of_pos_right p2 (Nat.two_pow_pos _)
                        _ = 2 ^ 62 * (2 ^ (E1 + 1200).toNat * 2) := by rw [Nat.mul_comm (2 ^ (E1 + 1200).toNat) 2, ← Nat.mul_assoc]
                        _ ≤ 2 ^ 62 * 2 ^ (E2 + 1200).toNat := Nat.mul_le_mul_left _ e1
                        _ ≤ Y * 2 ^ (E2 + 1200).toNat := Nat.mul_le_mul_right _ r1
                    have hup : 0 < u1 := by rw [← p6]; exact uV_pos (by omega)
                    rw [Nat.mod_eq_of_lt hlt, if_neg (by omega), ← q1]
                    exact ⟨_, as, v1'⟩
                · omega
                · omega
              · omega
              · omega
