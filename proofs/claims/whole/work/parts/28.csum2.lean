/-! The class's sums, of all kinds. Kinds: 0 zero, 1 finite, 2 infinite, 3 no number; u: the size in units of 2 to the -1200. -/
def CV (c : gC) (k : Nat) (n : Int32) (u : Nat) : Prop :=
  (k = 0 ∧ u = 0 ∧ ∃ s x, c = rc 0 n s x) ∨
  (k = 1 ∧ ∃ X E, c = rc 1 n (lN X) (jI E) ∧ 2 ^ 62 ≤ X ∧ X < 2 ^ 63 ∧ X % 2 ^ 10 = 0 ∧ -1200 ≤ E ∧ E ≤ 2000 ∧ uV X E = u) ∨
  (k = 2 ∧ ∃ s x, c = rc 2 n s x) ∨ (k = 3 ∧ ∃ n' s x, c = rc 3 n' s x)
def isR (c : gC) : Prop := ∃ k n s e, c = rc k n s e
theorem CV.real {c : gC} {k : Nat} {n : Int32} {u : Nat} (h : CV c k n u) : isR c := by
  rcases h with ⟨-, -, s, x, h⟩ | ⟨-, X, E, h, -⟩ | ⟨-, s, x, h⟩ | ⟨-, n', s, x, h⟩
  · exact ⟨_, _, _, _, h⟩
  · exact ⟨_, _, _, _, h⟩
  · exact ⟨_, _, _, _, h⟩
  · exact ⟨_, _, _, _, h⟩
/-- an answer: no number, or a sign and a size in bits -/
def fin4 (z : Option (Int32 × Nat)) : Int64 := match z with
  | none => 2143289344
  | some q => sgF q.1 q.2
def fin5 (z : Option (Int32 × Nat)) : Int64 := match z with
  | none => 9221120237041090560
  | some q => sgD q.1 q.2
def TV (c : gC) (z4 z5 : Option (Int32 × Nat)) : Prop := ∀ (G : gG) (a : Nat), G a = some c → f_X2_toValue G a 4 = some (fin4 z4) ∧ f_X2_toValue G a 5 = some (fin5 z5)
theorem TV_nan {n : Int32} {s : Int64} {x : Int32} : TV (rc 3 n s x) none none := fun G a h => ⟨toValue_n h 4, toValue_n h 5⟩
theorem TV_of {c : gC} {n : Int32} {B4 B5 : Nat} (h : tv c n B4 B5) : TV c (some (n, B4)) (some (n, B5)) := h
theorem TV_zero {n : Int32} {s : Int64} {x : Int32} : TV (rc 0 n s x) (some (n, 0)) (some (n, 0)) := TV_of tv_zero
theorem TV_inf {n : Int32} {s : Int64} {x : Int32} : TV (rc 2 n s x) (some (n, 255 * 2 ^ 23)) (some (n, 2047 * 2 ^ 52)) := TV_of tv_inf
theorem tv_cell {n : Int32} {X : Nat} {E : Int} (h1 : 2 ^ 62 ≤ X) (h2 : X < 2 ^ 63) (hE : -1200 ≤ E) (hE2 : E ≤ 3000) : TV (rc 1 n (lN X) (jI E)) (some (n, encU 23 127 (uV X E))) (some (n, encU 52 1023 (uV X E))) := by
  intro G a h
  have p : 0 < uV X E := uV_pos (by omega)
  have e4 := toValue_fin4 h h1 h2 (by omega)
  have e5 := toValue_fin5 h h1 h2 (by omega)
  rw [← enc_u 23 127 (by omega) hE] at e4
  rw [← enc_u 52 1023 (by omega) hE] at e5
  unfold encU
  rw [if_neg (by omega), if_neg (by omega)]
  exact ⟨e4, e5⟩
def infB (w b : Nat) : Nat := (2 * b + 1) * 2 ^ w
def sumZ (w b : Nat) (k1 : Nat) (n1 : Int32) (u1 : Nat) (k2 : Nat) (n2 : Int32) (u2 : Nat) : Option (Int32 × Nat) :=
  if k1 = 3 ∨ k2 = 3 ∨ (k1 = 2 ∧ k2 = 2 ∧ ¬ n1 = n2) then none
  else if k1 = 2 then some (n1, infB w b) else if k2 = 2 then some (n2, infB w b)
  else if k1 = 0 ∧ k2 = 0 then some (if n1 = n2 then n1 else 0, 0)
  else some (sumN n1 u1 n2 u2, encU w b (sumU n1 u1 n2 u2))
theorem setAs_ok {G : gG} {th a1 : Nat} {k0 n0 : Int32} {s0 : Int64} {e0 : Int32} {k n : Int32} {s : Int64} {x : Int32} (ht : G th = some (rc k0 n0 s0 e0)) (h1 : G a1 = some (rc k n s x)) (hne : ¬ a1 = th) (hn : n = 0 ∨ n = 1) : f_X2_setAs G th a1 = some (g_up G th (rc k n s x)) := by
  unfold f_X2_setAs
  have l : ∀ c, g_up G th c a1 = some (rc k n s x) := fun c => by rw [g_up_ne hne]; exact h1
  rw [rc_k h1, gb_some, rc_sk ht, gb_some, rc_n (l _), gb_some, rc_sn (g_up_same _ _ _) hn, gb_some, g_up_up, rc_s (l _), gb_some, rc_ss (g_up_same _ _ _), gb_some, g_up_up, rc_e (l _), gb_some, rc_se (g_up_same _ _ _), gb_some, g_up_up]
theorem setSum_16 {G : gG} {th a1 a2 : Nat} {K1 N1 K2 N2 : Int32} {S1 S2 : Int64} {X1 X2 : Int32} (h1 : G a1 = some (rc K1 N1 S1 X1)) (h2 : G a2 = some (rc K2 N2 S2 X2)) : f_X2_setSum G th a1 a2 = f_X2_setSum_16 G th a1 a2 (if N1 = N2 then 0 else 1) := by
  unfold f_X2_setSum
  rw [rc_n h1, gb_some, rc_n h2, gb_some]
  by_cases c : N1 = N2
  · rw [if_pos c, if_pos c]
  · rw [if_neg c, if_neg c]
theorem setSum_ok {G : gG} {th a1 a2 : Nat} {c0 c1 c2 : gC} (ht : G th = some c0) (hr : isR c0) (h1 : G a1 = some c1) (h2 : G a2 = some c2) (d1 : ¬ a1 = th) (d2 : ¬ a2 = th) {k1 k2 : Nat} {n1 n2 : Int32} {u1 u2 : Nat} (hn1 : n1 = 0 ∨ n1 = 1) (hn2 : n2 = 0 ∨ n2 = 1) (v1 : CV c1 k1 n1 u1) (v2 : CV c2 k2 n2 u2) :
    ∃ c, f_X2_setSum G th a1 a2 = some (g_up G th c) ∧ isR c ∧ TV c (sumZ 23 127 k1 n1 u1 k2 n2 u2) (sumZ 52 1023 k1 n1 u1 k2 n2 u2) := by
  obtain ⟨k0, n0, s0, e0, rfl⟩ := hr
  have nan53 : ∃ c, f_X2_setSum_53 G th = some (g_up G th c) ∧ isR c ∧ TV c none none := by
    refine ⟨rc 3 0 s0 e0, ?_, ⟨_, _, _, _, rfl⟩, TV_nan⟩
    unfold f_X2_setSum_53
    rw [gck_true (rc_o ht), setKind_ok ht 3 (Or.inl rfl), gb_some]
  have as1 : ∀ {k : Int32} {s : Int64} {x : Int32}, c1 = rc k n1 s x → f_X2_setSum_118 G th a1 = some (g_up G th (rc k n1 s x)) := by
    intro k s x e
    unfold f_X2_setSum_118
    rw [gck_true (rc_o ht), setAs_ok ht (h1.trans (congrArg some e)) d1 hn1, gb_some]
  have as2 : ∀ {k : Int32} {s : Int64} {x : Int32}, c2 = rc k n2 s x → f_X2_setSum_141 G th a2 = some (g_up G th (rc k n2 s x)) := by
    intro k s x e
    unfold f_X2_setSum_141
    rw [gck_true (rc_o ht), setAs_ok ht (h2.trans (congrArg some e)) d2 hn2, gb_some]
  rcases v1 with ⟨rfl, rfl, s1, x1, rfl⟩ | ⟨rfl, X, E1, rfl, w1, w2, w3, w4, w5, rfl⟩ | ⟨rfl, s1, x1, rfl⟩ | ⟨rfl, n1', s1, x1, rfl⟩
  · rcases v2 with ⟨rfl, rfl, s2, x2, rfl⟩ | ⟨rfl, Y, E2, rfl, z1, z2, z3, z4, z5, rfl⟩ | ⟨rfl, s2, x2, rfl⟩ | ⟨rfl, n2', s2, x2, rfl⟩
    · rw [setSum_16 h1 h2]
      simp (decide := true) only [f_X2_setSum_16, f_X2_setSum_62, f_X2_setSum_96, f_X2_setSum_97, rc_k h1, rc_k h2, rc_n h1, rc_n h2, gb_some, if_true, if_false, sumZ]
      rcases hn1 with rfl | rfl <;> rcases hn2 with rfl | rfl
      all_goals simp (decide := true) only [if_true, if_false]
      all_goals rw [gck_true (rc_o ht), setKind_ok ht 0 (by decide), gb_some]
      all_goals exact ⟨_, rfl, ⟨_, _, _, _, rfl⟩, TV_zero⟩
    · rw [setSum_16 h1 h2]
      simp (decide := true) only [f_X2_setSum_16, f_X2_setSum_62, f_X2_setSum_103, rc_k h1, rc_k h2, gb_some, if_true, if_false, sumZ]
      refine ⟨_, as2 rfl, ⟨_, _, _, _, rfl⟩, ?_⟩
      have := tv_cell (n := n2) z1 z2 z4 (by omega)
      have p : 0 < uV Y E2 := uV_pos (by omega)
      have q1 : sumN n1 0 n2 (uV Y E2) = n2 := by
        unfold sumN
        by_cases c : n1 = n2
        · rw [if_pos c, c]
        · rw [if_neg c, if_neg (by omega), if_neg (by omega)]
      have q2 : sumU n1 0 n2 (uV Y E2) = uV Y E2 := by
        unfold sumU
        by_cases c : n1 = n2
        · rw [if_pos c]; omega
        · rw [if_neg c, if_neg (by omega)]; omega
      rw [q1, q2]
      exact this
    · rw [setSum_16 h1 h2]
      simp (decide := true) only [f_X2_setSum_16, f_X2_setSum_62, f_X2_setSum_103, rc_k h1, rc_k h2, gb_some, if_true, if_false, sumZ]
      exact ⟨_, as2 rfl, ⟨_, _, _, _, rfl⟩, TV_inf⟩
    · rw [setSum_16 h1 h2]
      simp (decide := true) only [f_X2_setSum_16, rc_k h1, rc_k h2, gb_some, if_true, if_false, sumZ]
      exact nan53
  · rcases v2 with ⟨rfl, rfl, s2, x2, rfl⟩ | ⟨rfl, Y, E2, rfl, z1, z2, z3, z4, z5, rfl⟩ | ⟨rfl, s2, x2, rfl⟩ | ⟨rfl, n2', s2, x2, rfl⟩
    · rw [setSum_16 h1 h2]
      simp (decide := true) only [f_X2_setSum_16, f_X2_setSum_62, f_X2_setSum_103, rc_k h1, rc_k h2, gb_some, if_true, if_false, sumZ]
      refine ⟨_, as1 rfl, ⟨_, _, _, _, rfl⟩, ?_⟩
      have := tv_cell (n := n1) w1 w2 w4 (by omega)
      have p : 0 < uV X E1 := uV_pos (by omega)
      have q1 : sumN n1 (uV X E1) n2 0 = n1 := by
        unfold sumN
        by_cases c : n1 = n2
        · rw [if_pos c]
        · rw [if_neg c, if_neg (by omega), if_pos p]
      have q2 : sumU n1 (uV X E1) n2 0 = uV X E1 := by
        unfold sumU
        by_cases c : n1 = n2
        · rw [if_pos c]; omega
        · rw [if_neg c, if_pos p]; omega
      rw [q1, q2]
      exact this
    · rw [setSum_16 h1 h2]
      simp (decide := true) only [f_X2_setSum_16, f_X2_setSum_62, f_X2_setSum_103, rc_k h1, rc_k h2, rc_e h1, rc_e h2, gb_some, if_true, if_false, sumZ]
      have c := jI_lt (a := E1) (b := E2) (by omega) (by omega)
      by_cases g : E1 < E2
      · rw [ifp c g, gck_true (rc_o ht)]
        obtain ⟨cc, q1, q2, q3⟩ := fsum_tv ht h2 h1 hn2 hn1 z1 z2 z3 w1 w2 w3 (by omega) w4 (by omega)
        rw [q1, gb_some, sumN_comm, sumU_comm]
        exact ⟨cc, rfl, q2, TV_of q3⟩
      · rw [ifn c g, gck_true (rc_o ht)]
        obtain ⟨cc, q1, q2, q3⟩ := fsum_tv ht h1 h2 hn1 hn2 w1 w2 w3 z1 z2 z3 (by omega) z4 (by omega)
        rw [q1, gb_some]
        exact ⟨cc, rfl, q2, TV_of q3⟩
    · rw [setSum_16 h1 h2]
      simp (decide := true) only [f_X2_setSum_16, f_X2_setSum_62, f_X2_setSum_103, rc_k h1, rc_k h2, gb_some, if_true, if_false, sumZ]
      exact ⟨_, as2 rfl, ⟨_, _, _, _, rfl⟩, TV_inf⟩
    · rw [setSum_16 h1 h2]
      simp (decide := true) only [f_X2_setSum_16, rc_k h1, rc_k h2, gb_some, if_true, if_false, sumZ]
      exact nan53
  · rcases v2 with ⟨rfl, rfl, s2, x2, rfl⟩ | ⟨rfl, Y, E2, rfl, z1, z2, z3, z4, z5, rfl⟩ | ⟨rfl, s2, x2, rfl⟩ | ⟨rfl, n2', s2, x2, rfl⟩
    · rw [setSum_16 h1 h2]
      simp (decide := true) only [f_X2_setSum_16, f_X2_setSum_62, f_X2_setSum_103, rc_k h1, rc_k h2, gb_some, if_true, if_false, sumZ]
      exact ⟨_, as1 rfl, ⟨_, _, _, _, rfl⟩, TV_inf⟩
    · rw [setSum_16 h1 h2]
      simp (decide := true) only [f_X2_setSum_16, f_X2_setSum_62, f_X2_setSum_103, rc_k h1, rc_k h2, gb_some, if_true, if_false, sumZ]
      exact ⟨_, as1 rfl, ⟨_, _, _, _, rfl⟩, TV_inf⟩
    · rw [setSum_16 h1 h2]
      by_cases c : n1 = n2
      · simp (decide := true) only [c, f_X2_setSum_16, f_X2_setSum_62, f_X2_setSum_103, rc_k h1, rc_k h2, gb_some, if_true, if_false, sumZ]
        subst c
        exact ⟨_, as1 rfl, ⟨_, _, _, _, rfl⟩, TV_inf⟩
      · simp (decide := true) only [c, f_X2_setSum_16, rc_k h1, rc_k h2, gb_some, if_true, if_false, sumZ]
        exact nan53
    · rw [setSum_16 h1 h2]
      simp (decide := true) only [f_X2_setSum_16, rc_k h1, rc_k h2, gb_some, if_true, if_false, sumZ]
      exact nan53
  · have hz : ∀ w b, sumZ w b 3 n1 u1 k2 n2 u2 = none := fun w b => by unfold sumZ; rw [if_pos (Or.inl rfl)]
    rw [hz, hz]
    obtain ⟨K2, N2, S2, X2, rfl⟩ := v2.real
    rw [setSum_16 h1 h2]
    simp (decide := true) only [f_X2_setSum_16, rc_k h1, gb_some, if_true]
    exact nan53
