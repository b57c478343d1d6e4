/-! The law: the loop over the script, and the two sides as they are made. -/
theorem sc_ok {xs : Nat → Int32} {L i : Nat} (hL : L ≤ 3072) (hi : i < L) : g_sc xs L (nI i) = some (xs i) := by
  unfold g_sc
  rw [nI_clamp (by omega), if_neg (fun q => by
    rcases q with q | q
    · exact nI_pos (by omega) q
    · omega)]
theorem REL.c4 {G : gG} {b n : Nat} {A : AS} (h : REL G b n A) : g_isO G b 4 = true := by
  obtain ⟨_, _, ⟨_, _, _, c⟩, _⟩ := h
  exact cf_o c.o
theorem MX.c5 {G : gG} {m : Nat} {A : AS} (h : MX G m A) : g_isO G m 5 = true := by
  obtain ⟨_, _, _, _, _, _, mm⟩ := h
  exact mo_o mm.o
theorem st2 {α : Type} [DecidableEq α] {b n : Nat} {A : AS} {f : Option (α × gG)} {g : gG → Option (α × gG)} (h : C2 b n A f g) {K : gG → Option Int32} (hK : ∀ G2 A', REL G2 b n A' → K G2 = some 1) : (gb2 f fun r G1 => gck (g_isO G1 (b + 9) 5) <| gb2 (g G1) fun r' G2 => if r = r' then K G2 else some 0) = some 1 := by
  obtain ⟨r, G1, G2, A', e1, m, e2, R⟩ := h
  rw [e1, gb2_some, gck_true m.c5, e2, gb2_some, if_pos rfl, hK G2 A' R]
theorem st3 {b : Nat} {A : AS} {f : Option (Int32 × gG × Nat)} {g : gG → Option (Int32 × gG)} (h : C3 b A f g) {K : gG → Nat → Option Int32} (hK : ∀ G2 n1 A', REL G2 b n1 A' → K G2 n1 = some 1) : (gb3 f fun r G1 n1 => gck (g_isO G1 (b + 9) 5) <| gb2 (g G1) fun r' G2 => if r = r' then K G2 n1 else some 0) = some 1 := by
  obtain ⟨r, G1, n1, G2, A', e1, m, e2, R⟩ := h
  rw [e1, gb3_some, gck_true m.c5, e2, gb2_some, if_pos rfl, hK G2 n1 A' R]
theorem law_end {L j : Nat} (hL : L ≤ 3072) (hj : 6 * j ≤ 4000) : (Int32.ofNat L) - 6 < nI (6 * j) ↔ L < 6 * j + 6 := by
  rw [show (Int32.ofNat L) = nI L from rfl, show (6 : Int32) = jI 6 from rfl, nI_jI, nI_jI, jI_sub, jI_lt (by omega) (by omega)]
  omega
theorem law_loop {xs : Nat → Int32} {L b : Nat} (hL : L ≤ 3072) : ∀ (f j : Nat) (G : gG) (n : Nat) (A : AS), REL G b n A → L < 6 * j + 6 * f + 6 → 6 * j ≤ L + 5 → f_L_law_18 xs L (f + 1) G n b (b + 9) (nI (6 * j)) = some 1 := by
  intro f
  induction f with
  | zero =>
    intro j G n A R h1 h2
    unfold f_L_law_18
    rw [ifp (law_end hL (by omega)) (by omega)]
  | succ f ih =>
    intro j G n A R h1 h2
    rw [f_L_law_18]
    by_cases d : L < 6 * j + 6
    · rw [ifp (law_end hL (by omega)) d]
    · rw [ifn (law_end hL (by omega)) d]
      have nx : nI (6 * j) + 6 = nI (6 * (j + 1)) := nI_add _ 6
      have s0 : g_sc xs L (nI (6 * j)) = some (xs (6 * j)) := sc_ok hL (by omega)
      have s1 : g_sc xs L (nI (6 * j) + 1) = some (xs (6 * j + 1)) := by rw [show nI (6 * j) + 1 = nI (6 * j + 1) from nI_add _ 1]; exact sc_ok hL (by omega)
      have s2 : g_sc xs L (nI (6 * j) + 2) = some (xs (6 * j + 2)) := by rw [show nI (6 * j) + 2 = nI (6 * j + 2) from nI_add _ 2]; exact sc_ok hL (by omega)
      have s3 : g_sc xs L (nI (6 * j) + 3) = some (xs (6 * j + 3)) := by rw [show nI (6 * j) + 3 = nI (6 * j + 3) from nI_add _ 3]; exact sc_ok hL (by omega)
      have s4 : g_sc xs L (nI (6 * j) + 4) = some (xs (6 * j + 4)) := by rw [show nI (6 * j) + 4 = nI (6 * j + 4) from nI_add _ 4]; exact sc_ok hL (by omega)
      have s5 : g_sc xs L (nI (6 * j) + 5) = some (xs (6 * j + 5)) := by rw [show nI (6 * j) + 5 = nI (6 * j + 5) from nI_add _ 5]; exact sc_ok hL (by omega)
      simp only [s0, s1, s2, s3, s4, s5, gb_some, gl, nx, gck_true R.c4]
      have IH2 : ∀ (G2 : gG) (A' : AS), REL G2 b n A' → f_L_law_18 xs L (f + 1) G2 n b (b + 9) (nI (6 * (j + 1))) = some 1 := fun G2 A' R' => ih (j + 1) G2 n A' R' (by omega) (by omega)
      have IH3 : ∀ (G2 : gG) (n1 : Nat) (A' : AS), REL G2 b n1 A' → f_L_law_18 xs L (f + 1) G2 n1 b (b + 9) (nI (6 * (j + 1))) = some 1 := fun G2 n1 A' R' => ih (j + 1) G2 n1 A' R' (by omega) (by omega)
      have M5 : g_isO G (b + 9) 5 = true := by
        obtain ⟨_, _, _, mx⟩ := id R
        exact MX.c5 mx
      by_cases d0 : xs (6 * j) &&& 31 = 0
      · rw [if_pos d0]
        exact st3 (call_tensor R _) IH3
      rw [if_neg d0]
      by_cases d1 : xs (6 * j) &&& 31 = 1
      · rw [if_pos d1]
        exact st3 (call_shaped R _ _ _ _) IH3
      rw [if_neg d1]
      by_cases d2 : xs (6 * j) &&& 31 = 2
      · rw [if_pos d2]
        exact st2 (call_free R _) IH2
      rw [if_neg d2]
      by_cases d3 : xs (6 * j) &&& 31 = 3
      · rw [if_pos d3]
        exact st2 (call_setting R _) IH2
      rw [if_neg d3]
      by_cases d4 : xs (6 * j) &&& 31 = 4
      · rw [if_pos d4]
        exact st2 (call_item R _ _ _) IH2
      rw [if_neg d4]
      by_cases d5 : xs (6 * j) &&& 31 = 5
      · rw [if_pos d5]
        exact st2 (call_bits R _ _ _) IH2
      rw [if_neg d5]
      by_cases d6 : xs (6 * j) &&& 31 = 6
      · rw [if_pos d6]
        exact st2 (call_index R _ _ _ _) IH2
      rw [if_neg d6]
      by_cases d7 : xs (6 * j) &&& 31 = 7
      · rw [if_pos d7]
        exact st2 (call_of R _ _) IH2
      rw [if_neg d7]
      by_cases d8 : xs (6 * j) &&& 31 = 8
      · rw [if_pos d8]
        exact st3 (call_act R _ _ _) IH3
      rw [if_neg d8]
      by_cases d9 : xs (6 * j) &&& 31 = 9
      · rw [if_pos d9]
        exact st2 (call_into R _ _ _ _) IH2
      rw [if_neg d9]
      by_cases d10 : xs (6 * j) &&& 31 = 10
      · rw [if_pos d10]
        exact st3 (call_one R _ _) IH3
      rw [if_neg d10]
      by_cases d11 : xs (6 * j) &&& 31 = 11
      · rw [if_pos d11]
        exact st3 (call_cast R _ _) IH3
      rw [if_neg d11]
      by_cases d12 : xs (6 * j) &&& 31 = 12
      · rw [if_pos d12]
        exact st3 (call_where R _ _ _) IH3
      rw [if_neg d12]
      by_cases d13 : xs (6 * j) &&& 31 = 13
      · rw [if_pos d13]
        exact st2 (call_copy R _ _ _ _ _) IH2
      rw [if_neg d13]
      by_cases d14 : xs (6 * j) &&& 31 = 14
      · rw [if_pos d14]
        exact st2 (call_same R _ _) IH2
      rw [if_neg d14]
      by_cases d15 : xs (6 * j) &&& 31 = 15
      · rw [if_pos d15]
        obtain ⟨r, e1, e2⟩ := call_place R
        rw [e1, gb_some, gck_true M5, e2, gb_some, if_pos rfl]
        exact IH2 G A R
      rw [if_neg d15]
      by_cases d16 : xs (6 * j) &&& 31 = 16
      · rw [if_pos d16]
        obtain ⟨r, e1, e2⟩ := call_count R (xs (6 * j + 1))
        rw [e1, gb_some, gck_true M5, e2, gb_some, if_pos rfl]
        exact IH2 G A R
      rw [if_neg d16]
      exact IH2 G A R
