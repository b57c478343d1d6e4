/-! Values of lanes. -/
theorem i64_N (x : Int64) : ∃ X, X < 2 ^ 64 ∧ x = lN X := ⟨x.toBitVec.toNat, x.toBitVec.isLt, lN_ext rfl⟩
theorem sext32 {X : Nat} (hX : X < 2 ^ 64) : Int32.toInt64 (Int64.toInt32 (lN X)) = lN (if X % 2 ^ 32 < 2 ^ 31 then X % 2 ^ 32 else X % 2 ^ 32 + (2 ^ 64 - 2 ^ 32)) := by
  apply lN_ext
  rw [Int32.toBitVec_toInt64, Int64.toBitVec_toInt32, BitVec.signExtend_eq_setWidth_of_le _ (show 32 ≤ 64 by omega), BitVec.toNat_signExtend, BitVec.msb_eq_decide, BitVec.toNat_setWidth, BitVec.toNat_setWidth, lN_tn hX]
  by_cases c : X % 2 ^ 32 < 2 ^ 31
  · rw [if_pos c, if_neg (by simp only [decide_eq_true_eq]; omega)]
    omega
  · rw [if_neg c, if_pos (by simp only [decide_eq_true_eq]; omega)]
    omega
theorem low31 {X : Nat} : (Int64.toInt32 (lN X) &&& 2147483647) = nI (X % 2 ^ 31) := and_code (k := 31) (by omega) (by decide)
theorem kept_4 {X : Nat} (hX : X < 2 ^ 64) : f_X6_kept (lN X) 4 = if X % 2 ^ 31 ≤ 255 * 2 ^ 23 then lN (if X % 2 ^ 32 < 2 ^ 31 then X % 2 ^ 32 else X % 2 ^ 32 + (2 ^ 64 - 2 ^ 32)) else 2143289344 := by
  unfold f_X6_kept
  rw [if_neg (by decide), if_neg (by decide), if_neg (by decide), if_neg (by decide), if_pos rfl]
  simp only [gl]
  rw [low31, sext32 hX]
  have c : nI (X % 2 ^ 31) ≤ 2139095040 ↔ X % 2 ^ 31 ≤ 255 * 2 ^ 23 := nI_leI (b := 2139095040) (by omega) (by omega)
  by_cases d : X % 2 ^ 31 ≤ 255 * 2 ^ 23
  · rw [ifp c d, if_pos d]
  · rw [ifn c d, if_neg d]
theorem low_4 {X : Nat} (hX : X < 2 ^ 64) : f_X1_lowestBits (lN X) 4 = f_X6_kept (lN X) 4 := by
  rw [kept_4 hX]
  unfold f_X1_lowestBits
  rw [if_neg (by decide), if_neg (by decide), if_neg (by decide), if_neg (by decide), if_pos rfl, sext32 hX, show (2147483647 : Int64) = lN (2 ^ 31 - 1) from by decide, lmask_N hX (by omega)]
  have c : lN (X % 2 ^ 31) ≤ 2139095040 ↔ X % 2 ^ 31 ≤ 255 * 2 ^ 23 := pk_lLE (b := 2139095040) (by omega) (by omega)
  by_cases d : X % 2 ^ 31 ≤ 255 * 2 ^ 23
  · rw [ifp c d, if_pos d]
  · rw [ifn c d, if_neg d]
theorem nan_N {X : Nat} (hX : X < 2 ^ 64) : f_X6_isNan (lN X) = if X % 2 ^ 63 ≤ 2047 * 2 ^ 52 then 0 else 1 := by
  unfold f_X6_isNan
  rw [show (9223372036854775807 : Int64) = lN (2 ^ 63 - 1) from by decide, lmask_N hX (by omega)]
  have c : lN (X % 2 ^ 63) ≤ 9218868437227405312 ↔ X % 2 ^ 63 ≤ 2047 * 2 ^ 52 := pk_lLE (b := 2047 * 2 ^ 52) (by omega) (by omega)
  by_cases d : X % 2 ^ 63 ≤ 2047 * 2 ^ 52
  · rw [ifp c d, if_pos d]
  · rw [ifn c d, if_neg d]
theorem kept_5 {X : Nat} (hX : X < 2 ^ 64) : f_X6_kept (lN X) 5 = if X % 2 ^ 63 ≤ 2047 * 2 ^ 52 then lN X else 9221120237041090560 := by
  unfold f_X6_kept
  rw [if_neg (by decide), if_neg (by decide), if_neg (by decide), if_neg (by decide), if_neg (by decide), nan_N hX]
  by_cases d : X % 2 ^ 63 ≤ 2047 * 2 ^ 52
  · rw [if_pos d, if_pos rfl, if_pos d]
  · rw [if_neg d, if_neg (by decide), if_neg d]
theorem low_5 {X : Nat} (hX : X < 2 ^ 64) : f_X1_lowestBits (lN X) 5 = f_X6_kept (lN X) 5 := by
  rw [kept_5 hX]
  unfold f_X1_lowestBits
  rw [if_neg (by decide), if_neg (by decide), if_neg (by decide), if_neg (by decide), if_neg (by decide), if_pos rfl, show (9223372036854775807 : Int64) = lN (2 ^ 63 - 1) from by decide, lmask_N hX (by omega)]
  have c : lN (X % 2 ^ 63) ≤ 9218868437227405312 ↔ X % 2 ^ 63 ≤ 2047 * 2 ^ 52 := pk_lLE (b := 2047 * 2 ^ 52) (by omega) (by omega)
  by_cases d : X % 2 ^ 63 ≤ 2047 * 2 ^ 52
  · rw [ifp c d, if_pos d]
  · rw [ifn c d, if_neg d]
/-- a lane's number -/
def LN (l : Int32) : Prop := l = 0 ∨ l = 1 ∨ l = 2 ∨ l = 3 ∨ l = 4 ∨ l = 5
def LW (l : Int32) : Prop := l = 0 ∨ l = 1 ∨ l = 2 ∨ l = 3
theorem LW.ln {l : Int32} (h : LW l) : LN l := by
  rcases h with h | h | h | h
  · exact Or.inl h
  · exact Or.inr (Or.inl h)
  · exact Or.inr (Or.inr (Or.inl h))
  · exact Or.inr (Or.inr (Or.inr (Or.inl h)))
theorem LN.cs {l : Int32} (h : LN l) : LW l ∨ l = 4 ∨ l = 5 := by
  rcases h with h | h | h | h | h | h
  · exact Or.inl (Or.inl h)
  · exact Or.inl (Or.inr (Or.inl h))
  · exact Or.inl (Or.inr (Or.inr (Or.inl h)))
  · exact Or.inl (Or.inr (Or.inr (Or.inr h)))
  · exact Or.inr (Or.inl h)
  · exact Or.inr (Or.inr h)
theorem kept_0 (x : Int64) : f_X6_kept x 0 = (x &&& 1) := by unfold f_X6_kept; rw [if_pos rfl]
theorem kept_1 (x : Int64) : f_X6_kept x 1 = Int32.toInt64 (Int8.toInt32 (Int32.toInt8 (Int64.toInt32 x))) := by unfold f_X6_kept; rw [if_neg (by decide), if_pos rfl]
theorem kept_2 (x : Int64) : f_X6_kept x 2 = Int32.toInt64 (Int64.toInt32 x) := by unfold f_X6_kept; rw [if_neg (by decide), if_neg (by decide), if_pos rfl]
theorem kept_3 (x : Int64) : f_X6_kept x 3 = x := by unfold f_X6_kept; rw [if_neg (by decide), if_neg (by decide), if_neg (by decide), if_pos rfl]
theorem low_kept {l : Int32} (h : LN l) (x : Int64) : f_X1_lowestBits x l = f_X6_kept x l := by
  obtain ⟨X, hX, rfl⟩ := i64_N x
  rcases h with rfl | rfl | rfl | rfl | rfl | rfl
  · rw [kept_0]; unfold f_X1_lowestBits; rw [if_pos rfl]
  · rw [kept_1]; unfold f_X1_lowestBits; rw [if_neg (by decide), if_pos rfl]
  · rw [kept_2]; unfold f_X1_lowestBits; rw [if_neg (by decide), if_neg (by decide), if_pos rfl]
  · rw [kept_3]; unfold f_X1_lowestBits; rw [if_neg (by decide), if_neg (by decide), if_neg (by decide), if_pos rfl]
  · exact low_4 hX
  · exact low_5 hX
/-- a value of a lane -/
def VAL (l : Int32) (x : Int64) : Prop := f_X6_kept x l = x
theorem val_n4 : VAL 4 2143289344 := by
  have e : (2143289344 : Int64) = lN 2143289344 := lN_lit _
  unfold VAL
  rw [e, kept_4 (by omega), if_neg (by omega), e]
theorem val_n5 : VAL 5 9221120237041090560 := by
  have e : (9221120237041090560 : Int64) = lN 9221120237041090560 := lN_lit _
  unfold VAL
  rw [e, kept_5 (by omega), if_neg (by omega), e]
theorem val4_of {x : Int64} (h : VAL 4 x) : ∃ k n u, (n = 0 ∨ n = 1) ∧ V4 x k n u := by
  obtain ⟨X, hX, rfl⟩ := i64_N x
  unfold VAL at h
  rw [kept_4 hX] at h
  by_cases d : X % 2 ^ 31 ≤ 255 * 2 ^ 23
  · rw [if_pos d] at h
    have key : ∃ n F, (n = (0 : Int32) ∨ n = 1) ∧ lN X = sgF n F ∧ F = X % 2 ^ 31 := by
      by_cases c : X % 2 ^ 32 < 2 ^ 31
      · rw [if_pos c] at h
        exact ⟨0, X % 2 ^ 31, Or.inl rfl, by rw [sgF_0, ← h]; exact congrArg lN (by omega), rfl⟩
      · rw [if_neg c] at h
        exact ⟨1, X % 2 ^ 31, Or.inr rfl, by rw [sgF_1 (by omega), ← h]; exact congrArg lN (by omega), rfl⟩
    obtain ⟨n, F, hn, hx, hF⟩ := key
    rw [hx]
    by_cases c0 : F = 0
    · exact ⟨0, n, 0, hn, Or.inl ⟨rfl, rfl, by rw [c0]⟩⟩
    · by_cases c1 : F = 255 * 2 ^ 23
      · exact ⟨2, n, 0, hn, Or.inr (Or.inr (Or.inl ⟨rfl, by rw [c1]⟩))⟩
      · exact ⟨1, n, _, hn, Or.inr (Or.inl ⟨rfl, F, rfl, by omega, by omega, rfl⟩)⟩
  · rw [if_neg d] at h
    exact ⟨3, 0, 0, Or.inl rfl, Or.inr (Or.inr (Or.inr ⟨rfl, h.symm⟩))⟩
theorem val_sgF {n : Int32} (hn : n = 0 ∨ n = 1) {F : Nat} (hF : F ≤ 255 * 2 ^ 23) : VAL 4 (sgF n F) := by
  unfold VAL
  rcases hn with rfl | rfl
  · rw [sgF_0, kept_4 (by omega), if_pos (by omega), if_pos (by omega)]
    exact congrArg lN (by omega)
  · rw [sgF_1 (by omega), kept_4 (by omega), if_pos (by omega), if_neg (by omega)]
    exact congrArg lN (by omega)
theorem V4.val {x : Int64} {k : Nat} {n : Int32} {u : Nat} (hn : n = 0 ∨ n = 1) (h : V4 x k n u) : VAL 4 x := by
  rcases h with ⟨rfl, rfl, rfl⟩ | ⟨rfl, F, rfl, h0, h1, rfl⟩ | ⟨rfl, rfl⟩ | ⟨rfl, rfl⟩
  · exact val_sgF hn (by omega)
  · exact val_sgF hn (by omega)
  · exact val_sgF hn (by omega)
  · exact val_n4
theorem val5_of {x : Int64} (h : VAL 5 x) : ∃ k n u, (n = 0 ∨ n = 1) ∧ RV x k n u := by
  obtain ⟨X, hX, rfl⟩ := i64_N x
  unfold VAL at h
  rw [kept_5 hX] at h
  by_cases d : X % 2 ^ 63 ≤ 2047 * 2 ^ 52
  · have key : ∃ n D, (n = (0 : Int32) ∨ n = 1) ∧ lN X = sgD n D ∧ D = X % 2 ^ 63 := by
      by_cases c : X < 2 ^ 63
      · exact ⟨0, X % 2 ^ 63, Or.inl rfl, by rw [sgD_0]; exact congrArg lN (by omega), rfl⟩
      · exact ⟨1, X % 2 ^ 63, Or.inr rfl, by rw [sgD_1 (by omega)]; exact congrArg lN (by omega), rfl⟩
    obtain ⟨n, D, hn, hx, hD⟩ := key
    rw [hx]
    by_cases c0 : D = 0
    · exact ⟨0, n, 0, hn, Or.inl ⟨rfl, rfl, by rw [c0]⟩⟩
    · by_cases c1 : D = 2047 * 2 ^ 52
      · exact ⟨2, n, 0, hn, Or.inr (Or.inr (Or.inl ⟨rfl, by rw [c1]⟩))⟩
      · exact ⟨1, n, _, hn, Or.inr (Or.inl ⟨rfl, D, rfl, by omega, by omega, rfl⟩)⟩
  · rw [if_neg d] at h
    exact ⟨3, 0, 0, Or.inl rfl, Or.inr (Or.inr (Or.inr ⟨rfl, h.symm⟩))⟩
theorem val_sgD {n : Int32} (hn : n = 0 ∨ n = 1) {D : Nat} (hD : D ≤ 2047 * 2 ^ 52) : VAL 5 (sgD n D) := by
  unfold VAL
  rcases hn with rfl | rfl
  · rw [sgD_0, kept_5 (by omega), if_pos (by omega)]
  · rw [sgD_1 (by omega), kept_5 (by omega), if_pos (by omega)]
theorem RV.val {x : Int64} {k : Nat} {n : Int32} {u : Nat} (hn : n = 0 ∨ n = 1) (h : RV x k n u) : VAL 5 x := by
  rcases h with ⟨rfl, rfl, rfl⟩ | ⟨rfl, D, rfl, h0, h1, rfl⟩ | ⟨rfl, rfl⟩ | ⟨rfl, rfl⟩
  · exact val_sgD hn (by omega)
  · exact val_sgD hn (by omega)
  · exact val_sgD hn (by omega)
  · exact val_n5
theorem val_kept {l : Int32} (h : LN l) (x : Int64) : VAL l (f_X6_kept x l) := by
  obtain ⟨X, hX, rfl⟩ := i64_N x
  rcases h with rfl | rfl | rfl | rfl | rfl | rfl
  · unfold VAL
    rw [kept_0, kept_0, Int64.and_assoc, show (1 &&& 1 : Int64) = 1 from by decide]
  · unfold VAL
    rw [kept_1, kept_1, Int32.toInt32_toInt64, Int8.toInt8_toInt32]
  · unfold VAL
    rw [kept_2, kept_2, Int32.toInt32_toInt64]
  · unfold VAL
    rw [kept_3]
  · unfold VAL
    rw [kept_4 hX]
    by_cases d : X % 2 ^ 31 ≤ 255 * 2 ^ 23
    · rw [if_pos d]
      by_cases c : X % 2 ^ 32 < 2 ^ 31
      · rw [if_pos c, kept_4 (by omega), if_pos (by omega), if_pos (by omega)]
        exact congrArg lN (by omega)
      · rw [if_neg c, kept_4 (by omega), if_pos (by omega), if_neg (by omega)]
        exact congrArg lN (by omega)
    · rw [if_neg d]; exact val_n4
  · unfold VAL
    rw [kept_5 hX]
    by_cases d : X % 2 ^ 63 ≤ 2047 * 2 ^ 52
    · rw [if_pos d, kept_5 hX, if_pos d]
    · rw [if_neg d]; exact val_n5
/-- an answer in a format -/
def OKZ (w b : Nat) (z : Option (Int32 × Nat)) : Prop := ∀ q, z = some q → (q.1 = 0 ∨ q.1 = 1) ∧ q.2 ≤ infB w b
theorem OKZ.v4 {z : Option (Int32 × Nat)} (h : OKZ 23 127 z) : VAL 4 (fin4 z) := by
  cases z with
  | none => exact val_n4
  | some q =>
    have := h q rfl
    rw [infB4] at this
    exact val_sgF this.1 this.2
theorem OKZ.v5 {z : Option (Int32 × Nat)} (h : OKZ 52 1023 z) : VAL 5 (fin5 z) := by
  cases z with
  | none => exact val_n5
  | some q =>
    have := h q rfl
    rw [infB5] at this
    exact val_sgD this.1 this.2
theorem enc_le' {w b m : Nat} {e : Int} {s : Bool} : enc w b m e s ≤ infB w b := Nat.min_le_right _ _
theorem encU_le {w b u : Nat} : encU w b u ≤ infB w b := by
  unfold encU
  split
  · exact Nat.zero_le _
  · exact enc_le'
theorem sumZ_ok {w b k1 k2 : Nat} {n1 n2 : Int32} {u1 u2 : Nat} (h1 : n1 = 0 ∨ n1 = 1) (h2 : n2 = 0 ∨ n2 = 1) : OKZ w b (sumZ w b k1 n1 u1 k2 n2 u2) := by
  intro q hq
  unfold sumZ at hq
  have hs : sumN n1 u1 n2 u2 = 0 ∨ sumN n1 u1 n2 u2 = 1 := by
    unfold sumN
    split
    · exact h1
    · split
      · exact Or.inl rfl
      · split
        · exact h1
        · exact h2
  have h0 : (if n1 = n2 then n1 else 0) = 0 ∨ (if n1 = n2 then n1 else (0 : Int32)) = 1 := by
    split
    · exact h1
    · exact Or.inl rfl
  split at hq
  · cases hq
  · split at hq
    · cases hq; exact ⟨h1, Nat.le_refl _⟩
    · split at hq
      · cases hq; exact ⟨h2, Nat.le_refl _⟩
      · split at hq
        · cases hq; exact ⟨h0, Nat.zero_le _⟩
        · cases hq; exact ⟨hs, encU_le⟩
theorem prodZ_ok {w b k1 k2 : Nat} {n1 n2 : Int32} {u1 u2 : Nat} : OKZ w b (prodZ w b k1 n1 u1 k2 n2 u2) := by
  intro q hq
  unfold prodZ at hq
  split at hq
  · cases hq
  · split at hq
    · cases hq; exact ⟨sgnP_b _ _, Nat.le_refl _⟩
    · split at hq
      · cases hq; exact ⟨sgnP_b _ _, Nat.zero_le _⟩
      · cases hq; exact ⟨sgnP_b _ _, enc_le'⟩
theorem quoZ_ok {w b k1 k2 : Nat} {n1 n2 : Int32} {u1 u2 : Nat} : OKZ w b (quoZ w b k1 n1 u1 k2 n2 u2) := by
  intro q hq
  unfold quoZ at hq
  split at hq
  · cases hq
  · split at hq
    · cases hq; exact ⟨sgnP_b _ _, Nat.le_refl _⟩
    · split at hq
      · cases hq; exact ⟨sgnP_b _ _, Nat.zero_le _⟩
      · cases hq; exact ⟨sgnP_b _ _, enc_le'⟩
theorem exZ_ok {w b k : Nat} {n : Int32} {u : Nat} (h : n = 0 ∨ n = 1) : OKZ w b (exZ w b k n u) := by
  intro q hq
  unfold exZ at hq
  split at hq
  · cases hq
  · split at hq
    · cases hq; exact ⟨h, Nat.le_refl _⟩
    · cases hq; exact ⟨h, encU_le⟩
