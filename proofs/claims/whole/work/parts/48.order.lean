/-! Order of values. -/
theorem bits_mono4 {D1 D2 : Nat} (h : D1 ≤ D2) : uD 23 127 D1 ≤ uD 23 127 D2 := by
  unfold uD
  have hc : D1 / 2 ^ 23 ≤ D2 / 2 ^ 23 := Nat.div_le_div_right h
  rcases Nat.lt_or_ge (max (D1 / 2 ^ 23) 1) (max (D2 / 2 ^ 23) 1) with g | g
  · obtain ⟨j, hj⟩ : ∃ j : Nat, vE 23 127 (D2 / 2 ^ 23) = vE 23 127 (D1 / 2 ^ 23) + j ∧ 1 ≤ j := ⟨max (D2 / 2 ^ 23) 1 - max (D1 / 2 ^ 23) 1, by unfold vE; omega⟩
    have hE : -149 ≤ vE 23 127 (D1 / 2 ^ 23) := by unfold vE; omega
    rw [hj.1, uV_split (by omega), uV_le]
    have h1 := vM23 (F := D1)
    have h2 : 2 ^ 23 ≤ vM 23 (D2 / 2 ^ 23) (D2 % 2 ^ 23) := by
      unfold vM
      rw [if_neg (by omega)]
      omega
    have h3 : (2 : Nat) ^ 1 ≤ 2 ^ j := Nat.pow_le_pow_right (by omega) hj.2
    have h4 := Nat.mul_le_mul h2 h3
    omega
  · have hE : vE 23 127 (D1 / 2 ^ 23) = vE 23 127 (D2 / 2 ^ 23) := by unfold vE; omega
    rw [hE, uV_le]
    unfold vM
    by_cases c1 : D1 / 2 ^ 23 = 0
    · rw [if_pos c1]
      by_cases c2 : D2 / 2 ^ 23 = 0
      · rw [if_pos c2]; omega
      · rw [if_neg c2]; omega
    · rw [if_neg c1, if_neg (by omega)]
      omega
/-- bits of a float and of a double that spell one number -/
def FD (F D : Nat) : Prop := (F = 255 * 2 ^ 23 ∧ D = 2047 * 2 ^ 52) ∨ (F < 255 * 2 ^ 23 ∧ D < 2047 * 2 ^ 52 ∧ uD 23 127 F = uD 52 1023 D)
theorem uD_z (w b : Nat) {B : Nat} : uD w b B = 0 ↔ B = 0 := by
  constructor
  · intro h
    refine Decidable.byContradiction (fun z => ?_)
    have := uD_pos (w := w) (b := b) (B := B) (by omega)
    omega
  · rintro rfl
    unfold uD vM
    rw [Nat.zero_div, if_pos rfl, Nat.zero_mod]
    exact Nat.zero_mul _
theorem encU_D {w b B : Nat} (hbw : b + w ≤ 1200) (hB : B < (2 * b + 1) * 2 ^ w) : encU w b (uD w b B) = B := by
  by_cases c : B = 0
  · rw [(uD_z w b).mpr c, c]
    rfl
  · exact encU_dec hbw (by omega) hB
theorem FD.zero {F D : Nat} (h : FD F D) : F = 0 ↔ D = 0 := by
  rcases h with ⟨rfl, rfl⟩ | ⟨h1, h2, h3⟩
  · omega
  · rw [← uD_z 23 127, h3, uD_z]
theorem FD.le {F1 D1 F2 D2 : Nat} (h1 : FD F1 D1) (h2 : FD F2 D2) : F1 ≤ F2 ↔ D1 ≤ D2 := by
  rcases h1 with ⟨rfl, rfl⟩ | ⟨a1, a2, a3⟩
  · rcases h2 with ⟨rfl, rfl⟩ | ⟨b1, b2, b3⟩
    · omega
    · omega
  · rcases h2 with ⟨rfl, rfl⟩ | ⟨b1, b2, b3⟩
    · omega
    · have e1 := encU_D (w := 23) (b := 127) (B := F1) (by omega) (by omega)
      have e2 := encU_D (w := 23) (b := 127) (B := F2) (by omega) (by omega)
      have g1 := encU_D (w := 52) (b := 1023) (B := D1) (by omega) (by omega)
      have g2 := encU_D (w := 52) (b := 1023) (B := D2) (by omega) (by omega)
      constructor
      · intro h
        refine Nat.not_lt.mp (fun q => ?_)
        have m1 := bits_mono4 h
        have m2 : uD 52 1023 D2 ≤ uD 52 1023 D1 := bits_mono (Nat.le_of_lt q)
        have e : uD 52 1023 D1 = uD 52 1023 D2 := by omega
        rw [e, g2] at g1
        omega
      · intro h
        refine Nat.not_lt.mp (fun q => ?_)
        have m1 := bits_mono4 (Nat.le_of_lt q)
        have m2 : uD 52 1023 D1 ≤ uD 52 1023 D2 := bits_mono h
        have e : uD 23 127 F1 = uD 23 127 F2 := by omega
        rw [e, e2] at e1
        omega
/-- a value of a real lane, and the double that the reference reckons with -/
def PX (l : Int32) (x a : Int64) (k : Nat) (n : Int32) (u : Nat) : Prop := (n = 0 ∨ n = 1) ∧ RV a k n u ∧ (l = 4 → V4 x k n u) ∧ (l = 5 → x = a)
theorem PX.fb {l : Int32} {x a : Int64} {k : Nat} {n : Int32} {u : Nat} (h : PX l x a k n u) (h4 : l = 4) : f_X6_floatBits a = some x := by
  have v := h.2.2.1 h4
  rw [h.2.1.fb h.1 v.F4, ← v.f4]
theorem PX.of {l : Int32} (hl : l = 4 ∨ l = 5) {x : Int64} (h : VAL l x) : ∃ a k n u, PX l x a k n u ∧ (l = 4 → f_X6_wide x = some a) := by
  rcases hl with rfl | rfl
  · obtain ⟨k, n, u, hn, v⟩ := val4_of h
    obtain ⟨a, a1, a2⟩ := v.wide hn
    exact ⟨a, k, n, u, ⟨hn, a2, fun _ => v, fun q => absurd q (by decide)⟩, fun _ => a1⟩
  · obtain ⟨k, n, u, hn, v⟩ := val5_of h
    exact ⟨x, k, n, u, ⟨hn, v, fun q => absurd q (by decide), fun _ => rfl⟩, fun q => absurd q (by decide)⟩
theorem PX.val {l : Int32} (hl : l = 4 ∨ l = 5) {x a : Int64} {k : Nat} {n : Int32} {u : Nat} (h : PX l x a k n u) : VAL l x := by
  rcases hl with rfl | rfl
  · exact (h.2.2.1 rfl).val h.1
  · rw [h.2.2.2 rfl]
    exact h.2.1.val h.1
theorem PX.rf {l : Int32} {x a : Int64} {k : Nat} {n : Int32} {u : Nat} (h : PX l x a k n u) {f : Int32 → Option Int64} (hf : ∀ m, m = l → f m = some a) : RF l f x := by
  refine ⟨fun e => ⟨a, hf 4 e.symm, h.fb e⟩, fun e => ?_⟩
  rw [hf 5 e.symm, h.2.2.2 e]
/-- its bits -/
theorem PX.bits {l : Int32} (hl : l = 4 ∨ l = 5) {x a : Int64} {k : Nat} {n : Int32} {u : Nat} (h : PX l x a k n u) (h3 : ¬ k = 3) : ∃ B D, a = sgD n D ∧ D ≤ 2047 * 2 ^ 52 ∧ (D = 0 ↔ k = 0) ∧ ((l = 4 ∧ x = sgF n B ∧ B ≤ 255 * 2 ^ 23 ∧ FD B D) ∨ (l = 5 ∧ x = sgD n B ∧ B = D)) := by
  obtain ⟨hn, r, v4, v5⟩ := h
  rcases hl with rfl | rfl
  · have v := v4 rfl
    rcases r with ⟨rfl, rfl, rfl⟩ | ⟨rfl, D, rfl, h0, h1, rfl⟩ | ⟨rfl, rfl⟩ | ⟨rfl, rfl⟩
    · rcases v with ⟨-, -, rfl⟩ | ⟨z, -⟩ | ⟨z, -⟩ | ⟨z, -⟩
      · exact ⟨0, 0, rfl, by omega, by omega, Or.inl ⟨rfl, rfl, by omega, Or.inr ⟨by omega, by omega, by rw [(uD_z 23 127).mpr rfl, (uD_z 52 1023).mpr rfl]⟩⟩⟩
      all_goals omega
    · rcases v with ⟨z, -⟩ | ⟨-, F, rfl, f0, f1, f2⟩ | ⟨z, -⟩ | ⟨z, -⟩
      · omega
      · exact ⟨F, D, rfl, by omega, by omega, Or.inl ⟨rfl, rfl, by omega, Or.inr ⟨f1, h1, f2⟩⟩⟩
      all_goals omega
    · rcases v with ⟨z, -⟩ | ⟨z, -⟩ | ⟨-, rfl⟩ | ⟨z, -⟩
      · omega
      · omega
      · exact ⟨_, _, rfl, by omega, by omega, Or.inl ⟨rfl, rfl, by omega, Or.inl ⟨rfl, rfl⟩⟩⟩
      · omega
    · exact absurd rfl h3
  · have e := v5 rfl
    subst e
    rcases r with ⟨rfl, rfl, rfl⟩ | ⟨rfl, D, rfl, h0, h1, rfl⟩ | ⟨rfl, rfl⟩ | ⟨rfl, rfl⟩
    · exact ⟨0, 0, rfl, by omega, by omega, Or.inr ⟨rfl, rfl, rfl⟩⟩
    · exact ⟨D, D, rfl, by omega, by omega, Or.inr ⟨rfl, rfl, rfl⟩⟩
    · exact ⟨_, _, rfl, by omega, by omega, Or.inr ⟨rfl, rfl, rfl⟩⟩
    · exact absurd rfl h3
/-! Ranks. -/
theorem lN_int {X : Nat} (hX : X < 2 ^ 64) : (lN X).toInt = if X < 2 ^ 63 then (X : Int) else X - 2 ^ 64 := by
  show (lN X).toBitVec.toInt = _
  rw [BitVec.toInt_eq_toNat_cond, lN_tn hX]
  by_cases c : X < 2 ^ 63
  · rw [if_pos c, if_pos (by omega)]
  · rw [if_neg c, if_neg (by omega)]
    omega
theorem xor_neg1 {X : Nat} (hX : X < 2 ^ 64) : (lN X ^^^ (-1)) = lN (2 ^ 64 - 1 - X) := by
  apply lN_ext
  rw [Int64.toBitVec_xor, show (-1 : Int64).toBitVec = BitVec.allOnes 64 from by decide, BitVec.xor_allOnes, BitVec.toNat_not, lN_tn hX]
theorem rank_D {n : Int32} (hn : n = 0 ∨ n = 1) {D : Nat} (hD : D < 2 ^ 63) : (f_X6_rank (sgD n D)).toInt = if n = 0 then (D : Int) else -1 - D := by
  unfold f_X6_rank
  have c := sgD_nonneg hn hD
  rcases hn with rfl | rfl
  · rw [ifp c rfl, if_pos rfl, sgD_0, lN_int (by omega), if_pos hD]
  · rw [ifn c (by decide), if_neg (by decide), mask63 (Or.inr rfl) hD, show (-1 : Int64) = lN (2 ^ 64 - 1) from by decide, lN_sub (by omega), lN_int (by omega), if_neg (by omega)]
    omega
theorem rankC_D {n : Int32} (hn : n = 0 ∨ n = 1) {D : Nat} (hD : D < 2 ^ 63) {l : Int32} (hl : l = 4 ∨ l = 5) : (f_X0_rankOf (sgD n D) l).toInt = if n = 0 then (D : Int) else -1 - D := by
  unfold f_X0_rankOf
  have c := sgD_nonneg hn hD
  have e : f_X1_isReal l = 1 := by rcases hl with rfl | rfl <;> decide
  rcases hn with rfl | rfl
  · rw [ifp c rfl, if_pos rfl, sgD_0, lN_int (by omega), if_pos hD]
  · rw [ifn c (by decide), if_neg (show ¬ (1 : Int32) = 0 by decide), e, if_neg (by decide), show (9223372036854775807 : Int64) = (-9223372036854775808) ^^^ (-1) from by decide, ← Int64.xor_assoc, xor63 (Or.inr rfl) hD]
    show (sgD 0 D ^^^ (-1)).toInt = _
    rw [sgD_0, xor_neg1 (by omega), lN_int (by omega), if_neg (by omega)]
    omega
theorem sgF_D {n : Int32} (hn : n = 0 ∨ n = 1) {F : Nat} (hF : F < 2 ^ 31) : sgF n F = sgD n (if n = 0 then F else F + (2 ^ 63 - 2 ^ 31)) := by
  rcases hn with rfl | rfl
  · rw [if_pos rfl]; rfl
  · rw [if_neg (by decide)]
    exact (sgF_1 hF).trans ((congrArg lN (show F + (2 ^ 64 - 2 ^ 31) = F + (2 ^ 63 - 2 ^ 31) + 2 ^ 63 by omega)).trans (sgD_1 (show F + (2 ^ 63 - 2 ^ 31) < 2 ^ 63 by omega)).symm)
theorem rankC_F {n : Int32} (hn : n = 0 ∨ n = 1) {F : Nat} (hF : F < 2 ^ 31) : (f_X0_rankOf (sgF n F) 4).toInt = if n = 0 then (F : Int) else -1 - (F + (2 ^ 63 - 2 ^ 31)) := by
  rw [sgF_D hn hF, rankC_D hn (by split <;> omega) (Or.inl rfl)]
  rcases hn with rfl | rfl
  · rw [if_pos rfl, if_pos rfl, if_pos rfl]
  · rw [if_neg (by decide), if_neg (by decide), if_neg (by decide)]
    omega
/-- the class orders as the reference does -/
theorem rank_le {l : Int32} (hl : l = 4 ∨ l = 5) {x a y b : Int64} {k1 k2 : Nat} {n1 n2 : Int32} {u1 u2 : Nat} (h1 : PX l x a k1 n1 u1) (h2 : PX l y b k2 n2 u2) (c1 : ¬ k1 = 3) (c2 : ¬ k2 = 3) : f_X0_rankOf x l ≤ f_X0_rankOf y l ↔ f_X6_rank a ≤ f_X6_rank b := by
  obtain ⟨B1, D1, rfl, d1, -, q1⟩ := h1.bits hl c1
  obtain ⟨B2, D2, rfl, d2, -, q2⟩ := h2.bits hl c2
  rw [Int64.le_iff_toInt_le, Int64.le_iff_toInt_le, rank_D h1.1 (by omega), rank_D h2.1 (by omega)]
  have z : ∀ n : Int32, (n = 0 ∨ n = 1) → ((if n = 0 then (0 : Int) else 1) = 0 ∨ n = 1) := fun n h => h.imp (fun e => if_pos e) id
  rcases q1 with ⟨rfl, rfl, e1, f1⟩ | ⟨rfl, rfl, rfl⟩
  · rcases q2 with ⟨-, rfl, e2, f2⟩ | ⟨q, -⟩
    · have le := f1.le f2
      have ge := f2.le f1
      rw [rankC_F h1.1 (by omega), rankC_F h2.1 (by omega)]
      rcases h1.1 with rfl | rfl <;> rcases h2.1 with rfl | rfl
      · rw [if_pos rfl, if_pos rfl, if_pos rfl, if_pos rfl]; omega
      · rw [if_pos rfl, if_neg (by decide), if_pos rfl, if_neg (by decide)]; omega
      · rw [if_neg (by decide), if_pos rfl, if_neg (by decide), if_pos rfl]; omega
      · rw [if_neg (by decide), if_neg (by decide), if_neg (by decide), if_neg (by decide)]; omega
    · exact absurd q (by decide)
  · rcases q2 with ⟨q, -⟩ | ⟨-, rfl, rfl⟩
    · exact absurd q (by decide)
    · rw [rankC_D h1.1 (by omega) (Or.inr rfl), rankC_D h2.1 (by omega) (Or.inr rfl)]
/-- with zeros as one -/
theorem rank_z {l : Int32} (hl : l = 4 ∨ l = 5) {x a : Int64} {k : Nat} {n : Int32} {u : Nat} (h : PX l x a k n u) (c : ¬ k = 3) (hk : ¬ k = 0) : ((0 : Int64) ≤ f_X0_rankOf x l ↔ n = 0) ∧ (f_X0_rankOf x l ≤ 0 ↔ ¬ n = 0) ∧ ¬ f_X0_rankOf x l = 0 ∧ (∀ s : Int32, (s = 0 ∨ s = 1) → (f_X6_rank (sgD s 0) ≤ f_X6_rank a ↔ n = 0) ∧ (f_X6_rank a ≤ f_X6_rank (sgD s 0) ↔ ¬ n = 0)) := by
  obtain ⟨B, D, rfl, d, z, q⟩ := h.bits hl c
  have hD : 0 < D := by omega
  have e0 : (0 : Int64).toInt = 0 := by decide
  have rc : ∃ off : Int, 0 ≤ off ∧ ∃ B' : Int, 0 < B' ∧ (f_X0_rankOf x l).toInt = if n = 0 then B' else -1 - (B' + off) := by
    rcases q with ⟨rfl, rfl, e1, f1⟩ | ⟨rfl, rfl, rfl⟩
    · have := f1.zero
      exact ⟨2 ^ 63 - 2 ^ 31, by omega, B, by omega, rankC_F h.1 (by omega)⟩
    · refine ⟨0, by omega, B, by omega, ?_⟩
      rw [rankC_D h.1 (by omega) (Or.inr rfl), Int.add_zero]
  obtain ⟨off, o1, B', b1, hr⟩ := rc
  have s0 : ∀ s : Int32, (s = 0 ∨ s = 1) → ((f_X6_rank (sgD s 0)).toInt = 0 ∨ (f_X6_rank (sgD s 0)).toInt = -1) := by
    intro s hs
    rw [rank_D hs (by omega)]
    rcases hs with rfl | rfl
    · exact Or.inl rfl
    · exact Or.inr rfl
  have hR := rank_D h.1 (D := D) (by omega)
  refine ⟨?_, ?_, ?_, ?_⟩
  · rw [Int64.le_iff_toInt_le, e0, hr]
    rcases h.1 with rfl | rfl
    · rw [if_pos rfl]; exact ⟨fun _ => rfl, fun _ => by omega⟩
    · rw [if_neg (by decide)]; exact ⟨fun q => by omega, fun q => absurd q (by decide)⟩
  · rw [Int64.le_iff_toInt_le, e0, hr]
    rcases h.1 with rfl | rfl
    · rw [if_pos rfl]; exact ⟨fun q => by omega, fun q => absurd rfl q⟩
    · rw [if_neg (by decide)]; exact ⟨fun _ => by decide, fun _ => by omega⟩
  · intro e
    rw [e, e0] at hr
    rcases h.1 with rfl | rfl
    · rw [if_pos rfl] at hr; omega
    · rw [if_neg (by decide)] at hr; omega
  · intro s hs
    rw [Int64.le_iff_toInt_le, Int64.le_iff_toInt_le, hR]
    have := s0 s hs
    rcases h.1 with rfl | rfl
    · rw [if_pos rfl]; exact ⟨⟨fun _ => rfl, fun _ => by omega⟩, ⟨fun q => by omega, fun q => absurd rfl q⟩⟩
    · rw [if_neg (by decide)]; exact ⟨⟨fun q => by omega, fun q => absurd q (by decide)⟩, ⟨fun _ => by decide, fun _ => by omega⟩⟩
theorem PX.nan {l : Int32} (hl : l = 4 ∨ l = 5) {x a : Int64} {k : Nat} {n : Int32} {u : Nat} (h : PX l x a k n u) : f_X1_isNoNumber x l = if k = 3 then 1 else 0 := by
  unfold f_X1_isNoNumber f_X1_noNumber
  have e : f_X1_isReal l = 1 := by rcases hl with rfl | rfl <;> decide
  rw [e, if_neg (by decide)]
  by_cases c : k = 3
  · rw [if_pos c]
    subst c
    rcases hl with rfl | rfl
    · rcases h.2.2.1 rfl with ⟨z, -⟩ | ⟨z, -⟩ | ⟨z, -⟩ | ⟨-, rfl⟩
      · omega
      · omega
      · omega
      · rw [if_pos rfl, if_pos rfl]
    · have e := h.2.2.2 rfl
      subst e
      rcases h.2.1 with ⟨z, -⟩ | ⟨z, -⟩ | ⟨z, -⟩ | ⟨-, rfl⟩
      · omega
      · omega
      · omega
      · rw [if_neg (show ¬ (5 : Int32) = 4 by decide), if_pos rfl]
  · rw [if_neg c]
    obtain ⟨B, D, -, d, z, q⟩ := h.bits hl c
    rcases q with ⟨rfl, rfl, e1, f1⟩ | ⟨rfl, rfl, rfl⟩
    · rw [if_pos rfl, show (2143289344 : Int64) = lN 2143289344 from lN_lit _, if_neg]
      intro q
      rcases h.1 with rfl | rfl
      · rw [sgF_0, lN_inj (by omega) (by omega)] at q; omega
      · rw [sgF_1 (by omega), lN_inj (by omega) (by omega)] at q; omega
    · rw [if_neg (show ¬ (5 : Int32) = 4 by decide), show (9221120237041090560 : Int64) = lN 9221120237041090560 from lN_lit _, if_neg]
      intro q
      rcases h.1 with rfl | rfl
      · rw [sgD_0, lN_inj (by omega) (by omega)] at q; omega
      · rw [sgD_1 (by omega), lN_inj (by omega) (by omega)] at q; omega
theorem PX.zr {l : Int32} (hl : l = 4 ∨ l = 5) {x a : Int64} {k : Nat} {n : Int32} {u : Nat} (h : PX l x a k n u) : f_X1_isZero x l = if k = 0 then 1 else 0 := by
  rcases hl with rfl | rfl
  · exact zero4 h.1 (h.2.2.1 rfl)
  · rw [h.2.2.2 rfl]
    exact zero5 h.1 h.2.1
theorem lt_nle (x y : Int64) : x < y ↔ ¬ y ≤ x := by
  rw [Int64.lt_iff_toInt_lt, Int64.le_iff_toInt_le]
  omega
theorem eq_le (x y : Int64) : x = y ↔ y ≤ x ∧ x ≤ y := by
  rw [Int64.le_iff_toInt_le, Int64.le_iff_toInt_le, ← Int64.toInt_inj]
  omega
/-- the answer of a comparison, from the two orders -/
def cmpA (op : Int32) (L M : Prop) [Decidable L] [Decidable M] : Int32 := if op = 18 then (if L then 0 else 1) else if op = 19 then (if M then 1 else 0) else if op = 20 then (if L ∧ M then 1 else 0) else (if L ∧ M then 0 else 1)
theorem cmp_67 (op : Int32) (x y : Int64) : f_X0_compares_67 op x y = cmpA op (y ≤ x) (x ≤ y) := by
  unfold f_X0_compares_67 cmpA
  by_cases c1 : op = 18
  · rw [if_pos c1, if_pos c1]
  · rw [if_neg c1, if_neg c1]
    by_cases c2 : op = 19
    · rw [if_pos c2, if_pos c2]
      by_cases d : x ≤ y
      · rw [if_neg (fun q => (lt_nle y x).mp q d), if_pos d]
      · rw [if_pos ((lt_nle y x).mpr d), if_neg d]
    · rw [if_neg c2, if_neg c2]
      by_cases d : x = y
      · have e := (eq_le x y).mp d
        rw [if_pos d, if_pos d, if_pos e, if_pos e]
      · have e := fun q => d ((eq_le x y).mpr q)
        rw [if_neg d, if_neg d, if_neg e, if_neg e]
theorem cmp_112 (op : Int32) {L M : Prop} [Decidable L] [Decidable M] (h : L ∨ M) : (if L then (if M then f_X6_holds_151 op 0 else f_X6_holds_151 op 1) else f_X6_holds_151 op (-1)) = some (cmpA op L M) := by
  unfold f_X6_holds_151 cmpA
  by_cases c1 : op = 18
  · simp only [if_pos c1]
    by_cases l : L <;> by_cases m : M <;> simp (decide := true) only [l, m, if_true, if_false]
  · simp only [if_neg c1]
    by_cases c2 : op = 19
    · simp only [if_pos c2]
      by_cases l : L <;> by_cases m : M <;> first | (exact absurd h (fun q => q.elim l m)) | simp (decide := true) only [l, m, if_true, if_false]
    · simp only [if_neg c2]
      by_cases c3 : op = 20
      · simp only [if_pos c3]
        by_cases l : L <;> by_cases m : M <;> simp (decide := true) only [l, m, and_self, and_true, and_false, if_true, if_false]
      · simp only [if_neg c3]
        by_cases l : L <;> by_cases m : M <;> simp (decide := true) only [l, m, and_self, and_true, and_false, if_true, if_false]
theorem cmpA_congr (op : Int32) {L M L' M' : Prop} [Decidable L] [Decidable M] [Decidable L'] [Decidable M'] (h1 : L ↔ L') (h2 : M ↔ M') : cmpA op L M = cmpA op L' M' := by
  unfold cmpA
  simp only [h1, h2]
theorem le_total64 (x y : Int64) : y ≤ x ∨ x ≤ y := by
  rw [Int64.le_iff_toInt_le, Int64.le_iff_toInt_le]
  omega
theorem holds_62 {l : Int32} (hl : l = 4 ∨ l = 5) {x a y b : Int64} {k1 k2 : Nat} {n1 n2 : Int32} {u1 u2 : Nat} (h1 : PX l x a k1 n1 u1) (h2 : PX l y b k2 n2 u2) (op : Int32) : f_X6_holds_62 op a b = some (f_X0_compares op l x y) := by
  unfold f_X6_holds_62 f_X0_compares f_X0_compares_46 f_X6_holds_80 f_X0_compares_17 f_X6_holds_112 f_X6_holds_149
  rw [h1.nan hl, h2.nan hl, h1.2.1.nn h1.1, h2.2.1.nn h2.1, h1.zr hl, h2.zr hl, h1.2.1.zr h1.1, h2.2.1.zr h2.1]
  have e80 : (if op = 21 then (some 1 : Option Int32) else some 0) = some (if op = 21 then 1 else 0) := by split <;> rfl
  have n10 : ¬ (1 : Int32) = 0 := by decide
  have e00 : (0 : Int32) = 0 := rfl
  by_cases c1 : k1 = 3
  · rw [if_pos c1, if_neg n10, if_neg n10]
    exact e80
  · rw [if_neg c1, if_pos e00, if_pos e00]
    by_cases c2 : k2 = 3
    · rw [if_pos c2, if_neg n10, if_neg n10]
      exact e80
    · rw [if_neg c2, if_pos e00, if_pos e00, cmp_67, cmp_67, cmp_67, cmp_67]
      have T := cmp_112 op (L := f_X6_rank b ≤ f_X6_rank a) (M := f_X6_rank a ≤ f_X6_rank b) (le_total64 _ _)
      by_cases z1 : k1 = 0
      · rw [if_pos z1, if_neg n10, if_neg n10]
        by_cases z2 : k2 = 0
        · rw [if_pos z2, if_neg n10, if_neg n10]
          have := cmp_112 op (L := (0 : Int64) ≤ 0) (M := (0 : Int64) ≤ 0) (Or.inl (by decide))
          rw [if_pos (show (0 : Int64) ≤ 0 by decide), if_pos (show (0 : Int64) ≤ 0 by decide)] at this
          exact this
        · rw [if_neg z2, if_pos e00, if_pos e00, T]
          obtain ⟨q1, q2, q3, q4⟩ := rank_z hl h2 c2 z2
          obtain ⟨B, D, ha, d, z, -⟩ := h1.bits hl c1
          have hD : D = 0 := z.mpr z1
          have q5 := q4 n1 h1.1
          rw [← hD, ← ha] at q5
          exact congrArg some (cmpA_congr op (q5.2.trans q2.symm) (q5.1.trans q1.symm))
      · rw [if_neg z1, if_pos e00, if_pos e00, T]
        by_cases z2 : k2 = 0
        · rw [if_pos z2, if_neg n10]
          obtain ⟨q1, q2, q3, q4⟩ := rank_z hl h1 c1 z1
          obtain ⟨B, D, ha, d, z, -⟩ := h2.bits hl c2
          have hD : D = 0 := z.mpr z2
          have q5 := q4 n2 h2.1
          rw [← hD, ← ha] at q5
          exact congrArg some (cmpA_congr op (q5.1.trans q1.symm) (q5.2.trans q2.symm))
        · rw [if_neg z2, if_pos e00]
          exact congrArg some (cmpA_congr op (rank_le hl h2 h1 c2 c1).symm (rank_le hl h1 h2 c1 c2).symm)
