/-! Reals: choices, signs, sizes, roundings. -/
theorem t32 {X : Nat} (hX : X < 2 ^ 64) : (Int64.toInt32 (lN X)).toBitVec.toNat = X % 2 ^ 32 := by
  rw [Int64.toBitVec_toInt32, BitVec.signExtend_eq_setWidth_of_le _ (show 32 ≤ 64 by omega), BitVec.toNat_setWidth, lN_tn hX]
theorem i32_64 (v : Int32) {N : Nat} (h : v.toBitVec.toNat = N) : Int32.toInt64 v = lN (if N < 2 ^ 31 then N else N + (2 ^ 64 - 2 ^ 32)) := by
  have hN : N < 2 ^ 32 := by rw [← h]; exact v.toBitVec.isLt
  apply lN_ext
  rw [Int32.toBitVec_toInt64, BitVec.toNat_signExtend, BitVec.msb_eq_decide, BitVec.toNat_setWidth, h]
  by_cases c : N < 2 ^ 31
  · rw [if_pos c, if_neg (by simp only [decide_eq_true_eq]; omega)]
    omega
  · rw [if_neg c, if_pos (by simp only [decide_eq_true_eq]; omega)]
    omega
theorem xor31 {X : Nat} (hX : X < 2 ^ 31) : X ^^^ 2 ^ 31 = X + 2 ^ 31 ∧ (X + 2 ^ 31) ^^^ 2 ^ 31 = X := by
  have e : X ^^^ 2 ^ 31 = X ||| 2 ^ 31 := by
    apply Nat.eq_of_testBit_eq
    intro i
    rw [Nat.testBit_xor, Nat.testBit_or, Nat.testBit_two_pow]
    by_cases c : 31 = i
    · rw [← c, Nat.testBit_lt_two_pow hX]
      rfl
    · rw [decide_eq_false c, Bool.xor_false, Bool.or_false]
  have e2 := lor_add (a := 1) (b := X) (k := 31) hX
  rw [Nat.one_mul] at e2
  have e3 : X ^^^ 2 ^ 31 = X + 2 ^ 31 := by rw [e, Nat.or_comm, e2, Nat.add_comm]
  refine ⟨e3, ?_⟩
  rw [← e3, Nat.xor_assoc, Nat.xor_self, Nat.xor_zero]
theorem neg4 {n : Int32} (hn : n = 0 ∨ n = 1) {F : Nat} (hF : F < 2 ^ 31) : Int32.toInt64 (Int64.toInt32 (sgF n F) ^^^ (-2147483648)) = sgF (flip n) F := by
  have m : (-2147483648 : Int32).toBitVec.toNat = 2 ^ 31 := by decide
  rcases hn with rfl | rfl
  · have h : (Int64.toInt32 (sgF 0 F) ^^^ (-2147483648)).toBitVec.toNat = F + 2 ^ 31 := by
      rw [Int32.toBitVec_xor, BitVec.toNat_xor, m, sgF_0, t32 (by omega), Nat.mod_eq_of_lt (by omega), (xor31 hF).1]
    rw [i32_64 _ h, if_neg (by omega)]
    exact (congrArg lN (show F + 2 ^ 31 + (2 ^ 64 - 2 ^ 32) = F + (2 ^ 64 - 2 ^ 31) by omega)).trans (sgF_1 hF).symm
  · have h : (Int64.toInt32 (sgF 1 F) ^^^ (-2147483648)).toBitVec.toNat = F := by
      rw [Int32.toBitVec_xor, BitVec.toNat_xor, m, sgF_1 hF, t32 (by omega), show (F + (2 ^ 64 - 2 ^ 31)) % 2 ^ 32 = F + 2 ^ 31 by omega, (xor31 hF).2]
    rw [i32_64 _ h, if_pos hF]
    exact (sgF_0 F).symm
theorem PX.neg {l : Int32} (hl : l = 4 ∨ l = 5) {x a : Int64} {k : Nat} {n : Int32} {u : Nat} (h : PX l x a k n u) : PX l (f_X0_negativeOf x l) (f_X6_other a) k (flip n) u := by
  refine ⟨flip_b n, other_RV h.1 h.2.1, fun e4 => ?_, fun e5 => ?_⟩
  · unfold f_X0_negativeOf
    rw [h.nan hl]
    by_cases c : k = 3
    · rw [if_pos c, if_neg (by decide)]
      rcases h.2.2.1 e4 with ⟨z, -⟩ | ⟨z, -⟩ | ⟨z, -⟩ | ⟨-, z⟩
      · omega
      · omega
      · omega
      · exact Or.inr (Or.inr (Or.inr ⟨c, z⟩))
    · rw [if_neg c, if_pos rfl, if_pos e4]
      rcases h.2.2.1 e4 with ⟨rfl, rfl, rfl⟩ | ⟨rfl, F, rfl, f0, f1, rfl⟩ | ⟨rfl, rfl⟩ | ⟨z, -⟩
      · exact Or.inl ⟨rfl, rfl, neg4 h.1 (by omega)⟩
      · exact Or.inr (Or.inl ⟨rfl, F, neg4 h.1 (by omega), f0, f1, rfl⟩)
      · exact Or.inr (Or.inr (Or.inl ⟨rfl, neg4 h.1 (by omega)⟩))
      · exact absurd z c
  · unfold f_X0_negativeOf f_X6_other
    have e := h.2.2.2 e5
    rw [h.nan hl, h.2.1.nn h.1]
    by_cases c : k = 3
    · rw [if_pos c, if_neg (by decide), if_neg (by decide), e]
      rcases h.2.1 with ⟨z, -⟩ | ⟨z, -⟩ | ⟨z, -⟩ | ⟨-, z⟩
      · omega
      · omega
      · omega
      · exact z
    · rw [if_neg c, if_pos rfl, if_pos rfl, if_neg (by rw [e5]; decide), if_pos e5, e]
theorem PX.k3 {l : Int32} {x a : Int64} {k : Nat} {n : Int32} {u : Nat} (h : PX l x a k n u) (hk : k = 3) (n' : Int32) (hn : n' = 0 ∨ n' = 1) (u' : Nat) : PX l x a k n' u' := by
  subst hk
  refine ⟨hn, ?_, fun e4 => ?_, h.2.2.2⟩
  · rcases h.2.1 with ⟨z, -⟩ | ⟨z, -⟩ | ⟨z, -⟩ | ⟨-, z⟩
    · omega
    · omega
    · omega
    · exact Or.inr (Or.inr (Or.inr ⟨rfl, z⟩))
  · rcases h.2.2.1 e4 with ⟨z, -⟩ | ⟨z, -⟩ | ⟨z, -⟩ | ⟨-, z⟩
    · omega
    · omega
    · omega
    · exact Or.inr (Or.inr (Or.inr ⟨rfl, z⟩))
/-- the sign of the class's value -/
theorem PX.sgn {l : Int32} (hl : l = 4 ∨ l = 5) {x a : Int64} {k : Nat} {n : Int32} {u : Nat} (h : PX l x a k n u) : ((0 : Int64) ≤ x ↔ (k = 3 ∨ n = 0)) ∧ ((0 : Int64) ≤ a ↔ (k = 3 ∨ n = 0)) := by
  by_cases c : k = 3
  · have h4 : (0 : Int64) ≤ 2143289344 := by decide
    have h5 : (0 : Int64) ≤ 9221120237041090560 := by decide
    have ha : a = 9221120237041090560 := by
      rcases h.2.1 with ⟨z, -⟩ | ⟨z, -⟩ | ⟨z, -⟩ | ⟨-, z⟩
      · omega
      · omega
      · omega
      · exact z
    refine ⟨⟨fun _ => Or.inl c, fun _ => ?_⟩, ⟨fun _ => Or.inl c, fun _ => by rw [ha]; exact h5⟩⟩
    rcases hl with e | e
    · rcases h.2.2.1 e with ⟨z, -⟩ | ⟨z, -⟩ | ⟨z, -⟩ | ⟨-, z⟩
      · omega
      · omega
      · omega
      · rw [z]; exact h4
    · rw [h.2.2.2 e, ha]; exact h5
  · obtain ⟨B, D, rfl, d, -, q⟩ := h.bits hl c
    have e : ∀ p : Prop, (p ↔ n = 0) → (p ↔ (k = 3 ∨ n = 0)) := fun p hp => hp.trans ⟨Or.inr, fun q => q.resolve_left c⟩
    refine ⟨e _ ?_, e _ (sgD_nonneg h.1 (by omega))⟩
    rcases q with ⟨-, rfl, b1, -⟩ | ⟨-, rfl, b1⟩
    · exact sgF_nonneg h.1 (by omega)
    · exact sgD_nonneg h.1 (by omega)
theorem mask_RV {a : Int64} {k : Nat} {n : Int32} {u : Nat} (hn : n = 0 ∨ n = 1) (h : RV a k n u) (h3 : ¬ k = 3) (s : Int32) : RV (f_X6_signed s (a &&& 9223372036854775807)) k s u := by
  rcases h with ⟨rfl, rfl, rfl⟩ | ⟨rfl, D, rfl, h0, h1, rfl⟩ | ⟨rfl, rfl⟩ | ⟨rfl, rfl⟩
  · rw [mask63 hn (by omega)]
    exact Or.inl ⟨rfl, rfl, rfl⟩
  · rw [mask63 hn (by omega)]
    exact Or.inr (Or.inl ⟨rfl, D, rfl, h0, h1, rfl⟩)
  · rw [mask63 hn (by omega)]
    exact Or.inr (Or.inr (Or.inl ⟨rfl, rfl⟩))
  · exact absurd rfl h3
/-- x with the sign s -/
theorem PX.withSign {l : Int32} (hl : l = 4 ∨ l = 5) {x a : Int64} {k : Nat} {n : Int32} {u : Nat} (h : PX l x a k n u) (h3 : ¬ k = 3) {s : Int32} (hs : s = 0 ∨ s = 1) : PX l (if n = s then x else f_X0_negativeOf x l) (f_X6_signed s (a &&& 9223372036854775807)) k s u := by
  have R := mask_RV h.1 h.2.1 h3 s
  by_cases e : n = s
  · rw [if_pos e]
    subst e
    refine ⟨hs, R, h.2.2.1, fun e5 => ?_⟩
    rw [R.f5, h.2.2.2 e5, ← h.2.1.f5]
  · rw [if_neg e]
    have N := h.neg hl
    have fe : flip n = s := by
      rcases h.1 with rfl | rfl <;> rcases hs with rfl | rfl
      · exact absurd rfl e
      · rfl
      · rfl
      · exact absurd rfl e
    rw [fe] at N
    refine ⟨hs, R, N.2.2.1, fun e5 => ?_⟩
    rw [R.f5, N.2.2.2 e5, ← N.2.1.f5]
theorem PX.size {l : Int32} (hl : l = 4 ∨ l = 5) {x a : Int64} {k : Nat} {n : Int32} {u : Nat} (h : PX l x a k n u) : ∃ r, f_X6_onReal 1 a = some r ∧ PX l (f_X0_sizeOf x l) r k 0 u := by
  unfold f_X6_onReal f_X0_sizeOf
  rw [if_neg (by decide), if_pos rfl, h.2.1.nn h.1]
  have S := (h.sgn hl).1
  by_cases c : k = 3
  · rw [if_pos c, if_neg (by decide), ifp S (Or.inl c)]
    refine ⟨_, rfl, ?_⟩
    have := h.k3 c 0 (Or.inl rfl) u
    have ha : a = 9221120237041090560 := by
      rcases h.2.1 with ⟨z, -⟩ | ⟨z, -⟩ | ⟨z, -⟩ | ⟨-, z⟩
      · omega
      · omega
      · omega
      · exact z
    rw [← ha]
    exact this
  · rw [if_neg c, if_pos rfl]
    refine ⟨_, rfl, ?_⟩
    have W := h.withSign hl c (s := 0) (Or.inl rfl)
    have e : (if (0 : Int64) ≤ x then x else f_X0_negativeOf x l) = if n = 0 then x else f_X0_negativeOf x l := by
      by_cases g : n = 0
      · rw [ifp S (Or.inr g), if_pos g]
      · rw [ifn S (fun q => q.elim c g), if_neg g]
    rw [e]
    exact W
theorem PX.one {l : Int32} (hl : l = 4 ∨ l = 5) : PX l (if l = 4 then 1065353216 else 4607182418800017408) 4607182418800017408 1 0 (uV 1 0) := by
  have e5 : (4607182418800017408 : Int64) = sgD 0 (1023 * 2 ^ 52) := by decide
  have e4 : (1065353216 : Int64) = sgF 0 (127 * 2 ^ 23) := by decide
  refine ⟨Or.inl rfl, Or.inr (Or.inl ⟨rfl, _, e5, by omega, by omega, ?_⟩), fun h => Or.inr (Or.inl ⟨rfl, 127 * 2 ^ 23, by rw [if_pos h]; exact e4, by omega, by omega, ?_⟩), fun h => by rw [if_neg (by rw [h]; decide)]⟩
  · rw [show vM 52 (1023 * 2 ^ 52 / 2 ^ 52) (1023 * 2 ^ 52 % 2 ^ 52) = 1 * 2 ^ 52 by decide, show vE 52 1023 (1023 * 2 ^ 52 / 2 ^ 52) = 0 - (52 : Nat) by decide]
    exact uV_shl (by omega)
  · unfold uD
    rw [show vM 23 (127 * 2 ^ 23 / 2 ^ 23) (127 * 2 ^ 23 % 2 ^ 23) = 1 * 2 ^ 23 by decide, show vE 23 127 (127 * 2 ^ 23 / 2 ^ 23) = 0 - (23 : Nat) by decide]
    exact uV_shl (by omega)
theorem PX.sign {l : Int32} (hl : l = 4 ∨ l = 5) {x a : Int64} {k : Nat} {n : Int32} {u : Nat} (h : PX l x a k n u) : ∃ r k' n' u', f_X6_onReal 2 a = some r ∧ PX l (f_X0_signOf x l) r k' n' u' := by
  unfold f_X6_onReal f_X0_signOf f_X0_signOf_41 f_X6_onReal_87
  rw [if_neg (by decide), if_neg (by decide), if_pos rfl, h.2.1.nn h.1, h.nan hl, h.zr hl, h.2.1.zr h.1]
  by_cases c : k = 3
  · rw [if_pos c, if_neg (by decide), if_neg (by decide)]
    have ha : a = 9221120237041090560 := by
      rcases h.2.1 with ⟨z, -⟩ | ⟨z, -⟩ | ⟨z, -⟩ | ⟨-, z⟩
      · omega
      · omega
      · omega
      · exact z
    exact ⟨_, k, n, u, by rw [← ha], h⟩
  · rw [if_neg c, if_pos rfl, if_pos rfl]
    by_cases z : k = 0
    · rw [if_pos z, if_neg (by decide), if_neg (by decide)]
      exact ⟨a, k, n, u, rfl, h⟩
    · rw [if_neg z, if_pos rfl, if_pos rfl]
      obtain ⟨S1, S2⟩ := h.sgn hl
      have O := PX.one hl
      have on : (if l = 4 then (if (0 : Int64) ≤ x then (1065353216 : Int64) else f_X0_negativeOf 1065353216 l) else if l = 5 then (if (0 : Int64) ≤ x then 4607182418800017408 else f_X0_negativeOf 4607182418800017408 l) else (if (0 : Int64) ≤ x then 1 else f_X0_negativeOf 1 l)) = if (0 : Int64) ≤ x then (if l = 4 then 1065353216 else 4607182418800017408) else f_X0_negativeOf (if l = 4 then 1065353216 else 4607182418800017408) l := by
        rcases hl with rfl | rfl
        · rw [if_pos (show (4 : Int32) = 4 from rfl), if_pos (show (4 : Int32) = 4 from rfl)]
        · rw [if_neg (show ¬ (5 : Int32) = 4 by decide), if_pos (show (5 : Int32) = 5 from rfl), if_neg (show ¬ (5 : Int32) = 4 by decide)]
      rw [on]
      have p0 : f_X6_pack 0 1 0 = some 4607182418800017408 := by
        obtain ⟨r, r1, r2⟩ := pack_RV (n := 0) (q := 1) (t := 0) (by omega) (by omega) (by omega)
        have e : r = 4607182418800017408 := by rw [r2.f5, O.2.1.f5]; rfl
        rw [← e]
        exact r1
      have N := O.neg hl
      have p1 : f_X6_pack 1 1 0 = some (f_X6_other 4607182418800017408) := by
        obtain ⟨r, r1, r2⟩ := pack_RV (n := 1) (q := 1) (t := 0) (by omega) (by omega) (by omega)
        have e : r = f_X6_other 4607182418800017408 := by rw [r2.f5, N.2.1.f5]; rfl
        rw [← e]
        exact r1
      by_cases g : n = 0
      · rw [ifp S1 (Or.inr g), ifp S2 (Or.inr g), p0, gb_some]
        exact ⟨_, _, _, _, rfl, O⟩
      · rw [ifn S1 (fun q => q.elim c g), ifn S2 (fun q => q.elim c g), p1, gb_some]
        exact ⟨_, _, _, _, rfl, N⟩
/-! Two reals: choices and signs. -/
theorem chosen_ok {l : Int32} (hl : l = 4 ∨ l = 5) {x a y b : Int64} {k1 k2 : Nat} {n1 n2 : Int32} {u1 u2 : Nat} (h1 : PX l x a k1 n1 u1) (h2 : PX l y b k2 n2 u2) {op : Int32} (hop : op = 8 ∨ op = 9 ∨ op = 10 ∨ op = 11) : ∃ k n u, PX l (f_X0_chosen op l x y) (f_X6_extreme op a b) k n u := by
  unfold f_X0_chosen f_X6_extreme f_X0_chosen_76 f_X0_chosen_81 f_X0_chosen_103 f_X0_chosen_21 f_X0_chosen_33 f_X0_chosen_38 f_X6_extreme_14 f_X6_extreme_56 f_X6_extreme_71
  simp only [gl]
  rw [h1.nan hl, h2.nan hl, h1.2.1.nn h1.1, h2.2.1.nn h2.1]
  have n10 : ¬ (1 : Int32) = 0 := by decide
  have e00 : (0 : Int32) = 0 := rfl
  have nanP : PX l (f_X1_noNumber l) 9221120237041090560 3 0 0 := by
    refine ⟨Or.inl rfl, Or.inr (Or.inr (Or.inr ⟨rfl, rfl⟩)), fun e => Or.inr (Or.inr (Or.inr ⟨rfl, by rw [e]; decide⟩)), fun e => by rw [e]; decide⟩
  by_cases c1 : k1 = 3
  · simp only [if_pos c1, if_neg n10]
    rcases hop with rfl | rfl | rfl | rfl <;> simp (decide := true) only [if_true, if_false]
    · exact ⟨_, _, _, nanP⟩
    · exact ⟨_, _, _, nanP⟩
    · exact ⟨_, _, _, h2⟩
    · exact ⟨_, _, _, h2⟩
  · simp only [if_neg c1, if_pos e00]
    by_cases c2 : k2 = 3
    · simp only [if_pos c2, if_neg n10]
      rcases hop with rfl | rfl | rfl | rfl <;> simp (decide := true) only [if_true, if_false]
      · exact ⟨_, _, _, nanP⟩
      · exact ⟨_, _, _, nanP⟩
      · exact ⟨_, _, _, h1⟩
      · exact ⟨_, _, _, h1⟩
    · simp only [if_neg c2, if_pos e00]
      have R := rank_le hl h2 h1 c2 c1
      by_cases g : f_X6_rank b ≤ f_X6_rank a
      · simp only [if_pos g, if_pos (R.mpr g)]
        rcases hop with rfl | rfl | rfl | rfl <;> simp (decide := true) only [if_true, if_false]
        · exact ⟨_, _, _, h2⟩
        · exact ⟨_, _, _, h1⟩
        · exact ⟨_, _, _, h2⟩
        · exact ⟨_, _, _, h1⟩
      · simp only [if_neg g, if_neg (fun q => g (R.mp q))]
        rcases hop with rfl | rfl | rfl | rfl <;> simp (decide := true) only [if_true, if_false]
        · exact ⟨_, _, _, h1⟩
        · exact ⟨_, _, _, h2⟩
        · exact ⟨_, _, _, h1⟩
        · exact ⟨_, _, _, h2⟩
