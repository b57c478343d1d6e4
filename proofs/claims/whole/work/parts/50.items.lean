/-! Whole numbers; two values, one value, in every lane. -/
theorem kept_neg {l : Int32} (hl : l = 1 ∨ l = 2 ∨ l = 3) (w : Int64) : f_X6_kept (-(f_X6_kept w l)) l = f_X6_kept (-w) l := by
  rcases hl with rfl | rfl | rfl
  · rw [kept_1, kept_1, kept_1, Int64.toInt32_neg, Int64.toInt32_neg, Int32.toInt32_toInt64, Int32.toInt8_neg, Int32.toInt8_neg, Int8.toInt8_toInt32]
  · rw [kept_2, kept_2, kept_2, Int64.toInt32_neg, Int64.toInt32_neg, Int32.toInt32_toInt64]
  · rw [kept_3, kept_3, kept_3]
theorem nn_msb (x : Int64) : (0 : Int64) ≤ x ↔ x.toBitVec.msb = false := by
  obtain ⟨X, hX, rfl⟩ := i64_N x
  rw [BitVec.msb_eq_decide, lN_tn hX, decide_eq_false_iff_not]
  by_cases c : X < 2 ^ 63
  · exact ⟨fun _ => by omega, fun _ => lN_nonneg c⟩
  · exact ⟨fun q => absurd q (lN_neg (by omega) hX), fun q => by omega⟩
theorem nn_xor (x y : Int64) : (0 : Int64) ≤ (x ^^^ y) ↔ ((0 : Int64) ≤ x ↔ (0 : Int64) ≤ y) := by
  rw [nn_msb, nn_msb, nn_msb, Int64.toBitVec_xor, BitVec.msb_xor]
  cases x.toBitVec.msb <;> cases y.toBitVec.msb <;> decide
theorem rem_z (x y : Int64) : g_lrem x y = 0 ↔ x / y * y = x := by
  unfold g_lrem
  rw [Int64.sub_eq_iff_eq_add, Int64.zero_add]
  exact ⟨fun q => q.symm, fun q => q.symm⟩
theorem down_eq (x y : Int64) (hy : ¬ y = 0) : f_X6_downward x y = f_J9_floorDiv_f86c9 x y := by
  unfold f_X6_downward f_J9_floorDiv_f86c9 f_X6_downward_24 f_X6_downward_35
  rw [gneL_ok hy, gneL_ok hy]
  simp only [gl]
  rw [gneL_ok hy]
  have r := rem_z x y
  have s := nn_xor x y
  by_cases c1 : x / y * y = x
  · rw [ifp r c1, if_pos c1]
    split <;> rfl
  · rw [ifn r c1, if_neg c1]
    by_cases a : (0 : Int64) ≤ x <;> by_cases b : (0 : Int64) ≤ y
    · rw [if_pos a, if_pos b, if_pos trivial, ifp s ⟨fun _ => b, fun _ => a⟩]
    · rw [if_pos a, if_neg b, if_neg (by decide), ifn s (fun q => b (q.mp a))]
    · rw [if_neg a, if_pos b, if_neg (by decide), ifn s (fun q => a (q.mpr b))]
    · rw [if_neg a, if_neg b, if_pos trivial, ifp s ⟨fun q => absurd q a, fun q => absurd q b⟩]
theorem mod_eq (x y : Int64) (hy : ¬ y = 0) : (gb (f_X6_downward x y) fun r => some (x - r * y)) = f_J9_floorMod_f86c9 x y := by
  rw [down_eq x y hy]
  unfold f_J9_floorDiv_f86c9 f_J9_floorMod_f86c9
  rw [gneL_ok hy, gneL_ok hy]
  simp only [gl]
  have r := rem_z x y
  by_cases c0 : (0 : Int64) ≤ (x ^^^ y)
  · rw [if_pos c0, if_pos c0, gb_some]
    rfl
  · rw [if_neg c0, if_neg c0]
    by_cases c1 : x / y * y = x
    · rw [if_pos c1, ifp r c1, gb_some]
      rfl
    · rw [if_neg c1, ifn r c1, gb_some, Int64.sub_mul, Int64.one_mul]
      unfold g_lrem
      exact congrArg some (by rw [Int64.sub_eq_add_neg, Int64.neg_sub, Int64.sub_eq_add_neg y, Int64.add_comm y, ← Int64.add_assoc, ← Int64.sub_eq_add_neg])
/-- acts of whole numbers that aren't choices, nor with a sign, nor a quotient by zero -/
def WOP (op : Int32) : Prop := op = 0 ∨ op = 1 ∨ op = 2 ∨ op = 4 ∨ op = 5 ∨ op = 6 ∨ op = 7 ∨ op = 12 ∨ op = 13 ∨ op = 14 ∨ op = 15 ∨ op = 16 ∨ op = 17
theorem wh_25 {op l : Int32} (h : WOP op) {x y : Int64} (hz : (op = 4 ∨ op = 5 ∨ op = 6 ∨ op = 7) → ¬ y = 0) (m : Int32) : ∃ r, f_X0_ofWholes_25 op l x y m (Int64.toInt32 y) = some r ∧ f_X6_wholes_24 op x y l m = some r := by
  unfold f_X0_ofWholes_25 f_X6_wholes_24 f_X0_ofWholes_220 f_X0_withoutSign
  simp only [gl]
  rcases h with rfl | rfl | rfl | rfl | rfl | rfl | rfl | rfl | rfl | rfl | rfl | rfl | rfl
  · simp (decide := true) only [if_true, if_false]; exact ⟨_, rfl, rfl⟩
  · simp (decide := true) only [if_true, if_false]; exact ⟨_, rfl, rfl⟩
  · simp (decide := true) only [if_true, if_false]; exact ⟨_, rfl, rfl⟩
  · have q := hz (Or.inl rfl)
    simp (decide := true) only [if_true, if_false, if_neg q]
    rw [gneL_ok q]
    exact ⟨_, rfl, rfl⟩
  · have q := hz (Or.inr (Or.inl rfl))
    simp (decide := true) only [if_true, if_false, if_neg q]
    rw [down_eq x y q]
    unfold f_J9_floorDiv_f86c9
    rw [gneL_ok q]
    simp only [gl]
    split
    · exact ⟨_, rfl, rfl⟩
    · split
      · exact ⟨_, rfl, rfl⟩
      · exact ⟨_, rfl, rfl⟩
  · have q := hz (Or.inr (Or.inr (Or.inl rfl)))
    simp (decide := true) only [if_true, if_false, if_neg q]
    rw [gneL_ok q]
    exact ⟨_, rfl, rfl⟩
  · have q := hz (Or.inr (Or.inr (Or.inr rfl)))
    simp (decide := true) only [if_true, if_false, if_neg q]
    rw [mod_eq x y q]
    unfold f_J9_floorMod_f86c9
    rw [gneL_ok q]
    simp only [gl]
    split
    · exact ⟨_, rfl, rfl⟩
    · split
      · exact ⟨_, rfl, rfl⟩
      · exact ⟨_, rfl, rfl⟩
  · simp (decide := true) only [if_true, if_false]; exact ⟨_, rfl, rfl⟩
  · simp (decide := true) only [if_true, if_false]; exact ⟨_, rfl, rfl⟩
  · simp (decide := true) only [if_true, if_false]; exact ⟨_, rfl, rfl⟩
  · simp (decide := true) only [if_true, if_false]; exact ⟨_, rfl, rfl⟩
  · simp (decide := true) only [if_true, if_false]; exact ⟨_, rfl, rfl⟩
  · simp (decide := true) only [if_true, if_false]
    refine ⟨_, rfl, ?_⟩
    split
    · rfl
    · split <;> rfl
theorem wh_ok {op l : Int32} (h : WOP op) {x y : Int64} (hz : (op = 4 ∨ op = 5 ∨ op = 6 ∨ op = 7) → ¬ y = 0) : ∃ r, f_X0_ofWholes op l x y = some r ∧ f_X6_wholes op x y l = some r := by
  unfold f_X0_ofWholes f_X6_wholes
  by_cases c1 : l = 1
  · rw [if_pos c1, if_pos c1]; exact wh_25 h hz 7
  · rw [if_neg c1, if_neg c1]
    by_cases c2 : l = 2
    · rw [if_pos c2, if_pos c2]; exact wh_25 h hz 31
    · rw [if_neg c2, if_neg c2]; exact wh_25 h hz 63
theorem LW.re {l : Int32} (h : LW l) : f_X1_isReal l = 0 := by rcases h with rfl | rfl | rfl | rfl <;> decide
theorem LW.nn {l : Int32} (h : LW l) (x : Int64) : f_X1_isNoNumber x l = 0 := by
  unfold f_X1_isNoNumber
  rw [h.re, if_pos rfl]
theorem LW.rk {l : Int32} (h : LW l) (x : Int64) : f_X0_rankOf x l = x := by
  unfold f_X0_rankOf
  rw [h.re, if_pos rfl]
  split <;> rfl
theorem LW.cmp {l : Int32} (h : LW l) (op : Int32) (x y : Int64) : f_X0_compares op l x y = cmpA op (y ≤ x) (x ≤ y) := by
  unfold f_X0_compares f_X0_compares_46
  rw [h.nn, h.nn, if_pos rfl, if_pos rfl, zero_w h, zero_w h, h.rk, h.rk]
  by_cases zx : x = 0
  · rw [if_pos zx, if_neg (by decide), zx]
    by_cases zy : y = 0
    · rw [if_pos zy, if_neg (by decide), zy, cmp_67]
    · rw [if_neg zy, if_pos rfl, cmp_67]
  · rw [if_neg zx, if_pos rfl]
    by_cases zy : y = 0
    · rw [if_pos zy, if_neg (by decide), zy, cmp_67]
    · rw [if_neg zy, if_pos rfl, cmp_67]
theorem cmp_b (op : Int32) (L M : Prop) [Decidable L] [Decidable M] : cmpA op L M = 0 ∨ cmpA op L M = 1 := by
  unfold cmpA
  repeat' split
  all_goals first | exact Or.inl rfl | exact Or.inr rfl
theorem cmpr_b (op l : Int32) (x y : Int64) : f_X0_compares op l x y = 0 ∨ f_X0_compares op l x y = 1 := by
  unfold f_X0_compares f_X0_compares_46 f_X0_compares_17
  rw [cmp_67, cmp_67, cmp_67, cmp_67]
  repeat' split
  all_goals first | exact Or.inl rfl | exact Or.inr rfl | exact cmp_b _ _ _
/-- comparisons -/
theorem two_cmp (G : gG) (ar : Nat) {op l : Int32} (hop : op = 18 ∨ op = 19 ∨ op = 20 ∨ op = 21) (hl : LN l) {x y : Int64} (hx : VAL l x) (hy : VAL l y) :
    ∃ r, f_X6_holds op x y l = some r ∧ f_X0_ofTwo G ar op l x y = some (if r = 0 then 0 else 1, G) := by
  refine ⟨f_X0_compares op l x y, ?_, ?_⟩
  · unfold f_X6_holds f_X6_holds_46 f_X6_holds_27
    rcases hl.cs with w | rfl | rfl
    · have n : ¬ (4 : Int32) ≤ l := by rcases w with rfl | rfl | rfl | rfl <;> decide
      rw [if_neg n, w.cmp]
      exact cmp_112 op (le_total64 _ _)
    · obtain ⟨a, k1, n1, u1, p1, q1⟩ := PX.of (Or.inl rfl) hx
      obtain ⟨b, k2, n2, u2, p2, q2⟩ := PX.of (Or.inl rfl) hy
      rw [if_pos (by decide), if_pos rfl, q1 rfl, gb_some, if_pos rfl, q2 rfl, gb_some]
      exact holds_62 (Or.inl rfl) p1 p2 op
    · obtain ⟨a, k1, n1, u1, p1, q1⟩ := PX.of (Or.inr rfl) hx
      obtain ⟨b, k2, n2, u2, p2, q2⟩ := PX.of (Or.inr rfl) hy
      rw [if_pos (by decide), if_neg (by decide), if_neg (by decide)]
      have e1 := p1.2.2.2 rfl
      have e2 := p2.2.2.2 rfl
      have := holds_62 (Or.inr rfl) p1 p2 op
      rw [← e1, ← e2] at this
      exact this
  · unfold f_X0_ofTwo
    have e : f_X0_isComparison op = 1 := by rcases hop with rfl | rfl | rfl | rfl <;> decide
    rw [e, if_neg (by decide)]
    split <;> rfl
/-- acts of whole lanes -/
theorem two_whole (G : gG) (ar : Nat) {op l : Int32} (hl : LW l) {x y : Int64} (hx : VAL l x) (hy : VAL l y) (hop : WOP op ∨ (op = 8 ∨ op = 9 ∨ op = 10 ∨ op = 11) ∨ (op = 22 ∧ ¬ l = 0)) (hz : (op = 4 ∨ op = 5 ∨ op = 6 ∨ op = 7) → ¬ y = 0) :
    ∃ r, f_X6_wholes op x y l = some r ∧ f_X0_ofTwo G ar op l x y = some (f_X6_kept r l, G) := by
  rcases hop with hw | hc | ⟨rfl, hl0⟩
  · obtain ⟨r, r1, r2⟩ := wh_ok (l := l) hw hz
    refine ⟨r, r2, ?_⟩
    unfold f_X0_ofTwo f_X0_ofTwo_45
    rw [hl.re, if_pos rfl, r1, gb_some, low_kept hl.ln]
    rcases hw with rfl | rfl | rfl | rfl | rfl | rfl | rfl | rfl | rfl | rfl | rfl | rfl | rfl <;> simp (decide := true) only [if_true, if_false, f_X0_isComparison]
  · have e : f_X0_ofTwo G ar op l x y = some (f_X0_chosen op l x y, G) := by
      unfold f_X0_ofTwo
      rcases hc with rfl | rfl | rfl | rfl <;> simp (decide := true) only [if_true, if_false, f_X0_isComparison]
    rw [e]
    have c : f_X0_chosen op l x y = if (op = 8 ∨ op = 10) then (if y ≤ x then y else x) else (if y ≤ x then x else y) := by
      unfold f_X0_chosen f_X0_chosen_76 f_X0_chosen_81 f_X0_chosen_103
      simp only [gl]
      rw [hl.nn, hl.nn, hl.rk, hl.rk]
      rcases hc with rfl | rfl | rfl | rfl <;> simp (decide := true) only [if_true, if_false]
    have w : ∃ r, f_X6_wholes op x y l = some r ∧ r = if (op = 8 ∨ op = 10) then (if y ≤ x then y else x) else (if y ≤ x then x else y) := by
      have le : (if x ≤ y then y else x) = if y ≤ x then x else y := by
        by_cases a : x ≤ y
        · rw [if_pos a]
          by_cases b : y ≤ x
          · rw [if_pos b]; exact ((eq_le x y).mpr ⟨b, a⟩).symm
          · rw [if_neg b]
        · rw [if_neg a, if_pos ((le_total64 x y).resolve_right a)]
      have w24 : ∀ m, f_X6_wholes_24 op x y l m = some (if (op = 8 ∨ op = 10) then (if y ≤ x then y else x) else (if y ≤ x then x else y)) := by
        intro m
        unfold f_X6_wholes_24 f_X6_wholes_156 f_X6_wholes_168
        simp only [gl]
        rcases hc with rfl | rfl | rfl | rfl <;> simp (decide := true) only [if_true, if_false]
        · split <;> rfl
        · rw [← le]; split <;> rfl
        · split <;> rfl
        · rw [← le]; split <;> rfl
      unfold f_X6_wholes
      rw [w24, w24, w24]
      refine ⟨_, ?_, rfl⟩
      split
      · rfl
      · split <;> rfl
    obtain ⟨r, w1, w2⟩ := w
    refine ⟨r, w1, ?_⟩
    have hv : VAL l r := by
      rw [w2]
      split
      · split
        · exact hy
        · exact hx
      · split
        · exact hx
        · exact hy
    rw [hv, c, w2]
  · have l3 : l = 1 ∨ l = 2 ∨ l = 3 := by
      rcases hl with h | h | h | h
      · exact absurd h hl0
      · exact Or.inl h
      · exact Or.inr (Or.inl h)
      · exact Or.inr (Or.inr h)
    have neg : ∀ w, f_X0_negativeOf w l = f_X6_kept (-w) l := by
      intro w
      unfold f_X0_negativeOf
      rw [hl.nn, if_pos rfl, low_kept hl.ln]
      rcases l3 with rfl | rfl | rfl <;> rw [if_neg (by decide), if_neg (by decide)]
    have e : f_X0_ofTwo G ar 22 l x y = some (if (0 : Int64) ≤ y then f_X0_sizeOf x l else f_X0_negativeOf (f_X0_sizeOf x l) l, G) := by
      unfold f_X0_ofTwo f_X0_ofTwo_45
      simp (decide := true) only [if_true, if_false, f_X0_isComparison, gl]
      split <;> rfl
    have w : f_X6_wholes 22 x y l = some (if (0 : Int64) ≤ y then (if (0 : Int64) ≤ x then x else -x) else -(if (0 : Int64) ≤ x then x else -x)) := by
      have w24 : ∀ m, f_X6_wholes_24 22 x y l m = some (if (0 : Int64) ≤ y then (if (0 : Int64) ≤ x then x else -x) else -(if (0 : Int64) ≤ x then x else -x)) := by
        intro m
        unfold f_X6_wholes_24 f_X6_wholes_235 f_X6_wholes_247
        simp (decide := true) only [if_true, if_false, gl]
        by_cases a : (0 : Int64) ≤ x <;> by_cases b : (0 : Int64) ≤ y <;> simp only [a, b, if_true, if_false]
      unfold f_X6_wholes
      rw [w24, w24, w24]
      split
      · rfl
      · split <;> rfl
    refine ⟨_, w, ?_⟩
    rw [e]
    unfold f_X0_sizeOf
    rw [neg, neg]
    by_cases a : (0 : Int64) ≤ x <;> by_cases b : (0 : Int64) ≤ y
    · rw [if_pos b, if_pos b, if_pos a, if_pos a, hx]
    · rw [if_neg b, if_neg b, if_pos a, if_pos a]
    · rw [if_pos b, if_pos b, if_neg a, if_neg a]
    · rw [if_neg b, if_neg b, if_neg a, if_neg a, kept_neg l3]
/-- acts of real lanes -/
theorem two_real {G : gG} {ar r0 r1 r2 : Nat} (hA : AR G ar r0 r1 r2) {l : Int32} (hl : l = 4 ∨ l = 5) {x y : Int64} (hx : VAL l x) (hy : VAL l y) {op : Int32} (hop : (op = 0 ∨ op = 1 ∨ op = 2 ∨ op = 3 ∨ op = 4 ∨ op = 5 ∨ op = 6 ∨ op = 7) ∨ (op = 8 ∨ op = 9 ∨ op = 10 ∨ op = 11) ∨ op = 22) :
    ∃ z G', f_X0_ofTwo G ar op l x y = some (z, G') ∧ AR G' ar r0 r1 r2 ∧ FRM G G' r0 r1 r2 ∧ RZ l op x y z ∧ VAL l z := by
  have re : f_X1_isReal l = 1 := by rcases hl with rfl | rfl <;> decide
  have mk : ∀ {z : Int64} {a b r : Int64} {k1 n1 u1 k2 n2 u2 k n u}, PX l x a k1 n1 u1 → (l = 4 → f_X6_wide x = some a) → PX l y b k2 n2 u2 → (l = 4 → f_X6_wide y = some b) → PX l z r k n u → (∀ m, f_X6_reckoned op a b m = some r) → RZ l op x y z := by
    intro z a b r k1 n1 u1 k2 n2 u2 k n u p1 q1 p2 q2 p hr
    refine ⟨fun e => ⟨a, b, r, q1 e, q2 e, hr 4, p.fb e⟩, fun e => ?_⟩
    rw [p1.2.2.2 e, p2.2.2.2 e, p.2.2.2 e]
    exact hr 5
  obtain ⟨a, k1, n1, u1, p1, q1⟩ := PX.of hl hx
  obtain ⟨b, k2, n2, u2, p2, q2⟩ := PX.of hl hy
  rcases hop with ho | ho | rfl
  · obtain ⟨z, G', s1, s2, s3, s4, s5⟩ := ofReals_ok hA hl hx hy ho
    refine ⟨z, G', ?_, s2, s3, s4, s5⟩
    unfold f_X0_ofTwo f_X0_ofTwo_45
    rw [re, if_neg (show ¬ (1 : Int32) = 0 by decide), gck_true hA.o, s1, gb2_some]
    rcases ho with rfl | rfl | rfl | rfl | rfl | rfl | rfl | rfl <;> simp (decide := true) only [if_true, if_false, f_X0_isComparison]
  · obtain ⟨k, n, u, p⟩ := chosen_ok hl p1 p2 ho
    refine ⟨f_X0_chosen op l x y, G, ?_, hA, FRM.refl _ _ _ _, mk p1 q1 p2 q2 p (fun m => ?_), p.val hl⟩
    · unfold f_X0_ofTwo
      rcases ho with rfl | rfl | rfl | rfl <;> simp (decide := true) only [if_true, if_false, f_X0_isComparison]
    · unfold f_X6_reckoned f_X6_reckoned_276
      rcases ho with rfl | rfl | rfl | rfl <;> simp (decide := true) only [if_true, if_false]
  · have e : f_X0_ofTwo G ar 22 l x y = some (if (0 : Int64) ≤ y then f_X0_sizeOf x l else f_X0_negativeOf (f_X0_sizeOf x l) l, G) := by
      unfold f_X0_ofTwo f_X0_ofTwo_45
      simp (decide := true) only [if_true, if_false, f_X0_isComparison, gl]
      split <;> rfl
    have S2 := (p2.sgn hl).1
    have T2 := (p2.sgn hl).2
    have rk : ∀ m, f_X6_reckoned 22 a b m = if f_X6_isNan a = 0 then (if f_X6_isNan b = 0 then (if (0 : Int64) ≤ b then f_X6_reckoned_266 a else f_X6_reckoned_267 a 1) else f_X6_reckoned_266 a) else some 9221120237041090560 := by
      intro m
      unfold f_X6_reckoned
      simp (decide := true) only [if_true, if_false]
    rw [e]
    obtain ⟨r, r1, r2⟩ := p1.size hl
    unfold f_X6_onReal at r1
    rw [if_neg (by decide), if_pos rfl, p1.2.1.nn p1.1] at r1
    by_cases c : k1 = 3
    · rw [if_pos c, if_neg (by decide)] at r1
      have P := r2.neg hl
      have n3 := P.k3 c 0 (Or.inl rfl) u1
      have on : f_X6_other r = r := by
        have := Option.some.inj r1
        rw [← this]
        unfold f_X6_other
        rw [isNan_nan, if_neg (by decide)]
      rw [on] at P
      refine ⟨_, G, rfl, hA, FRM.refl _ _ _ _, ?_, ?_⟩
      · by_cases g : (0 : Int64) ≤ y
        · rw [if_pos g]
          exact mk p1 q1 p2 q2 r2 (fun m => by rw [rk, p1.2.1.nn p1.1, if_pos c, if_neg (by decide)]; exact r1)
        · rw [if_neg g]
          exact mk p1 q1 p2 q2 P (fun m => by rw [rk, p1.2.1.nn p1.1, if_pos c, if_neg (by decide)]; exact r1)
      · split
        · exact r2.val hl
        · exact P.val hl
    · rw [if_neg c, if_pos rfl] at r1
      have hr : r = (a &&& 9223372036854775807) := (Option.some.inj r1).symm
      have ns : f_X6_signed 0 (a &&& 9223372036854775807) = r := by rw [hr]; rfl
      by_cases g : k2 = 3 ∨ n2 = 0
      · rw [ifp S2 g]
        refine ⟨_, G, rfl, hA, FRM.refl _ _ _ _, mk p1 q1 p2 q2 r2 (fun m => ?_), r2.val hl⟩
        rw [rk, p1.2.1.nn p1.1, if_neg c, if_pos rfl, ifp T2 g]
        unfold f_X6_reckoned_266 f_X6_reckoned_267
        rw [ns]
        split <;> rfl
      · rw [ifn S2 g]
        have W := r2.withSign hl c (s := 1) (Or.inr rfl)
        rw [if_neg (show ¬ (0 : Int32) = 1 by decide)] at W
        have e2 : f_X6_signed 1 (r &&& 9223372036854775807) = f_X6_signed 1 (a &&& 9223372036854775807) := by
          rw [hr, Int64.and_assoc]
          rfl
        rw [e2] at W
        refine ⟨_, G, rfl, hA, FRM.refl _ _ _ _, mk p1 q1 p2 q2 W (fun m => ?_), W.val hl⟩
        rw [rk, p1.2.1.nn p1.1, if_neg c, if_pos rfl, p2.2.1.nn p2.1, if_neg (fun q => g (Or.inl q)), if_pos rfl, ifn T2 g]
        rfl
/-- one value of a real lane -/
def RO (l : Int32) (op : Int32) (x z : Int64) : Prop := (l = 4 → ∃ a r, f_X6_wide x = some a ∧ f_X6_onReal op a = some r ∧ f_X6_floatBits r = some z) ∧ (l = 5 → f_X6_onReal op x = some z)
theorem one_real {G : gG} {ar r0 r1 r2 : Nat} (hA : AR G ar r0 r1 r2) {l : Int32} (hl : l = 4 ∨ l = 5) {x : Int64} (hx : VAL l x) {op : Int32} (hop : op = 0 ∨ op = 1 ∨ op = 2 ∨ op = 3 ∨ op = 4 ∨ op = 5 ∨ op = 6) :
    ∃ z G', f_X0_ofOne G ar op l x = some (z, G') ∧ AR G' ar r0 r1 r2 ∧ FRM G G' r0 r1 r2 ∧ RO l op x z ∧ VAL l z := by
  have re : f_X1_isReal l = 1 := by rcases hl with rfl | rfl <;> decide
  obtain ⟨a, k, n, u, p, q⟩ := PX.of hl hx
  have mk : ∀ {z r : Int64} {k' n' u'}, PX l z r k' n' u' → f_X6_onReal op a = some r → RO l op x z := by
    intro z r k' n' u' p' hr
    refine ⟨fun e => ⟨a, r, q e, hr, p'.fb e⟩, fun e => ?_⟩
    rw [p.2.2.2 e, p'.2.2.2 e]
    exact hr
  have rnd : ∀ md : Nat, md ≤ 3 → op = nI (md + 3) → ∃ z G', f_X0_ofOne_94 G ar op l x = some (z, G') ∧ AR G' ar r0 r1 r2 ∧ FRM G G' r0 r1 r2 ∧ RO l op x z ∧ VAL l z := by
    intro md hmd he
    obtain ⟨c, hc, hr⟩ := hA.2.2.2.1
    obtain ⟨c3, s1, s2⟩ : ∃ c', f_X2_setValue G r2 x l = some (g_up G r2 c') ∧ CV c' k n u := by
      rcases hl with rfl | rfl
      · exact (p.2.2.1 rfl).set p.1 hc hr
      · rw [p.2.2.2 rfl]
        exact p.2.1.set p.1 hc hr
    obtain ⟨c4, t1, t2⟩ := rwhole_ok (g_up_same G r2 c3) p.1 s2 hmd
    rw [g_up_up] at t1
    obtain ⟨r', t3, t4⟩ := cut_ok p.1 p.2.1 hmd
    have hA3 := hA.up2 s2.real
    have hA4 := hA.up2 t2.real
    have hon : f_X6_onReal op a = some r' := by
      unfold f_X6_onReal
      rw [he]
      have : md = 0 ∨ md = 1 ∨ md = 2 ∨ md = 3 := by omega
      have e3 : nI (md + 3) - 3 = nI md := pk_sub (a := md + 3) (b := 3) (by omega)
      rw [e3, t3, gb_some]
      rcases this with rfl | rfl | rfl | rfl <;> simp (decide := true) only [if_true, if_false, nI]
    refine ⟨tz l (exZ 23 127 (cutK md n k u) n (cutU md n k u)) (exZ 52 1023 (cutK md n k u) n (cutU md n k u)), g_up G r2 c4, ?_, hA4, FRM.up2 _ _ _ _ _, ?_, tz_val hl (exZ_ok p.1) (exZ_ok p.1)⟩
    · unfold f_X0_ofOne_94 f_X0_roundedTo
      rw [gck_true hA.o, re, if_neg (by decide), hA.f2, gb_some, gck_true (isR_o hc hr), s1, gb_some, hA3.f2, gb_some, gck_true (isR_o (g_up_same _ _ _) s2.real), he, t1, gb_some, hA4.f2, gb_some, gck_true (isR_o (g_up_same _ _ _) t2.real), t2.tv.tz (g_up_same _ _ _) hl, gb_some, gb2_some]
    · have F := t4.rf p.1 (l := l) (f := fun _ => some r') (fun e4 hk => by
        unfold cutK at hk
        unfold cutU
        by_cases hk1 : k = 1
        · rw [if_pos hk1] at hk ⊢
          refine F4_cut ((p.2.2.1 e4).F4 hk1) (fun z => ?_)
          rw [if_pos z] at hk
          omega
        · rw [if_neg hk1] at hk
          exact absurd hk hk1) (fun _ _ => rfl)
      refine ⟨fun e => ?_, fun e => ?_⟩
      · obtain ⟨r, g1, g2⟩ := F.1 e
        exact ⟨a, r', q e, hon, by rw [← Option.some.inj g1] at g2; exact g2⟩
      · rw [p.2.2.2 e, hon]
        exact F.2 e
  rcases hop with rfl | rfl | rfl | rfl | rfl | rfl | rfl
  · have N := p.neg hl
    refine ⟨_, G, ?_, hA, FRM.refl _ _ _ _, mk N ?_, N.val hl⟩
    · unfold f_X0_ofOne
      rw [if_pos rfl]
    · unfold f_X6_onReal
      rw [if_pos rfl]
  · obtain ⟨r, r1', r2'⟩ := p.size hl
    refine ⟨_, G, ?_, hA, FRM.refl _ _ _ _, mk r2' r1', r2'.val hl⟩
    unfold f_X0_ofOne
    rw [if_neg (by decide), if_pos rfl]
  · obtain ⟨r, k', n', u', r1', r2'⟩ := p.sign hl
    refine ⟨_, G, ?_, hA, FRM.refl _ _ _ _, mk r2' r1', r2'.val hl⟩
    unfold f_X0_ofOne
    rw [if_neg (by decide), if_neg (by decide), if_pos rfl]
  · have := rnd 0 (by omega) rfl
    unfold f_X0_ofOne
    simp (decide := true) only [if_true, if_false]
    exact this
  · have := rnd 1 (by omega) rfl
    unfold f_X0_ofOne
    simp (decide := true) only [if_true, if_false]
    exact this
  · have := rnd 2 (by omega) rfl
    unfold f_X0_ofOne
    simp (decide := true) only [if_true, if_false]
    exact this
  · have := rnd 3 (by omega) rfl
    unfold f_X0_ofOne
    simp (decide := true) only [if_true, if_false]
    exact this
/-- one value of a whole lane -/
theorem val0 {x : Int64} (h : VAL 0 x) : x = 0 ∨ x = 1 := by
  obtain ⟨X, hX, rfl⟩ := i64_N x
  unfold VAL at h
  have e : (lN X &&& 1) = lN (X % 2) := lmask_N (k := 1) hX (by omega)
  rw [kept_0, e, lN_inj (by omega) hX] at h
  have : X = 0 ∨ X = 1 := by omega
  rcases this with rfl | rfl
  · exact Or.inl rfl
  · exact Or.inr rfl
theorem not_sub (x : Int64) : (x ^^^ (-1)) = -1 - x := by
  obtain ⟨X, hX, rfl⟩ := i64_N x
  rw [xor_neg1 hX, show (-1 : Int64) = lN (2 ^ 64 - 1) from by decide, lN_sub (by omega)]
theorem one_whole {G : gG} {ar r0 r1 r2 : Nat} (hA : AR G ar r0 r1 r2) {l : Int32} (hl : LW l) {x : Int64} (hx : VAL l x) {op : Int32} (hop : op = 0 ∨ op = 1 ∨ op = 2 ∨ op = 3 ∨ op = 4 ∨ op = 5 ∨ op = 6 ∨ op = 7) (h0 : (op = 0 ∨ op = 1 ∨ op = 2) → ¬ l = 0) :
    f_X0_ofOne G ar op l x = some (f_X6_kept (f_X6_onWhole op x l) l, G) := by
  have neg : ¬ l = 0 → ∀ w, f_X0_negativeOf w l = f_X6_kept (-w) l := by
    intro hl0 w
    unfold f_X0_negativeOf
    rw [hl.nn, if_pos rfl, low_kept hl.ln]
    rcases hl with rfl | rfl | rfl | rfl <;> first | (exact absurd rfl hl0) | rw [if_neg (by decide), if_neg (by decide)]
  have rnd : f_X0_ofOne_94 G ar op l x = some (x, G) := by
    unfold f_X0_ofOne_94 f_X0_roundedTo
    rw [gck_true hA.o, hl.re, if_pos rfl, gb2_some]
  unfold f_X0_ofOne f_X6_onWhole
  rcases hop with rfl | rfl | rfl | rfl | rfl | rfl | rfl | rfl
  · simp (decide := true) only [if_true, if_false]
    rw [neg (h0 (Or.inl rfl))]
  · simp (decide := true) only [if_true, if_false]
    unfold f_X0_sizeOf
    rw [neg (h0 (Or.inr (Or.inl rfl)))]
    by_cases c : (0 : Int64) ≤ x
    · rw [if_pos c, if_pos c, hx]
    · rw [if_neg c, if_neg c]
  · have hl0 := h0 (Or.inr (Or.inr rfl))
    simp (decide := true) only [if_true, if_false]
    unfold f_X0_signOf f_X0_signOf_41
    rw [hl.nn, if_pos rfl, zero_w hl, neg hl0, neg hl0, neg hl0]
    have k1 : f_X6_kept 1 l = 1 := by
      rcases hl with rfl | rfl | rfl | rfl
      · exact absurd rfl hl0
      · rw [kept_1]; decide
      · rw [kept_2]; decide
      · rw [kept_3]
    have n4 : ¬ l = 4 := by rcases hl with rfl | rfl | rfl | rfl <;> decide
    have n5 : ¬ l = 5 := by rcases hl with rfl | rfl | rfl | rfl <;> decide
    rw [if_neg n4, if_neg n5]
    by_cases z : x = 0
    · subst z
      rw [if_pos rfl, if_neg (by decide), if_pos (by decide), if_pos (by decide), hx]
    · rw [if_neg z, if_pos rfl]
      by_cases c : (0 : Int64) ≤ x
      · have : ¬ x ≤ 0 := fun q => z ((eq_le x 0).mpr ⟨c, q⟩)
        rw [if_pos c, if_pos c, if_neg this, k1]
      · rw [if_neg c, if_neg c]
  · simp (decide := true) only [if_true, if_false]; rw [rnd, hx]
  · simp (decide := true) only [if_true, if_false]; rw [rnd, hx]
  · simp (decide := true) only [if_true, if_false]; rw [rnd, hx]
  · simp (decide := true) only [if_true, if_false]; rw [rnd, hx]
  · simp (decide := true) only [if_true, if_false]
    rw [low_kept hl.ln]
    by_cases z : l = 0
    · subst z
      rw [if_pos rfl]
      rcases val0 hx with rfl | rfl <;> (rw [kept_0, kept_0]; rfl)
    · rw [if_neg z, not_sub]
/-- is it no number -/
theorem one_nan {G : gG} {ar r0 r1 r2 : Nat} (hA : AR G ar r0 r1 r2) {l : Int32} (hl : LN l) {x : Int64} (hx : VAL l x) :
    f_X0_ofOne G ar 8 l x = some (if f_X1_isNoNumber x l = 0 then 0 else 1, G) ∧ (LW l → f_X1_isNoNumber x l = 0) ∧ (l = 4 → ∃ a, f_X6_wide x = some a ∧ f_X6_isNan a = f_X1_isNoNumber x l) ∧ (l = 5 → f_X6_isNan x = f_X1_isNoNumber x l) := by
  refine ⟨?_, fun w => w.nn x, fun e => ?_, fun e => ?_⟩
  · unfold f_X0_ofOne
    simp (decide := true) only [if_true, if_false]
    split <;> rfl
  · subst e
    obtain ⟨a, k, n, u, p, q⟩ := PX.of (Or.inl rfl) hx
    exact ⟨a, q rfl, by rw [p.nan (Or.inl rfl), p.2.1.nn p.1]⟩
  · subst e
    obtain ⟨a, k, n, u, p, q⟩ := PX.of (Or.inr rfl) hx
    have e := p.2.2.2 rfl
    rw [p.nan (Or.inr rfl), e, p.2.1.nn p.1]
