/-! The class's sums. -/
/-- what a Real's cell gives as bits, of floats and of doubles -/
def tv (c : gC) (n : Int32) (B4 B5 : Nat) : Prop := ∀ (G : gG) (a : Nat), G a = some c → f_X2_toValue G a 4 = some (sgF n B4) ∧ f_X2_toValue G a 5 = some (sgD n B5)
/-- a finite one, laid by setFinite -/
def rf (n : Int32) (m : Nat) (e : Int) : gC := rc 1 n (lN (m * 2 ^ (63 - bl m))) (jI (e - (63 - bl m : Nat)))
theorem rf_norm {m : Nat} (h0 : 0 < m) (hm : m < 2 ^ 63) : 2 ^ 62 ≤ m * 2 ^ (63 - bl m) ∧ m * 2 ^ (63 - bl m) < 2 ^ 63 := by
  have := norm_hi h0 (w := 62) (bl_le_of hm)
  exact this
theorem tv_fin {n : Int32} {m : Nat} {e : Int} (h0 : 0 < m) (hm : m < 2 ^ 63) (he : -4900 ≤ e ∧ e ≤ 5000) : tv (rf n m e) n (enc 23 127 m e false) (enc 52 1023 m e false) := by
  intro G a h
  obtain ⟨h1, h2⟩ := rf_norm h0 hm
  have hb := bl_le_of hm
  have hp := bl_pos h0
  have e4 := toValue_fin4 h h1 h2 (by omega)
  have e5 := toValue_fin5 h h1 h2 (by omega)
  rw [enc_shl 23 127 (63 - bl m) h0] at e4
  rw [enc_shl 52 1023 (63 - bl m) h0] at e5
  exact ⟨e4, e5⟩
theorem tv_zero {n : Int32} {sg : Int64} {ex : Int32} : tv (rc 0 n sg ex) n 0 0 := fun G a h => ⟨toValue_z4 h, toValue_z5 h⟩
theorem tv_inf {n : Int32} {sg : Int64} {ex : Int32} : tv (rc 2 n sg ex) n (255 * 2 ^ 23) (2047 * 2 ^ 52) := fun G a h => ⟨toValue_i4 h, toValue_i5 h⟩
theorem trc_lt {B d : Nat} (h0 : 0 < B) (hB : B < 2 ^ 62) : trc B d < 2 ^ 62 := by
  rw [trc_jam h0 hB]
  unfold jam
  have h1 := Nat.div_le_self B (2 ^ d)
  split
  · exact Nat.or_lt_two_pow (by omega) (by omega)
  · omega
theorem trace_ok {B : Nat} (hB : B < 2 ^ 63) {d : Nat} (hd : d < 2 ^ 31) : f_X2_shiftedWithTrace (lN B) (nI d) = lN (trc B d) := by
  unfold f_X2_shiftedWithTrace f_X2_shiftedWithTrace_11 trc
  have c1 : nI d < 1 ↔ d < 1 := by rw [show (1 : Int32) = nI 1 from rfl, nI_ltI hd (by omega)]
  have c2 : nI d ≤ 62 ↔ d ≤ 62 := by rw [show (62 : Int32) = nI 62 from rfl, nI_leI hd (by omega)]
  have c3 : (1 : Int32) ≤ nI d ↔ 1 ≤ d := by rw [show (1 : Int32) = nI 1 from rfl, nI_leI (by omega) hd]
  by_cases d1 : d = 0
  · rw [ifp c1 (by omega), ifn c3 (by omega), if_pos d1]
  · rw [ifn c1 (by omega), if_neg d1]
    by_cases d2 : d ≤ 62
    · have e3 : (lN B &&& (g_lshl 1 (nI d) - 1)) = lN (B % 2 ^ d) := by rw [lsub1_N (by omega), lmask_N (by omega) (by omega)]
      have hm : B % 2 ^ d ≤ B := Nat.mod_le _ _
      have hq : B / 2 ^ d ≤ B := Nat.div_le_self _ _
      have c4 := lN_z (x := B % 2 ^ d) (by omega)
      rw [ifp c2 d2, if_pos d2]
      simp only [gl]
      rw [e3, lushr_N (by omega) (by omega)]
      by_cases d3 : B % 2 ^ d = 0
      · rw [ifp c4 d3, if_pos d3, show Int32.toInt64 0 = lN 0 from rfl, lor_N (by omega) (by omega)]
      · rw [ifn c4 d3, if_neg d3, show Int32.toInt64 1 = lN 1 from rfl, lor_N (by omega) (by omega)]
    · rw [ifn c2 d2, if_neg d2, ifp c3 (by omega)]
      rfl
theorem abs_N {x : Nat} (h : x < 2 ^ 63) : f_J9_abs_067f4 (lN x) = lN x := by
  unfold f_J9_abs_067f4
  rw [if_pos (lN_nonneg h)]
theorem neg_N {x : Nat} (h0 : 0 < x) (h : x < 2 ^ 64) : -lN x = lN (2 ^ 64 - x) := by
  apply lN_ext
  rw [Int64.toBitVec_neg, BitVec.toNat_neg, lN_tn h, Nat.mod_eq_of_lt (by omega)]
theorem neg_neg_N {x : Nat} (h0 : 0 < x) (h : x < 2 ^ 63) : ¬ (0 : Int64) ≤ -lN x := by
  rw [neg_N h0 (by omega)]
  exact lN_neg (by omega) (by omega)
theorem abs_neg_N {x : Nat} (h0 : 0 < x) (h : x < 2 ^ 63) : f_J9_abs_067f4 (-lN x) = lN x := by
  unfold f_J9_abs_067f4
  rw [if_neg (neg_neg_N h0 h), Int64.neg_neg]
theorem sub_N {x y : Nat} (h : x < y) : lN x - lN y = -lN (y - x) := by
  have := lN_sub (a := y) (b := x) (by omega)
  rw [← this, Int64.neg_sub]
section FS
variable {G : gG} {th a1 a2 : Nat} {k0 n0 n1 n2 : Int32} {s0 : Int64} {e0 : Int32} {X Y : Nat} {E1 E2 : Int}
theorem fs92 (ht : G th = some (rc k0 n0 s0 e0)) (h1 : G a1 = some (rc 1 n1 (lN X) (jI E1))) {z : Int64} {s : Nat} (hz : f_J9_abs_067f4 z = lN s) (hs0 : 0 < s) (hs : s < 2 ^ 63) {n : Int32} (hn : n = 0 ∨ n = 1) : f_X2_setFiniteSum_92 G a1 z n th = some (g_up G th (rf n s (E1 + 1))) := by
  unfold f_X2_setFiniteSum_92
  rw [rc_e h1, gb_some, gck_true (rc_o ht), hz, show (1 : Int32) = jI 1 from rfl, jI_add, setFinite_ok ht hn hs0 hs, gb_some]
  rfl
theorem fs49_pos (ht : G th = some (rc k0 n0 s0 e0)) (h1 : G a1 = some (rc 1 n1 (lN X) (jI E1))) (hn1 : n1 = 0 ∨ n1 = 1) {s : Nat} (hs0 : 0 < s) (hs : s < 2 ^ 63) : f_X2_setFiniteSum_49 G th a1 (lN s) = some (g_up G th (rf n1 s (E1 + 1))) := by
  unfold f_X2_setFiniteSum_49 f_X2_setFiniteSum_84
  rw [ifn (lN_z (x := s) (by omega)) (by omega), rc_n h1, gb_some, if_pos (lN_nonneg hs)]
  rcases hn1 with rfl | rfl
  · rw [if_pos rfl, fs92 ht h1 (abs_N hs) hs0 hs (Or.inl rfl)]
  · rw [if_neg (by decide), fs92 ht h1 (abs_N hs) hs0 hs (Or.inr rfl)]
theorem fs49_neg (ht : G th = some (rc k0 n0 s0 e0)) (h1 : G a1 = some (rc 1 n1 (lN X) (jI E1))) (hn1 : n1 = 0 ∨ n1 = 1) (hn2 : n2 = 0 ∨ n2 = 1) (hne : ¬ n1 = n2) {s : Nat} (hs0 : 0 < s) (hs : s < 2 ^ 63) : f_X2_setFiniteSum_49 G th a1 (-lN s) = some (g_up G th (rf n2 s (E1 + 1))) := by
  unfold f_X2_setFiniteSum_49 f_X2_setFiniteSum_84
  have hz : ¬ -lN s = 0 := by
    intro q
    apply neg_neg_N hs0 hs
    rw [q]
    decide
  rw [if_neg hz, rc_n h1, gb_some, if_neg (neg_neg_N hs0 hs)]
  rcases hn1 with rfl | rfl <;> rcases hn2 with rfl | rfl
  · exact absurd rfl hne
  · rw [if_neg (by decide), fs92 ht h1 (abs_neg_N hs0 hs) hs0 hs (Or.inr rfl)]
  · rw [if_pos rfl, fs92 ht h1 (abs_neg_N hs0 hs) hs0 hs (Or.inl rfl)]
  · exact absurd rfl hne
theorem fs49_zero (ht : G th = some (rc k0 n0 s0 e0)) : f_X2_setFiniteSum_49 G th a1 (lN 0) = some (g_up G th (rc 0 0 s0 e0)) := by
  unfold f_X2_setFiniteSum_49
  rw [if_pos (show lN 0 = 0 from rfl), gck_true (rc_o ht), setKind_ok ht 0 (Or.inl rfl), gb_some]
theorem fsum_ok (ht : G th = some (rc k0 n0 s0 e0)) (h1 : G a1 = some (rc 1 n1 (lN X) (jI E1))) (h2 : G a2 = some (rc 1 n2 (lN Y) (jI E2))) (hn1 : n1 = 0 ∨ n1 = 1) (hn2 : n2 = 0 ∨ n2 = 1) (hX1 : 2 ^ 62 ≤ X) (hX2 : X < 2 ^ 63) (hY1 : 2 ^ 62 ≤ Y) (hY2 : Y < 2 ^ 63) {d : Nat} (hd : E1 = E2 + d) (hd2 : d < 2 ^ 30) :
    f_X2_setFiniteSum G th a1 a2 = some (g_up G th (if n1 = n2 then rf n1 (X / 2 + trc (Y / 2) d) (E1 + 1) else if trc (Y / 2) d = X / 2 then rc 0 0 s0 e0 else if trc (Y / 2) d < X / 2 then rf n1 (X / 2 - trc (Y / 2) d) (E1 + 1) else rf n2 (trc (Y / 2) d - X / 2) (E1 + 1))) := by
  have ht2 := trc_lt (B := Y / 2) (d := d) (by omega) (by omega)
  have e1 : g_lushr (lN X) 1 = lN (X / 2) := by
    have := lushr_N (a := X) (by omega) (k := 1) (by omega)
    rw [Nat.pow_one] at this
    exact this
  have e2 : g_lushr (lN Y) 1 = lN (Y / 2) := by
    have := lushr_N (a := Y) (by omega) (k := 1) (by omega)
    rw [Nat.pow_one] at this
    exact this
  have e3 : jI E1 - jI E2 = nI d := by
    rw [jI_sub, nI_jI]
    exact congrArg jI (by omega)
  unfold f_X2_setFiniteSum
  rw [rc_s h1, gb_some, e1, rc_s h2, rc_e h1, rc_e h2, rc_n h1, rc_n h2]
  simp only [gl, gb_some]
  rw [e2, e3, trace_ok (by omega) (by omega)]
  generalize trc (Y / 2) d = t at *
  by_cases c : n1 = n2
  · rw [if_pos c, if_pos c, lN_add, fs49_pos ht h1 hn1 (by omega) (by omega)]
  · rw [if_neg c, if_neg c]
    rcases Nat.lt_trichotomy t (X / 2) with g | g | g
    · rw [if_neg (by omega), if_pos g, lN_sub (by omega), fs49_pos ht h1 hn1 (by omega) (by omega)]
    · rw [if_pos g, g, lN_sub (by omega), Nat.sub_self, fs49_zero ht]
    · rw [if_neg (by omega), if_neg (by omega), sub_N g, fs49_neg ht h1 hn1 hn2 c (by omega) (by omega)]
end FS
/-- the sum of two numbers with signs: its sign, and its size in bits -/
def sumN (n1 : Int32) (u1 : Nat) (n2 : Int32) (u2 : Nat) : Int32 := if n1 = n2 then n1 else if u1 = u2 then 0 else if u2 < u1 then n1 else n2
def sumU (n1 : Int32) (u1 : Nat) (n2 : Int32) (u2 : Nat) : Nat := if n1 = n2 then u1 + u2 else if u2 < u1 then u1 - u2 else u2 - u1
def encU (w b u : Nat) : Nat := if u = 0 then 0 else enc w b u (-1200) false
theorem sumN_comm {n1 n2 : Int32} {u1 u2 : Nat} : sumN n1 u1 n2 u2 = sumN n2 u2 n1 u1 := by
  unfold sumN
  by_cases c : n1 = n2
  · rw [if_pos c, if_pos c.symm, c]
  · have c' : ¬ n2 = n1 := fun q => c q.symm
    rcases Nat.lt_trichotomy u1 u2 with g | g | g
    · simp only [if_neg c, if_neg c', if_neg (show ¬ u1 = u2 by omega), if_neg (show ¬ u2 = u1 by omega), if_neg (show ¬ u2 < u1 by omega), if_pos g]
    · simp only [if_neg c, if_neg c', if_pos g, if_pos g.symm]
    · simp only [if_neg c, if_neg c', if_neg (show ¬ u1 = u2 by omega), if_neg (show ¬ u2 = u1 by omega), if_neg (show ¬ u1 < u2 by omega), if_pos g]
theorem sumU_comm {n1 n2 : Int32} {u1 u2 : Nat} : sumU n1 u1 n2 u2 = sumU n2 u2 n1 u1 := by
  unfold sumU
  by_cases c : n1 = n2
  · rw [if_pos c, if_pos c.symm, Nat.add_comm]
  · have c' : ¬ n2 = n1 := fun q => c q.symm
    rcases Nat.lt_trichotomy u1 u2 with g | g | g
    · simp only [if_neg c, if_neg c', if_neg (show ¬ u2 < u1 by omega), if_pos g]
    · subst g
      simp only [if_neg c, if_neg c']
    · simp only [if_neg c, if_neg c', if_neg (show ¬ u1 < u2 by omega), if_pos g]
/-- two finite numbers, the first one's exponent not the lesser -/
theorem fsum_tv {G : gG} {th a1 a2 : Nat} {k0 n0 n1 n2 : Int32} {s0 : Int64} {e0 : Int32} {X Y : Nat} {E1 E2 : Int} (ht : G th = some (rc k0 n0 s0 e0)) (h1 : G a1 = some (rc 1 n1 (lN X) (jI E1))) (h2 : G a2 = some (rc 1 n2 (lN Y) (jI E2))) (hn1 : n1 = 0 ∨ n1 = 1) (hn2 : n2 = 0 ∨ n2 = 1) (hX1 : 2 ^ 62 ≤ X) (hX2 : X < 2 ^ 63) (hX : X % 2 ^ 10 = 0) (hY1 : 2 ^ 62 ≤ Y) (hY2 : Y < 2 ^ 63) (hY : Y % 2 ^ 10 = 0) (hE : E2 ≤ E1) (hb1 : -1200 ≤ E2) (hb2 : E1 ≤ 3000) :
    ∃ c, f_X2_setFiniteSum G th a1 a2 = some (g_up G th c) ∧ (∃ k n s e, c = rc k n s e) ∧ tv c (sumN n1 (uV X E1) n2 (uV Y E2)) (encU 23 127 (sumU n1 (uV X E1) n2 (uV Y E2))) (encU 52 1023 (sumU n1 (uV X E1) n2 (uV Y E2))) := by
  obtain ⟨d, hd⟩ : ∃ d : Nat, E1 = E2 + d := ⟨(E1 - E2).toNat, by omega⟩
  refine ⟨_, fsum_ok ht h1 h2 hn1 hn2 hX1 hX2 hY1 hY2 hd (by omega), ?_⟩
  have ht2 := trc_lt (B := Y / 2) (d := d) (by omega) (by omega)
  have pX : 0 < uV X E1 := uV_pos (by omega)
  have pY : 0 < uV Y E2 := uV_pos (by omega)
  unfold sumN sumU encU
  by_cases c : n1 = n2
  · rw [if_pos c, if_pos c, if_pos c, if_neg (by omega), if_neg (by omega)]
    refine ⟨⟨_, _, _, _, rfl⟩, ?_⟩
    have q := tv_fin (n := n1) (m := X / 2 + trc (Y / 2) d) (e := E1 + 1) (by omega) (by omega) (by omega)
    have a1 := csum_add 23 127 (by omega) (d := d) hX1 hX hY1 hY2 hY hb1
    have a2 := csum_add 52 1023 (by omega) (d := d) hX1 hX hY1 hY2 hY hb1
    rw [← hd] at a1 a2
    rw [a1, a2] at q
    exact q
  · rw [if_neg c, if_neg c, if_neg c]
    by_cases g : 1 ≤ d ∨ Y < X
    · obtain ⟨p1, p2, p3⟩ := csum_sub 23 127 (by omega) (d := d) hX1 hX hY1 hY2 hY hb1 g
      obtain ⟨-, p4, -⟩ := csum_sub 52 1023 (by omega) (d := d) hX1 hX hY1 hY2 hY hb1 g
      rw [← hd] at p2 p3 p4
      simp only [if_neg (show ¬ trc (Y / 2) d = X / 2 by omega), if_pos p1, if_neg (show ¬ uV X E1 = uV Y E2 by omega), if_pos p3, if_neg (show ¬ uV X E1 - uV Y E2 = 0 by omega)]
      refine ⟨⟨_, _, _, _, rfl⟩, ?_⟩
      have q := tv_fin (n := n1) (m := X / 2 - trc (Y / 2) d) (e := E1 + 1) (by omega) (by omega) (by omega)
      rw [p2, p4] at q
      exact q
    · have hd0 : d = 0 := by omega
      have hEE : E1 = E2 := by omega
      have htB : trc (Y / 2) d = Y / 2 := by unfold trc; rw [if_pos hd0]
      rw [htB]
      rcases Nat.lt_or_ge X Y with g2 | g2
      · obtain ⟨p1, p2, p3⟩ := csum_sub 23 127 (by omega) (X := Y) (Y := X) (d := 0) (ey := E2) hY1 hY hX1 hX2 hX hb1 (Or.inr g2)
        obtain ⟨-, p4, -⟩ := csum_sub 52 1023 (by omega) (X := Y) (Y := X) (d := 0) (ey := E2) hY1 hY hX1 hX2 hX hb1 (Or.inr g2)
        have e0 : E2 + ((0 : Nat) : Int) = E2 := by omega
        have t0 : trc (X / 2) 0 = X / 2 := by unfold trc; rw [if_pos rfl]
        rw [e0, t0] at p2 p4
        rw [e0] at p3
        rw [t0] at p1
        rw [hEE]
        simp only [if_neg (show ¬ Y / 2 = X / 2 by omega), if_neg (show ¬ Y / 2 < X / 2 by omega), if_neg (show ¬ uV X E2 = uV Y E2 by omega), if_neg (show ¬ uV Y E2 < uV X E2 by omega), if_neg (show ¬ uV Y E2 - uV X E2 = 0 by omega)]
        refine ⟨⟨_, _, _, _, rfl⟩, ?_⟩
        have q := tv_fin (n := n2) (m := Y / 2 - X / 2) (e := E2 + 1) (by omega) (by omega) (by omega)
        rw [p2, p4] at q
        exact q
      · have hXY : X = Y := by omega
        subst hXY
        rw [hEE]
        simp only [if_pos (show X / 2 = X / 2 from rfl), if_pos (show uV X E2 = uV X E2 from rfl), if_neg (Nat.lt_irrefl _), Nat.sub_self]
        exact ⟨⟨_, _, _, _, rfl⟩, tv_zero⟩
