/-! fit, floatBits, wide as the reference has them. -/
/-- the bits of a double that fit answers -/
def fitD (w b m : Nat) (e : Int) (s : Bool) : Nat := if fq w b m e s = 0 then 0 else if (b : Int) < bl (fq w b m e s) + ft w b m e - 1 then 2047 * 2 ^ 52 else epk 52 1023 (fq w b m e s) (ft w b m e)
theorem fit142 (n : Int32) {lane : Int32} {b : Nat} (hb : b ≤ 1023) (ht : f_X6_topOf lane = nI b) {q : Nat} (hq : q < 2 ^ 62) {t : Int} (h1 : -1074 ≤ t ∧ t ≤ 3000) :
    f_X6_fit_142 n lane (lN q) (jI t) = some (sgD n (if q = 0 then 0 else if (b : Int) < bl q + t - 1 then 2047 * 2 ^ 52 else epk 52 1023 q t)) ∨ (q = 0 ∧ (b : Int) < t - 1) := by
  unfold f_X6_fit_142
  have hbq := bl_le_of hq
  have e1 : nI (bl q) + jI t - 1 = jI (bl q + t - 1) := by rw [nI_jI, show (1 : Int32) = jI 1 from rfl, jI_add, jI_sub]
  have c1 : jI (bl q + t - 1) ≤ nI b ↔ (bl q : Int) + t - 1 ≤ b := by rw [nI_jI, jI_le (by omega) (by omega)]
  rw [len_N (by omega), gb_some, e1, ht]
  by_cases d0 : q = 0
  · subst d0
    by_cases d : (b : Int) < t - 1
    · exact Or.inr ⟨rfl, d⟩
    · left
      rw [if_pos rfl, ifp c1 (by rw [show bl 0 = 0 from rfl]; omega), pack_0, gb_some]
  · left
    rw [if_neg d0]
    by_cases d : (b : Int) < bl q + t - 1
    · rw [ifn c1 (by omega), if_pos d, show (9218868437227405312 : Int64) = lN (2047 * 2 ^ 52) from by decide, signed_ok]
    · rw [ifp c1 (by omega), if_neg d, pack_ok n (by omega) (by omega) (by omega) (by omega), gb_some]
theorem fit_ok (n : Int32) {lane : Int32} {w b : Nat} (hw : 1 ≤ w ∧ w ≤ 52) (hb : 1 ≤ b ∧ b ≤ 1023) (hwb : b + w ≤ 1075) (hd : f_X6_digitsOf lane = nI (w + 1)) (hl : f_X6_leastOf lane = jI (1 - b - w)) (ht : f_X6_topOf lane = nI b) {m : Nat} (hm0 : 0 < m) (hm : m < 2 ^ 62) {e : Int} (he : -4000 ≤ e ∧ e ≤ 2900) (st : Int32) :
    f_X6_fit n (lN m) (jI e) st lane = some (sgD n (fitD w b m e (decide (¬ st = 0)))) := by
  obtain ⟨t1, t2, t3⟩ := encT_le (w := w) (b := b) (m := m) (e := e)
  have hbm := bl_le_of hm
  unfold f_X6_fit
  rw [ifn (lN_z (x := m) (by omega)) (by omega), len_N (by omega), gb_some]
  simp only [gl]
  have e1 : jI e + nI (bl m) - nI (w + 1) = jI (e + bl m - (w + 1)) := by
    rw [nI_jI, nI_jI, jI_add, jI_sub]
    rfl
  rw [hd, hl, e1]
  have c1 : jI (1 - b - w) ≤ jI (e + bl m - (w + 1)) ↔ (1 - b - w : Int) ≤ e + bl m - (w + 1) := jI_le (by omega) (by omega)
  have key : f_X6_fit_46 n (lN m) (jI e) st lane (jI (encT w b m e)) = some (sgD n (fitD w b m e (decide (¬ st = 0)))) := by
    unfold f_X6_fit_46 fitD fq ft
    simp only [gl]
    rw [jI_sub]
    have hhi : ∀ k : Nat, k = (encT w b m e - e).toNat → ∀ s, rs m k s ≤ 2 ^ (w + 1) := fun k hk s => rs_hi s (Nat.lt_of_lt_of_le (bl_lt m) (Nat.pow_le_pow_right (by omega) (by omega)))
    generalize encT w b m e = T at *
    have c2 : jI (T - e) ≤ 62 ↔ T - e ≤ 62 := by rw [show (62 : Int32) = jI 62 from rfl, jI_le (by omega) (by omega)]
    have c3 : jI (T - e) ≤ 0 ↔ T - e ≤ 0 := by rw [show (0 : Int32) = jI 0 from rfl, jI_le (by omega) (by omega)]
    by_cases d2 : T - e ≤ 62
    · rw [ifp c2 d2]
      by_cases d3 : T - e ≤ 0
      · rw [ifp c3 d3, if_neg (show ¬ 0 < T - e by omega), if_neg (show ¬ 0 < T - e by omega)]
        rcases fit142 n hb.2 ht hm (t := e) (by omega) with q | q
        · exact q
        · omega
      · rw [ifn c3 d3, if_pos (show 0 < T - e by omega), if_pos (show 0 < T - e by omega)]
        obtain ⟨k, hk⟩ : ∃ k : Nat, T - e = k := ⟨(T - e).toNat, by omega⟩
        have hkn : (T - e).toNat = k := by omega
        have hk1 : 1 ≤ k := by omega
        have hk2 : k ≤ 62 := by omega
        have hp : 0 < 2 ^ k := Nat.two_pow_pos k
        have hp64 : (2 : Nat) ^ k ≤ 2 ^ 62 := Nat.pow_le_pow_right (by omega) hk2
        have hr : m % 2 ^ k < 2 ^ k := Nat.mod_lt _ hp
        have hq : m / 2 ^ k ≤ m := Nat.div_le_self _ _
        have hh : (2 : Nat) ^ (k - 1) < 2 ^ 63 := Nat.pow_lt_pow_right (by omega) (by omega)
        have eJ : jI (T - e) = nI k := by rw [hk]; exact jI_nI k
        have e2 : nI k - 1 = nI (k - 1) := pk_sub (a := k) (b := 1) hk1
        have e3 : g_lshl 1 (nI (k - 1)) = lN (2 ^ (k - 1)) := by
          have := lshl_N 1 (k := k - 1) (by omega)
          rw [Nat.one_mul] at this
          exact this
        have e4 : (lN m &&& (g_lshl 1 (nI k) - 1)) = lN (m % 2 ^ k) := by rw [lsub1_N (by omega), lmask_N (by omega) (by omega)]
        have e5 : (lN (m / 2 ^ k) &&& 1) = lN (m / 2 ^ k % 2) := by
          have := lmask_N (a := m / 2 ^ k) (by omega) (k := 1) (by omega)
          rw [Nat.pow_one] at this
          exact this
        have f1 := pk_lLT (a := 2 ^ (k - 1)) (b := m % 2 ^ k) hh (by omega)
        have f2 := pk_lEQ (a := m % 2 ^ k) (b := 2 ^ (k - 1)) (by omega) hh
        have f3 : lN (m / 2 ^ k % 2) = 1 ↔ m / 2 ^ k % 2 = 1 := by
          rw [show (1 : Int64) = lN 1 from rfl, pk_lEQ (by omega) (by omega)]
        have e6 : ∀ z, f_X6_fit_136 n lane (lN z) (jI T) = f_X6_fit_142 n lane (lN (z + 1)) (jI T) := fun z => by
          unfold f_X6_fit_136
          simp only [gl]
          rw [lN_1]
        rw [eJ, e2, e3, e4, lshr_N (by omega) (by omega), e5, e6, hkn]
        have hle := hhi k hkn.symm (decide (¬ st = 0))
        have hw53 : (2 : Nat) ^ (w + 1) ≤ 2 ^ 53 := Nat.pow_le_pow_right (by omega) (by omega)
        have fin : f_X6_fit_142 n lane (lN (rs m k (decide (¬ st = 0)))) (jI T) = some (sgD n (if rs m k (decide (¬ st = 0)) = 0 then 0 else if (b : Int) < bl (rs m k (decide (¬ st = 0))) + T - 1 then 2047 * 2 ^ 52 else epk 52 1023 (rs m k (decide (¬ st = 0))) T)) := by
          rcases fit142 n hb.2 ht (q := rs m k (decide (¬ st = 0))) (by omega) (t := T) (by omega) with q | ⟨q1, q2⟩
          · exact q
          · exfalso
            rcases t3 with t3 | t3
            · omega
            · have := rs_lo (m := m) (k := k) (j := w) (decide (¬ st = 0)) (by rw [show k + w = bl m - 1 by have := bl_pos hm0; omega]; exact bl_le hm0)
              have := Nat.two_pow_pos w
              omega
        rw [← fin]
        unfold rs
        by_cases g1 : 2 ^ (k - 1) < m % 2 ^ k
        · rw [ifp f1 g1, if_pos (show 2 ^ (k - 1) < m % 2 ^ k ∨ _ from Or.inl g1)]
        · rw [ifn f1 g1]
          by_cases g2 : m % 2 ^ k = 2 ^ (k - 1)
          · rw [ifp f2 g2]
            by_cases g0 : st = 0
            · rw [if_pos g0]
              by_cases g3 : m / 2 ^ k % 2 = 1
              · rw [ifp f3 g3, if_pos (show 2 ^ (k - 1) < m % 2 ^ k ∨ _ from Or.inr ⟨g2, Or.inr g3⟩)]
              · rw [ifn f3 g3, if_neg (show ¬ (2 ^ (k - 1) < m % 2 ^ k ∨ _) from ?_)]
                rintro (q | ⟨-, q | q⟩)
                · exact g1 q
                · exact (of_decide_eq_true q) g0
                · exact g3 q
            · rw [if_neg g0, if_pos (show 2 ^ (k - 1) < m % 2 ^ k ∨ _ from Or.inr ⟨g2, Or.inl (decide_eq_true g0)⟩)]
          · rw [ifn f2 g2, if_neg (show ¬ (2 ^ (k - 1) < m % 2 ^ k ∨ _) from ?_)]
            rintro (q | ⟨q, -⟩)
            · exact g1 q
            · exact g2 q
    · rw [ifn c2 d2, if_pos (show 0 < T - e by omega), if_pos (show 0 < T - e by omega)]
      have hs : m < 2 ^ ((T - e).toNat - 1) := Nat.lt_of_lt_of_le hm (Nat.pow_le_pow_right (by omega) (by omega))
      rw [rs_small _ hs, if_pos rfl, show (0 : Int64) = lN 0 from rfl, signed_ok]
  by_cases d1 : (1 - b - w : Int) ≤ e + bl m - (w + 1)
  · rw [ifp c1 d1]
    have : encT w b m e = e + bl m - (w + 1) := by omega
    rw [this] at key
    exact key
  · rw [ifn c1 d1]
    have : encT w b m e = 1 - b - w := by omega
    rw [this] at key
    exact key
