/-! The reference's plus, of all kinds. -/
/-- a double that a float spells -/
def FR (r : Int64) : Prop := r = 9221120237041090560 ∨ ∃ (n : Int32) (D : Nat), (n = 0 ∨ n = 1) ∧ r = sgD n D ∧ (D = 0 ∨ D = 2047 * 2 ^ 52 ∨ ∃ (q : Nat) (t : Int), 0 < q ∧ q ≤ 2 ^ 24 ∧ -149 ≤ t ∧ (bl q : Int) + t - 1 ≤ 127 ∧ D = epk 52 1023 q t)
theorem FR_fit {n : Int32} (hn : n = 0 ∨ n = 1) {m : Nat} {e : Int} (s : Bool) (hm0 : 0 < m) : FR (sgD n (fitD 23 127 m e s)) := by
  refine Or.inr ⟨n, _, hn, rfl, ?_⟩
  unfold fitD
  by_cases c : fq 23 127 m e s = 0
  · rw [if_pos c]; exact Or.inl rfl
  · rw [if_neg c]
    obtain ⟨t1, t2, t3⟩ := encT_le (w := 23) (b := 127) (m := m) (e := e)
    by_cases d : ((127 : Nat) : Int) < bl (fq 23 127 m e s) + ft 23 127 m e - 1
    · rw [if_pos d]; exact Or.inr (Or.inl rfl)
    · rw [if_neg d]
      have hq : fq 23 127 m e s ≤ 2 ^ 24 ∧ -149 ≤ ft 23 127 m e := by
        unfold fq ft
        generalize encT 23 127 m e = T at *
        by_cases g : 0 < T - e
        · rw [if_pos g, if_pos g]
          exact ⟨rs_hi s (Nat.lt_of_lt_of_le (bl_lt m) (Nat.pow_le_pow_right (by omega) (by omega))), by omega⟩
        · rw [if_neg g, if_neg g]
          have := bl_lt m
          have h2 : (2 : Nat) ^ bl m ≤ 2 ^ 24 := Nat.pow_le_pow_right (by omega) (by omega)
          exact ⟨by omega, by omega⟩
      exact Or.inr (Or.inr ⟨_, _, Nat.pos_of_ne_zero c, hq.1, hq.2, by omega, rfl⟩)
theorem FR_n : FR 9221120237041090560 := Or.inl rfl
theorem FR_z {n : Int32} (hn : n = 0 ∨ n = 1) : FR (sgD n 0) := Or.inr ⟨n, 0, hn, rfl, Or.inl rfl⟩
theorem FR_i {n : Int32} (hn : n = 0 ∨ n = 1) : FR (sgD n (2047 * 2 ^ 52)) := Or.inr ⟨n, _, hn, rfl, Or.inr (Or.inl rfl)⟩
def PR (f : Int32 → Option Int64) (z4 z5 : Option (Int32 × Nat)) : Prop := (∃ r, f 4 = some r ∧ f_X6_floatBits r = some (fin4 z4) ∧ FR r) ∧ f 5 = some (fin5 z5)
theorem fit_PR {n : Int32} (hn : n = 0 ∨ n = 1) {m : Nat} (hm0 : 0 < m) (hm : m < 2 ^ 62) {e : Int} (he : -4000 ≤ e ∧ e ≤ 2900) (s : Bool) : PR (fun lane => f_X6_fit n (lN m) (jI e) (b2i s) lane) (some (n, enc 23 127 m e s)) (some (n, enc 52 1023 m e s)) := by
  have h1 := fit_ok n (lane := 4) (w := 23) (b := 127) (by omega) (by omega) (by omega) rfl rfl rfl hm0 hm he (b2i s)
  have h2 := (fitD4 (e := e) s hm0 hn).2
  have h3 := fit5 n hm0 hm he (b2i s)
  rw [b2i_ne] at h1 h3
  exact ⟨⟨_, h1, h2, FR_fit hn s hm0⟩, h3⟩
theorem z0 : (0 : Int64) = sgD 0 0 := by decide
theorem PR_zero : PR (fun _ => some 0) (some (0, 0)) (some (0, 0)) := ⟨⟨sgD 0 0, congrArg some z0, floatBits_zero (Or.inl rfl), FR_z (Or.inl rfl)⟩, congrArg some z0⟩
theorem plus_big {nb ns : Int32} (hb : nb = 0 ∨ nb = 1) (hs : ns = 0 ∨ ns = 1) {Db Ds : Nat} (h0 : 0 < Db) (hD : Db < 2047 * 2 ^ 52) (hle : Ds ≤ Db) {x0 x2 : Int64} (hx : (x0 = sgD nb Db ∧ x2 = sgD ns Ds) ∨ (x0 = sgD ns Ds ∧ x2 = sgD nb Db)) {ub us : Nat} (hub : uV (vM 52 (Db / 2 ^ 52) (Db % 2 ^ 52)) (vE 52 1023 (Db / 2 ^ 52)) = ub) (hus : uV (vM 52 (Ds / 2 ^ 52) (Ds % 2 ^ 52)) (vE 52 1023 (Ds / 2 ^ 52)) = us) :
    PR (fun lane => f_X6_plus_134 x0 x2 lane (sgD nb Db) (sgD ns Ds)) (some (sumN nb ub ns us, encU 23 127 (sumU nb ub ns us))) (some (sumN nb ub ns us, encU 52 1023 (sumU nb ub ns us))) := by
  have b63 : Db < 2 ^ 63 := by omega
  have s63 : Ds < 2 ^ 63 := by omega
  have mono := bits_mono hle
  have mb := mant_ok hb b63
  have eb := exp_ok hb b63
  have ms := mant_ok hs s63
  have es := exp_ok hs s63
  have hMb := vM_pos h0
  have hMb2 := vM_lt (D := Db)
  have hMs := vM_lt (D := Ds)
  have hEb := vE_bd b63
  have hEs := vE_bd s63
  generalize vM 52 (Db / 2 ^ 52) (Db % 2 ^ 52) = Mb at *
  generalize vE 52 1023 (Db / 2 ^ 52) = Eb at *
  generalize vM 52 (Ds / 2 ^ 52) (Ds % 2 ^ 52) = Ms at *
  generalize vE 52 1023 (Ds / 2 ^ 52) = Es at *
  have hbl := bl_le_of hMb2
  have hbp := bl_pos hMb
  obtain ⟨P1, P2⟩ := norm_hi hMb (w := 60) (by omega)
  rw [show 60 + 1 - bl Mb = 61 - bl Mb from rfl] at P1 P2
  obtain ⟨e, he⟩ : ∃ e : Int, e = Eb - (61 - bl Mb : Nat) := ⟨_, rfl⟩
  have hu : uV (Mb * 2 ^ (61 - bl Mb)) e = ub := by rw [he, ← hub]; exact uV_shl (by omega)
  have he1 : -1200 ≤ e ∧ e ≤ 2000 := by omega
  have pb : 0 < ub := by rw [← hub]; exact uV_pos hMb
  have hsub := rsum_sub 23 127 (by omega) (P := Mb * 2 ^ (61 - bl Mb)) (M := Ms) (e := e) (es := Es) P1 hMs (by omega) (by omega) (by rw [hu, ← hub]; exact mono)
  have hsub5 := rsum_sub 52 1023 (by omega) (P := Mb * 2 ^ (61 - bl Mb)) (M := Ms) (e := e) (es := Es) P1 hMs (by omega) (by omega) (by rw [hu, ← hub]; exact mono)
  have hadd := rsum_add 23 127 (by omega) (P := Mb * 2 ^ (61 - bl Mb)) (M := Ms) (e := e) (es := Es) P1 (by omega) (by omega)
  have hadd5 := rsum_add 52 1023 (by omega) (P := Mb * 2 ^ (61 - bl Mb)) (M := Ms) (e := e) (es := Es) P1 (by omega) (by omega)
  rw [hu, hus] at hsub hsub5 hadd hadd5
  have mono2 : us ≤ ub := by rw [← hub, ← hus]; exact mono
  have key : ∀ lane, f_X6_plus_134 x0 x2 lane (sgD nb Db) (sgD ns Ds) = if nb = ns then f_X6_fit nb (lN (Mb * 2 ^ (61 - bl Mb) + lsN Ms (e - Es))) (jI e) (b2i (lsS Ms (e - Es))) lane else (if Mb * 2 ^ (61 - bl Mb) - lsN Ms (e - Es) - (if lsS Ms (e - Es) = true then 1 else 0) = 0 then some 0 else f_X6_fit nb (lN (Mb * 2 ^ (61 - bl Mb) - lsN Ms (e - Es) - (if lsS Ms (e - Es) = true then 1 else 0))) (jI e) (b2i (lsS Ms (e - Es))) lane) := by
    intro lane
    rcases hx with ⟨rfl, rfl⟩ | ⟨rfl, rfl⟩
    · exact p134 hb b63 hb hs (sgD_nonneg hb b63) (sgD_nonneg hs s63) mb eb ms es hMb hMb2 hMs (by omega) (by omega) mono he
    · rw [p134 hb b63 hs hb (sgD_nonneg hs s63) (sgD_nonneg hb b63) mb eb ms es hMb hMb2 hMs (by omega) (by omega) mono he]
      by_cases c : nb = ns
      · rw [if_pos c, if_pos c.symm]
      · rw [if_neg c, if_neg (fun q => c q.symm)]
  have hnn : lsN Ms (e - Es) < 2 ^ 61 := by omega
  rw [show (fun lane => f_X6_plus_134 x0 x2 lane (sgD nb Db) (sgD ns Ds)) = _ from funext key]
  unfold sumN sumU encU
  by_cases c : nb = ns
  · have := fit_PR hb (m := Mb * 2 ^ (61 - bl Mb) + lsN Ms (e - Es)) (by omega) (by omega) (e := e) (by omega) (lsS Ms (e - Es))
    rw [hadd, hadd5] at this
    simp only [if_pos c, if_neg (show ¬ ub + us = 0 by omega)]
    exact this
  · by_cases g : ub = us
    · have z := hsub.2.1.mpr g
      simp only [if_neg c, if_pos g, z, if_true, if_neg (show ¬ us < ub by omega), if_pos (show us - ub = 0 by omega)]
      exact PR_zero
    · have z : ¬ Mb * 2 ^ (61 - bl Mb) - lsN Ms (e - Es) - (if lsS Ms (e - Es) = true then 1 else 0) = 0 := fun q => g (hsub.2.1.mp q)
      have := fit_PR hb (m := Mb * 2 ^ (61 - bl Mb) - lsN Ms (e - Es) - (if lsS Ms (e - Es) = true then 1 else 0)) (by omega) (by omega) (e := e) (by omega) (lsS Ms (e - Es))
      rw [hsub.2.2 g, hsub5.2.2 g] at this
      simp only [if_neg c, if_neg g, if_neg z, if_pos (show us < ub by omega), if_neg (show ¬ ub - us = 0 by omega)]
      exact this
