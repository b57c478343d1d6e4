/-! The reference's plus. -/
def RV (a : Int64) (k : Nat) (n : Int32) (u : Nat) : Prop :=
  (k = 0 ∧ u = 0 ∧ a = sgD n 0) ∨
  (k = 1 ∧ ∃ D, a = sgD n D ∧ 0 < D ∧ D < 2047 * 2 ^ 52 ∧ uV (vM 52 (D / 2 ^ 52) (D % 2 ^ 52)) (vE 52 1023 (D / 2 ^ 52)) = u) ∨
  (k = 2 ∧ a = sgD n (2047 * 2 ^ 52)) ∨ (k = 3 ∧ a = 9221120237041090560)
def b2i (s : Bool) : Int32 := if s = true then 1 else 0
theorem b2i_ne {s : Bool} : decide (¬ b2i s = 0) = s := by cases s <;> rfl
section PL
variable {lane : Int32} {nb : Int32} {Db : Nat} {e : Int}
theorem p321 (hn : nb = 0 ∨ nb = 1) (hD : Db < 2 ^ 63) (st : Int32) {m : Nat} (hm : m < 2 ^ 63) : f_X6_plus_321 lane (sgD nb Db) (jI e) st (lN m) = if m = 0 then some 0 else f_X6_fit nb (lN m) (jI e) st lane := by
  unfold f_X6_plus_321 f_X6_plus_346
  have c := lN_z (x := m) (by omega)
  have c2 := sgD_nonneg hn hD
  by_cases d : m = 0
  · rw [ifp c d, if_pos d]
  · rw [ifn c d, if_neg d]
    rcases hn with rfl | rfl
    · rw [ifp c2 rfl]
      cases f_X6_fit 0 (lN m) (jI e) st lane <;> rfl
    · rw [ifn c2 (by decide)]
      cases f_X6_fit 1 (lN m) (jI e) st lane <;> rfl
theorem p272 (hn : nb = 0 ∨ nb = 1) (hD : Db < 2 ^ 63) {x0 x2 : Int64} {n0 n2 : Int32} (h0 : n0 = 0 ∨ n0 = 1) (h2 : n2 = 0 ∨ n2 = 1) (s0 : (0 : Int64) ≤ x0 ↔ n0 = 0) (s2 : (0 : Int64) ≤ x2 ↔ n2 = 0) {P nn : Nat} {s : Bool} (hP : P < 2 ^ 61) (hnn : nn < 2 ^ 61) (hle : ¬ n0 = n2 → nn + (if s = true then 1 else 0) ≤ P) :
    f_X6_plus_272 x0 x2 lane (sgD nb Db) (lN P) (jI e) (lN nn) (b2i s) = if n0 = n2 then (if P + nn = 0 then some 0 else f_X6_fit nb (lN (P + nn)) (jI e) (b2i s) lane) else (if P - nn - (if s = true then 1 else 0) = 0 then some 0 else f_X6_fit nb (lN (P - nn - (if s = true then 1 else 0))) (jI e) (b2i s) lane) := by
  have key : ∀ a c : Int32, (a = n0 ∧ c = n2) → f_X6_plus_294 lane (sgD nb Db) (lN P) (jI e) (lN nn) (b2i s) c a = if n0 = n2 then (if P + nn = 0 then some 0 else f_X6_fit nb (lN (P + nn)) (jI e) (b2i s) lane) else (if P - nn - (if s = true then 1 else 0) = 0 then some 0 else f_X6_fit nb (lN (P - nn - (if s = true then 1 else 0))) (jI e) (b2i s) lane) := by
    rintro a c ⟨rfl, rfl⟩
    unfold f_X6_plus_294 f_X6_plus_320
    by_cases d : a = c
    · rw [if_pos d, if_pos d, lN_add, p321 hn hD _ (by omega)]
    · rw [if_neg d, if_neg d]
      have h := hle d
      cases s with
      | true =>
        rw [if_pos rfl] at h
        rw [show b2i true = 1 from rfl, if_neg (show ¬ (1 : Int32) = 0 by decide), if_pos rfl, lN_sub (by omega), show (1 : Int64) = lN 1 from rfl, lN_sub (by omega), p321 hn hD _ (by omega)]
      | false =>
        have hf : ¬ (false = true) := by decide
        rw [if_neg hf] at h
        rw [show b2i false = 0 from rfl, if_pos rfl, if_neg hf, lN_sub (by omega), show (0 : Int64) = lN 0 from rfl, lN_sub (by omega), p321 hn hD _ (by omega)]
        rfl
  unfold f_X6_plus_272 f_X6_plus_283
  rcases h0 with rfl | rfl <;> rcases h2 with rfl | rfl
  · rw [ifp s0 rfl, ifp s2 rfl, key 0 0 ⟨rfl, rfl⟩]
  · rw [ifp s0 rfl, ifn s2 (by decide), key 0 1 ⟨rfl, rfl⟩]
  · rw [ifn s0 (by decide), ifp s2 rfl, key 1 0 ⟨rfl, rfl⟩]
  · rw [ifn s0 (by decide), ifn s2 (by decide), key 1 1 ⟨rfl, rfl⟩]
theorem p134 (hn : nb = 0 ∨ nb = 1) (hD : Db < 2 ^ 63) {x0 x2 small : Int64} {n0 n2 : Int32} (h0 : n0 = 0 ∨ n0 = 1) (h2 : n2 = 0 ∨ n2 = 1) (s0 : (0 : Int64) ≤ x0 ↔ n0 = 0) (s2 : (0 : Int64) ≤ x2 ↔ n2 = 0) {Mb Ms : Nat} {Eb Es : Int} (m1 : f_X6_mantissa (sgD nb Db) = lN Mb) (m2 : f_X6_exponent (sgD nb Db) = jI Eb) (m3 : f_X6_mantissa small = lN Ms) (m4 : f_X6_exponent small = jI Es) (hMb : 0 < Mb) (hMb2 : Mb < 2 ^ 53) (hMs : Ms < 2 ^ 53) (hEb : -1074 ≤ Eb ∧ Eb ≤ 2000) (hEs : -1074 ≤ Es ∧ Es ≤ 2000) (hsz : uV Ms Es ≤ uV Mb Eb) (he : e = Eb - (61 - bl Mb : Nat)) :
    f_X6_plus_134 x0 x2 lane (sgD nb Db) small = if n0 = n2 then f_X6_fit nb (lN (Mb * 2 ^ (61 - bl Mb) + lsN Ms (e - Es))) (jI e) (b2i (lsS Ms (e - Es))) lane else (if Mb * 2 ^ (61 - bl Mb) - lsN Ms (e - Es) - (if lsS Ms (e - Es) = true then 1 else 0) = 0 then some 0 else f_X6_fit nb (lN (Mb * 2 ^ (61 - bl Mb) - lsN Ms (e - Es) - (if lsS Ms (e - Es) = true then 1 else 0))) (jI e) (b2i (lsS Ms (e - Es))) lane) := by
  have hbl := bl_le_of hMb2
  have hbp := bl_pos hMb
  obtain ⟨P1, P2⟩ := norm_hi hMb (w := 60) (by omega)
  rw [show 60 + 1 - bl Mb = 61 - bl Mb from rfl] at P1 P2
  have hu : uV (Mb * 2 ^ (61 - bl Mb)) e = uV Mb Eb := by rw [he]; exact uV_shl (by omega)
  have hle := (rsum_sub 52 1023 (by omega) (P := Mb * 2 ^ (61 - bl Mb)) (M := Ms) (e := e) (es := Es) P1 hMs (by omega) (by omega) (by rw [hu]; exact hsz)).1
  have hnn : lsN Ms (e - Es) < 2 ^ 61 := by omega
  have e1 : (61 : Int32) - nI (bl Mb) = nI (61 - bl Mb) := pk_sub (a := 61) (by omega)
  have e2 : jI Eb - nI (61 - bl Mb) = jI e := by rw [nI_jI, jI_sub, he]
  have e3 : jI e - jI Es = jI (e - Es) := jI_sub _ _
  have fin := p272 (lane := lane) (e := e) hn hD h0 h2 s0 s2 (P := Mb * 2 ^ (61 - bl Mb)) (nn := lsN Ms (e - Es)) (s := lsS Ms (e - Es)) P2 hnn (fun _ => hle)
  rw [if_neg (show ¬ Mb * 2 ^ (61 - bl Mb) + lsN Ms (e - Es) = 0 by omega)] at fin
  rw [← fin]
  unfold f_X6_plus_134
  have hlen := len_N (m := Mb) (by omega)
  rw [m1, m2, m3, m4]
  simp only [gl, hlen, gb_some]
  rw [e1, e2, e3, lshl_N _ (by omega)]
  have c0 := lN_z (x := Ms) (by omega)
  have c1 : jI (e - Es) ≤ 62 ↔ e - Es ≤ 62 := by rw [show (62 : Int32) = jI 62 from rfl, jI_le (by omega) (by omega)]
  have c2 : jI (e - Es) ≤ 0 ↔ e - Es ≤ 0 := by rw [show (0 : Int32) = jI 0 from rfl, jI_le (by omega) (by omega)]
  generalize Mb * 2 ^ (61 - bl Mb) = P at *
  by_cases d0 : Ms = 0
  · rw [ifp c0 d0]
    unfold f_X6_plus_208 f_X6_plus_220
    rw [ifp c0 d0]
    have t1 : lsN Ms (e - Es) = 0 := by unfold lsN; rw [d0]; split <;> simp
    have t2 : lsS Ms (e - Es) = false := by unfold lsS; rw [d0]; split <;> simp
    rw [t1, t2]
    rfl
  · rw [ifn c0 d0]
    by_cases d1 : e - Es ≤ 62
    · rw [ifp c1 d1]
      by_cases d2 : e - Es ≤ 0
      · have t1 : lsN Ms (e - Es) = Ms * 2 ^ (-(e - Es)).toNat := by unfold lsN; rw [if_pos d2]
        have t2 : lsS Ms (e - Es) = false := by unfold lsS; rw [if_pos d2]
        have hsh : (-(e - Es)).toNat < 64 := by
          refine Nat.not_le.mp (fun q => ?_)
          have h3 : (2 : Nat) ^ 64 ≤ 2 ^ (-(e - Es)).toNat := Nat.pow_le_pow_right (by omega) q
          have h4 := Nat.mul_le_mul (show 1 ≤ Ms by omega) h3
          omega
        have e4 : -jI (e - Es) = nI (-(e - Es)).toNat := by
          rw [jI_neg, nI_jI]
          exact congrArg jI (by omega)
        rw [ifp c2 d2, e4, lshl_N _ hsh, t1, t2]
        rfl
      · obtain ⟨d, hd⟩ : ∃ d : Nat, e - Es = d := ⟨(e - Es).toNat, by omega⟩
        have t1 : lsN Ms (e - Es) = Ms / 2 ^ d := by unfold lsN; rw [if_neg d2, hd]; rfl
        have t2 : lsS Ms (e - Es) = decide (Ms % 2 ^ d ≠ 0) := by unfold lsS; rw [if_neg d2, hd]; rfl
        have hml : Ms % 2 ^ d ≤ Ms := Nat.mod_le _ _
        have e4 : jI (e - Es) = nI d := by rw [hd]; exact jI_nI d
        have e5 : (lN Ms &&& (g_lshl 1 (nI d) - 1)) = lN (Ms % 2 ^ d) := by rw [lsub1_N (by omega), lmask_N (by omega) (by omega)]
        have c3 := lN_z (x := Ms % 2 ^ d) (by omega)
        rw [ifn c2 d2, e4, e5]
        unfold f_X6_plus_252
        simp only [gl]
        rw [lshr_N (by omega) (by omega), t1, t2]
        by_cases d3 : Ms % 2 ^ d = 0
        · rw [ifp c3 d3, decide_eq_false (fun q => q d3)]; rfl
        · rw [ifn c3 d3, decide_eq_true d3]; rfl
    · have hk : (2 : Nat) ^ 62 ≤ 2 ^ (e - Es).toNat := Nat.pow_le_pow_right (by omega) (by omega)
      have t1 : lsN Ms (e - Es) = 0 := by unfold lsN; rw [if_neg (by omega)]; exact Nat.div_eq_of_lt (by omega)
      have t2 : lsS Ms (e - Es) = true := by unfold lsS; rw [if_neg (by omega), Nat.mod_eq_of_lt (by omega)]; exact decide_eq_true d0
      rw [ifn c1 d1]
      unfold f_X6_plus_208 f_X6_plus_220
      rw [ifn c0 d0, t1, t2]
      rfl
end PL
