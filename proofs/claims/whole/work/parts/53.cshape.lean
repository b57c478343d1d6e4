/-! The class's shapes. -/
def mk3 (a b c : Nat) : Nat → Nat := fun j => if j = 0 then a else if j = 1 then b else c
theorem lt3 {j : Nat} (h : j < 3) : j = 0 ∨ j = 1 ∨ j = 2 := by omega
theorem CR.seq {G : gG} {b : Nat} {A : AS} {sr : Nat} {se se' : Nat → Nat} {row : Nat → Int64} (h : CR G b A sr se row) (e : ∀ j, j < 3 → se j = se' j) : CR G b A sr se' row :=
  ⟨h.o, h.t, h.a, h.s, h.e.congr (fun j hj => by rw [e j hj]), h.w, h.c⟩
theorem CR.weq {G : gG} {b : Nat} {A : AS} {sr : Nat} {se : Nat → Nat} {row row' : Nat → Int64} (h : CR G b A sr se row) (e : ∀ j, j < 240 → row j = row' j) : CR G b A sr se row' :=
  ⟨h.o, h.t, h.a, h.s, h.e, h.w.congr e, h.c⟩
theorem IC_fset {c : gC} {len : Nat} {f : Nat → Nat} {i v : Nat} (h : IC c len (fset (fun j => nI (f j)) i (nI v))) : IC c len (fun j => nI (fset f i v j)) := by
  obtain ⟨g, rfl, hg⟩ := h
  refine ⟨g, rfl, fun j hj => ?_⟩
  rw [hg j hj]
  show fset (fun j => nI (f j)) i (nI v) j = nI (fset f i v j)
  by_cases z : j = i
  · rw [z, fset_s, fset_s]
  · rw [fset_n z, fset_n z]
/-- a shape at s -/
def SH (G : gG) (s a r : Nat) (e : Nat → Nat) : Prop := G s = some (sob (nI r) a) ∧ IA G a 3 (fun j => nI (e j))
theorem CR.sh {G : gG} {b : Nat} {A : AS} {sr : Nat} {se : Nat → Nat} {row : Nat → Int64} (h : CR G b A sr se row) : SH G (b + 6) (b + 7) sr se := ⟨h.s, h.e⟩
theorem CR.tsh {G : gG} {b : Nat} {A : AS} {sr : Nat} {se : Nat → Nat} {row : Nat → Int64} (h : CR G b A sr se row) {i : Nat} (hi : i < A.N) : SH G (b + 18 + 4 * i + 1) (b + 18 + 4 * i + 2) (A.rk i) (A.ex i) := ⟨(h.c i hi).s, (h.c i hi).e⟩
theorem SH.il {G : gG} {s a r : Nat} {e : Nat → Nat} (h : SH G s a r e) {j : Nat} (hj : j < 3) : g_il G a (nI j) = some (nI (e j)) := h.2.il hj (by omega)
theorem SH.i0 {G : gG} {s a r : Nat} {e : Nat → Nat} (h : SH G s a r e) : g_il G a 0 = some (nI (e 0)) := h.il (j := 0) (by omega)
theorem SH.i1 {G : gG} {s a r : Nat} {e : Nat → Nat} (h : SH G s a r e) : g_il G a 1 = some (nI (e 1)) := h.il (j := 1) (by omega)
theorem SH.i2 {G : gG} {s a r : Nat} {e : Nat → Nat} (h : SH G s a r e) : g_il G a 2 = some (nI (e 2)) := h.il (j := 2) (by omega)
theorem SH.size {G : gG} {s a r : Nat} {e : Nat → Nat} (h : SH G s a r e) : f_X3_size G s = some (nI (sz3 e)) := by
  unfold f_X3_size sz3
  rw [so_1 h.1, gb_some, h.i0, gb_some, gb_some, h.i1, gb_some, gb_some, h.i2, gb_some, pk_mul, pk_mul]
theorem CR.sfl {G : gG} {b : Nat} {A : AS} {sr : Nat} {se : Nat → Nat} {row : Nat → Int64} (h : CR G b A sr se row) (r x0 x1 x2 : Nat) : ∃ G', f_X3_setFromLast G (b + 6) (nI r) (nI x0) (nI x1) (nI x2) = some G' ∧ CR G' b A r (mk3 x0 x1 x2) row ∧ FC G G' b := by
  have h1 := h.rk r
  obtain ⟨c1, a1, a2⟩ := h1.e.is (i := 0) (by omega) (by omega) (nI x0)
  have h2 : CR (g_up (g_up G (b + 6) (sob (nI r) (b + 7))) (b + 7) c1) b A r (fset se 0 x0) row := h1.ext (IC_fset a2)
  obtain ⟨c2, b1, b2⟩ := h2.e.is (i := 1) (by omega) (by omega) (nI x1)
  have h3 : CR (g_up (g_up (g_up G (b + 6) (sob (nI r) (b + 7))) (b + 7) c1) (b + 7) c2) b A r (fset (fset se 0 x0) 1 x1) row := h2.ext (IC_fset b2)
  obtain ⟨c3, d1, d2⟩ := h3.e.is (i := 2) (by omega) (by omega) (nI x2)
  have h4 : CR (g_up (g_up (g_up (g_up G (b + 6) (sob (nI r) (b + 7))) (b + 7) c1) (b + 7) c2) (b + 7) c3) b A r (fset (fset (fset se 0 x0) 1 x1) 2 x2) row := h3.ext (IC_fset d2)
  refine ⟨_, ?_, h4.seq (fun j hj => ?_), (((FC.up (by omega)).trans (FC.up (by omega))).trans (FC.up (by omega))).trans (FC.up (by omega))⟩
  · unfold f_X3_setFromLast
    have a1 : g_is (g_up G (b + 6) (sob (nI r) (b + 7))) (b + 7) 0 (nI x0) = _ := a1
    have b1 : g_is (g_up (g_up G (b + 6) (sob (nI r) (b + 7))) (b + 7) c1) (b + 7) 1 (nI x1) = _ := b1
    have d1 : g_is (g_up (g_up (g_up G (b + 6) (sob (nI r) (b + 7))) (b + 7) c1) (b + 7) c2) (b + 7) 2 (nI x2) = _ := d1
    rw [ss_0 h.s, gb_some, so_1 h1.s, gb_some, a1, gb_some, so_1 h2.s, gb_some, b1, gb_some, so_1 h3.s, gb_some, d1, gb_some]
  · rcases lt3 hj with rfl | rfl | rfl <;> rfl
theorem CR.sas {G : gG} {b : Nat} {A : AS} {sr : Nat} {se : Nat → Nat} {row : Nat → Int64} (h : CR G b A sr se row) {i : Nat} (hi : i < A.N) : ∃ G', f_X3_setAs G (b + 6) (b + 18 + 4 * i + 1) = some G' ∧ CR G' b A (A.rk i) (A.ex i) row ∧ FC G G' b := by
  have T := h.tsh hi
  obtain ⟨G', q1, q2, q3⟩ := h.sfl (A.rk i) (A.ex i 0) (A.ex i 1) (A.ex i 2)
  refine ⟨G', ?_, q2.seq (fun j hj => ?_), q3⟩
  · unfold f_X3_setAs
    rw [so_0 T.1, gb_some, so_1 T.1, gb_some, T.i0, gb_some, gb_some, T.i1, gb_some, gb_some, T.i2, gb_some, gck_true (so_o h.s), q1, gb_some]
  · rcases lt3 hj with rfl | rfl | rfl <;> rfl
/-! Spreading. -/
def okj (s e : Nat) : Prop := s = 1 ∨ e = 1 ∨ e = s
def spj (s e : Nat) : Nat := if s = 1 then e else s
theorem okj_dec (s e : Nat) : okj s e ∨ ¬ okj s e := Classical.em _
theorem CR.spw_step {G : gG} {b : Nat} {A : AS} {sr : Nat} {se : Nat → Nat} {row : Nat → Int64} (h : CR G b A sr se row) {i : Nat} (hi : i < A.N) (w : WF A) (hs : ∀ j, j < 3 → se j ≤ 60) {j : Nat} (hj : j < 3) (fu : Nat) :
    (okj (se j) (A.ex i j) ∧ ∃ G', f_X3_spreadWith_2 (fu + 1) G (b + 6) (b + 18 + 4 * i + 1) (nI j) = f_X3_spreadWith_2 fu G' (b + 6) (b + 18 + 4 * i + 1) (nI (j + 1)) ∧ CR G' b A sr (fset se j (spj (se j) (A.ex i j))) row ∧ FC G G' b) ∨
    (¬ okj (se j) (A.ex i j) ∧ f_X3_spreadWith_2 (fu + 1) G (b + 6) (b + 18 + 4 * i + 1) (nI j) = some (nI j, G)) := by
  have T := h.tsh hi
  have S := h.sh
  have e60 := w.e60 i hi j hj
  have s60 := hs j hj
  have c3 : (3 : Int32) ≤ nI j ↔ 3 ≤ j := nI_leI (a := 3) (by omega) (by omega)
  have c1 : nI (se j) = 1 ↔ se j = 1 := nI_eq (b := 1) (by omega) (by omega)
  have c2 : nI (A.ex i j) = 1 ↔ A.ex i j = 1 := nI_eq (b := 1) (by omega) (by omega)
  have c4 : nI (A.ex i j) = nI (se j) ↔ A.ex i j = se j := nI_eq (by omega) (by omega)
  have nx : nI j + 1 = nI (j + 1) := nI_1 j
  rw [f_X3_spreadWith_2, ifn c3 (by omega), so_1 T.1, gb_some, T.il hj, gb_some, so_1 S.1, gb_some, S.il hj, gb_some]
  unfold f_X3_spreadWith_51
  simp only [gl]
  rw [nx]
  have keep : spj (se j) (A.ex i j) = se j → CR G b A sr (fset se j (spj (se j) (A.ex i j))) row := fun q => h.seq (fun k hk => by
    by_cases z : k = j
    · rw [z, fset_s, q]
    · rw [fset_n z])
  by_cases d1 : se j = 1
  · left
    refine ⟨Or.inl d1, ?_⟩
    obtain ⟨c, a1, a2⟩ := h.e.is hj (by omega) (nI (A.ex i j))
    rw [ifp c1 d1, gb_some, a1, gb_some]
    refine ⟨_, rfl, ?_, FC.up (by omega)⟩
    have e : spj (se j) (A.ex i j) = A.ex i j := by unfold spj; rw [if_pos d1]
    rw [e]
    exact h.ext (IC_fset a2)
  · rw [ifn c1 d1]
    by_cases d2 : A.ex i j = 1
    · left
      rw [ifp c2 d2]
      exact ⟨Or.inr (Or.inl d2), G, rfl, keep (by unfold spj; rw [if_neg d1]), FC.refl _ _⟩
    · rw [ifn c2 d2, gb_some, S.il hj, gb_some]
      by_cases d3 : A.ex i j = se j
      · left
        rw [ifp c4 d3]
        exact ⟨Or.inr (Or.inr d3), G, rfl, keep (by unfold spj; rw [if_neg d1]), FC.refl _ _⟩
      · right
        rw [ifn c4 d3]
        refine ⟨?_, rfl⟩
        rintro (q | q | q)
        · exact d1 q
        · exact d2 q
        · exact d3 q
/-- the first extent that fails -/
def spF (s e : Nat → Nat) : Nat := if s 0 = 1 ∨ e 0 = 1 ∨ e 0 = s 0 then (if s 1 = 1 ∨ e 1 = 1 ∨ e 1 = s 1 then (if s 2 = 1 ∨ e 2 = 1 ∨ e 2 = s 2 then 3 else 2) else 1) else 0
def spE (s e : Nat → Nat) : Nat → Nat := fun j => spj (s j) (e j)
theorem max_I {a c : Nat} (ha : a < 2 ^ 30) (hc : c < 2 ^ 30) : f_J9_max_7cf53 (nI a) (nI c) = nI (max a c) := by
  unfold f_J9_max_7cf53
  have d := nI_ltI (a := a) (b := c) (by omega) (by omega)
  by_cases g : a < c
  · rw [ifp d g, Nat.max_eq_right (by omega)]
  · rw [ifn d g, Nat.max_eq_left (by omega)]
theorem CR.spw {G : gG} {b : Nat} {A : AS} {sr : Nat} {se : Nat → Nat} {row : Nat → Int64} (h : CR G b A sr se row) {i : Nat} (hi : i < A.N) (w : WF A) (hs : ∀ j, j < 3 → se j ≤ 60) (hr : sr ≤ 3) :
    ∃ G' sr' se', CR G' b A sr' se' row ∧ FC G G' b ∧ ((spF se (A.ex i) < 3 ∧ f_X3_spreadWith G (b + 6) (b + 18 + 4 * i + 1) = some (nI (spF se (A.ex i)), G')) ∨
      (spF se (A.ex i) = 3 ∧ f_X3_spreadWith G (b + 6) (b + 18 + 4 * i + 1) = some (-3, G') ∧ sr' = max sr (A.rk i) ∧ se' = spE se (A.ex i))) := by
  obtain ⟨fu, hfu⟩ : ∃ fu : Nat, 5000 = fu + 1 + 1 + 1 + 1 := ⟨4996, rfl⟩
  have hE : ∀ j, j < 3 → spj (se j) (A.ex i j) ≤ 60 := fun j hj => by
    have := w.e60 i hi j hj
    have := hs j hj
    unfold spj
    split <;> omega
  unfold f_X3_spreadWith
  rw [hfu, show (0 : Int32) = nI 0 from rfl]
  rcases h.spw_step hi w hs (j := 0) (by omega) (fu + 1 + 1 + 1) with ⟨o0, G1, e1, h1, f1⟩ | ⟨o0, e1⟩
  · rw [e1]
    rcases h1.spw_step hi w (fun j hj => by
      by_cases z : j = 0
      · rw [z, fset_s]; exact hE 0 (by omega)
      · rw [fset_n z]; exact hs j hj) (j := 1) (by omega) (fu + 1 + 1) with ⟨o1, G2, e2, h2, f2⟩ | ⟨o1, e2⟩
    · rw [e2]
      rw [fset_n (show ¬ 1 = 0 by omega)] at o1 h2
      rcases h2.spw_step hi w (fun j hj => by
        by_cases z : j = 1
        · rw [z, fset_s]; exact hE 1 (by omega)
        · rw [fset_n z]
          by_cases y : j = 0
          · rw [y, fset_s]; exact hE 0 (by omega)
          · rw [fset_n y]; exact hs j hj) (j := 2) (by omega) (fu + 1) with ⟨o2, G3, e3, h3, f3⟩ | ⟨o2, e3⟩
      · rw [e3]
        rw [fset_n (show ¬ 2 = 1 by omega), fset_n (show ¬ 2 = 0 by omega)] at o2 h3
        have hk := w.rk3 i hi
        have F : spF se (A.ex i) = 3 := by unfold okj at o0 o1 o2; unfold spF; rw [if_pos o0, if_pos o1, if_pos o2]
        have T := h3.tsh hi
        refine ⟨g_up G3 (b + 6) (sob (nI (max sr (A.rk i))) (b + 7)), max sr (A.rk i), spE se (A.ex i), ((h3.rk (max sr (A.rk i))).seq (fun j hj => ?_)), ((f1.trans f2).trans f3).trans (FC.up (by omega)), Or.inr ⟨F, ?_, rfl, rfl⟩⟩
        · rcases lt3 hj with rfl | rfl | rfl <;> rfl
        · rw [f_X3_spreadWith_2, if_pos (by decide), so_0 h3.s, gb_some, so_0 T.1, gb_some, max_I (by omega) (by omega), ss_0 h3.s, gb_some]
      · rw [e3]
        rw [fset_n (show ¬ 2 = 1 by omega), fset_n (show ¬ 2 = 0 by omega)] at o2
        have F : spF se (A.ex i) = 2 := by unfold okj at o0 o1 o2; unfold spF; rw [if_pos o0, if_pos o1, if_neg o2]
        exact ⟨G2, _, _, h2, f1.trans f2, Or.inl ⟨by omega, by rw [F]⟩⟩
    · rw [e2]
      rw [fset_n (show ¬ 1 = 0 by omega)] at o1
      have F : spF se (A.ex i) = 1 := by unfold okj at o0 o1; unfold spF; rw [if_pos o0, if_neg o1]
      exact ⟨G1, _, _, h1, f1, Or.inl ⟨by omega, by rw [F]⟩⟩
  · rw [e1]
    have F : spF se (A.ex i) = 0 := by unfold okj at o0; unfold spF; rw [if_neg o0]
    exact ⟨G, _, _, h, FC.refl _ _, Or.inl ⟨by omega, by rw [F]⟩⟩
/-! Reading under a spread. -/
def dgt (e s n : Nat) : Nat := if e = 1 then 0 else n % s
def offU (e s : Nat → Nat) (n : Nat) : Nat := dgt (e 0) (s 0) n + dgt (e 1) (s 1) (n / s 0) * e 0 + dgt (e 2) (s 2) (n / s 0 / s 1) * (e 0 * e 1)
theorem dgt_lt {e s n : Nat} (hs : 0 < s) (h : e = 1 ∨ e = s) : dgt e s n < e := by
  unfold dgt
  rcases h with rfl | rfl
  · rw [if_pos rfl]; omega
  · split
    · omega
    · exact Nat.mod_lt _ hs
theorem offU_lt {e s : Nat → Nat} {n : Nat} (hs : ∀ j, j < 3 → 0 < s j) (h : ∀ j, j < 3 → e j = 1 ∨ e j = s j) : offU e s n < sz3 e := by
  have d0 := dgt_lt (n := n) (hs 0 (by omega)) (h 0 (by omega))
  have d1 := dgt_lt (n := n / s 0) (hs 1 (by omega)) (h 1 (by omega))
  have d2 := dgt_lt (n := n / s 0 / s 1) (hs 2 (by omega)) (h 2 (by omega))
  unfold offU sz3
  generalize dgt (e 0) (s 0) n = x0 at *
  generalize dgt (e 1) (s 1) (n / s 0) = x1 at *
  generalize dgt (e 2) (s 2) (n / s 0 / s 1) = x2 at *
  have h1 : x1 * e 0 + e 0 ≤ e 1 * e 0 := by
    have := Nat.mul_le_mul_right (e 0) d1
    rw [Nat.succ_mul] at this
    exact this
  have h2 : x2 * (e 0 * e 1) + e 0 * e 1 ≤ e 2 * (e 0 * e 1) := by
    have := Nat.mul_le_mul_right (e 0 * e 1) d2
    rw [Nat.succ_mul] at this
    exact this
  rw [Nat.mul_comm (e 0 * e 1) (e 2)]
  rw [Nat.mul_comm (e 1) (e 0)] at h1
  omega
theorem nU_step {G : gG} {x0 a0 r0 x2 a2 r2 : Nat} {e s : Nat → Nat} (T : SH G x0 a0 r0 e) (S : SH G x2 a2 r2 s) {j : Nat} (hj : j < 3) (he : e j ≤ 60) (hs : s j ≤ 60) (hs0 : 0 < s j) {off stride n : Nat} (hn : n < 2 ^ 20) (ho : off < 2 ^ 20) (hst : stride < 2 ^ 20) (fu : Nat) :
    f_X3_numberUnder_11 (fu + 1) G x0 x2 (nI off) (nI stride) (nI n) (nI j) = f_X3_numberUnder_11 fu G x0 x2 (nI (off + dgt (e j) (s j) n * stride)) (nI (stride * e j)) (nI (n / s j)) (nI (j + 1)) := by
  have c3 : (3 : Int32) ≤ nI j ↔ 3 ≤ j := nI_leI (a := 3) (by omega) (by omega)
  have c1 : (1 : Int32) ≤ nI (s j) ↔ 1 ≤ s j := nI_leI (a := 1) (by omega) (by omega)
  have c2 : nI (e j) = 1 ↔ e j = 1 := nI_eq (b := 1) (by omega) (by omega)
  have nz : ¬ nI (s j) = 0 := nI_ne0 hs0 (by omega)
  rw [f_X3_numberUnder_11, ifn c3 (by omega), so_1 S.1, gb_some, S.il hj, gb_some, ifp c1 (by omega), so_1 T.1, gb_some, T.il hj, gb_some]
  unfold f_X3_numberUnder_69 dgt
  simp only [gl]
  rw [gne_ok nz, gne_ok nz, gb_some, T.il hj, gb_some, gne_ok nz, pk_div (by omega) hs0 (by omega), nI_1]
  by_cases d : e j = 1
  · rw [ifp c2 d, if_pos d, d, Nat.zero_mul, Nat.mul_one, Nat.add_zero off]
  · have er : g_irem (nI n) (nI (s j)) = nI (n % s j) := pk_rem (by omega) hs0 (by omega)
    rw [ifn c2 d, if_neg d, er, pk_mul, nI_add, pk_mul]
theorem nU_ok {G : gG} {x0 a0 r0 x2 a2 r2 : Nat} {e s : Nat → Nat} (T : SH G x0 a0 r0 e) (S : SH G x2 a2 r2 s) (he : ∀ j, j < 3 → e j ≤ 60) (hs : ∀ j, j < 3 → s j ≤ 60) (hs0 : ∀ j, j < 3 → 0 < s j) {n : Nat} (hn : n < 2 ^ 20) : f_X3_numberUnder G x0 (nI n) x2 = some (nI (offU e s n)) := by
  obtain ⟨fu, hfu⟩ : ∃ fu : Nat, 5000 = fu + 1 + 1 + 1 + 1 := ⟨4996, rfl⟩
  unfold f_X3_numberUnder
  have e0 := he 0 (by omega)
  have e1 := he 1 (by omega)
  have e2 := he 2 (by omega)
  have s0 := hs 0 (by omega)
  have s1 := hs 1 (by omega)
  have s2 := hs 2 (by omega)
  have z0 := hs0 0 (by omega)
  have z1 := hs0 1 (by omega)
  have z2 := hs0 2 (by omega)
  have n1 : n / s 0 ≤ n := Nat.div_le_self _ _
  have n2 : n / s 0 / s 1 ≤ n / s 0 := Nat.div_le_self _ _
  have k0 : dgt (e 0) (s 0) n ≤ 60 := by
    unfold dgt
    split
    · omega
    · have := Nat.mod_lt n z0; omega
  have k1 : dgt (e 1) (s 1) (n / s 0) ≤ 60 := by
    unfold dgt
    split
    · omega
    · have := Nat.mod_lt (n / s 0) z1; omega
  have m1 : dgt (e 1) (s 1) (n / s 0) * e 0 ≤ 60 * 60 := Nat.mul_le_mul k1 e0
  have m2 : e 0 * e 1 ≤ 60 * 60 := Nat.mul_le_mul e0 e1
  rw [hfu, show (0 : Int32) = nI 0 from rfl, show (1 : Int32) = nI 1 from rfl]
  rw [nU_step T S (j := 0) (by omega) e0 s0 z0 hn (by omega) (by omega), Nat.zero_add, Nat.mul_one, Nat.one_mul]
  rw [nU_step T S (j := 1) (by omega) e1 s1 z1 (by omega) (by omega) (by omega)]
  rw [nU_step T S (j := 2) (by omega) e2 s2 z2 (by omega) (by omega) (by omega)]
  rw [f_X3_numberUnder_11, if_pos (by decide)]
  rfl
theorem has_ok {G : gG} {p : Nat} {l : Int32} {r : Nat} {e : Nat → Nat} {g : Int32} {it : Nat → Int64} (h : TC G p l r e g it) (hz : sz3 e ≤ 240) (a : Int32) : (∃ j, j < sz3 e ∧ a = nI j ∧ f_X4_hasItem G p a = some 1) ∨ ((a < 0 ∨ nI (sz3 e) ≤ a) ∧ f_X4_hasItem G p a = some 0) := by
  unfold f_X4_hasItem
  by_cases c : a < 0
  · rw [if_pos c]; exact Or.inr ⟨Or.inl c, rfl⟩
  · obtain ⟨j, hj, rfl⟩ := nI_of c
    rw [if_neg c, to_2 h.o, gb_some, h.i.len, gb_some]
    have d := nI_leI (a := sz3 e) (b := j) (by omega) hj
    by_cases g : sz3 e ≤ j
    · rw [ifp d g]; exact Or.inr ⟨Or.inr (d.mpr g), rfl⟩
    · rw [ifn d g]; exact Or.inl ⟨j, by omega, rfl, rfl⟩
theorem read_ok {G : gG} {p : Nat} {l : Int32} {r : Nat} {e : Nat → Nat} {g : Int32} {it : Nat → Int64} (h : TC G p l r e g it) (hz : sz3 e ≤ 240) {j : Nat} (hj : j < sz3 e) : f_X4_read G p (nI j) = some (it j) := by
  unfold f_X4_read
  rcases has_ok h hz (nI j) with ⟨k, -, -, e1⟩ | ⟨q, -⟩
  · rw [gck_true (to_o h.o), e1, gb_some, if_neg (by decide), to_2 h.o, gb_some, h.i.ll hj (by omega), gb_some]
  · rcases q with q | q
    · exact absurd q (nI_pos (by omega))
    · have := (nI_leI (by omega) (by omega)).mp q
      omega
theorem CR.rsp {G : gG} {b : Nat} {A : AS} {sr : Nat} {se : Nat → Nat} {row : Nat → Int64} (h : CR G b A sr se row) {i : Nat} (hi : i < A.N) (w : WF A) (hs : ∀ j, j < 3 → se j ≤ 60) (hs0 : ∀ j, j < 3 → 0 < se j) (hm : ∀ j, j < 3 → A.ex i j = 1 ∨ A.ex i j = se j) {n : Nat} (hn : n < 2 ^ 20) : f_X4_readSpread G (b + 18 + 4 * i) (nI n) (b + 6) = some (A.it i (offU (A.ex i) se n)) := by
  have T := h.c i hi
  unfold f_X4_readSpread
  rw [to_1 T.o, gb_some, gck_true (so_o T.s), nU_ok (h.tsh hi) h.sh (w.e60 i hi) hs hs0 hn, gb_some, gck_true (to_o T.o), read_ok T (w.sz i hi) (offU_lt hs0 hm), gb_some]
/-! Failing, knowing. -/
theorem CR.fail {G : gG} {b : Nat} {A : AS} {sr : Nat} {se : Nat → Nat} {row : Nat → Int64} (h : CR G b A sr se row) (k p : Int32) : ∃ G', f_X5_failed G b k p = some (-10 - k, G') ∧ CR G' b (A.own A.set A.mis (A.fai + 1) p) sr se row ∧ FC G G' b := by
  refine ⟨g_up (g_up G b (cob b (nI A.N) A.set A.mis (A.fai + 1) A.pla)) b (cob b (nI A.N) A.set A.mis (A.fai + 1) p), ?_, ?_, (FC.up (by omega)).trans (FC.up (by omega))⟩
  · unfold f_X5_failed
    rw [cf_7 h.o, gb_some, cz_7 h.o, gb_some, cz_8 (g_up_same _ _ _), gb_some]
  · rw [g_up_up]
    exact h.own A.set A.mis (A.fai + 1) p
theorem MR.fail {G : gG} {m : Nat} {A : AS} {asd : Nat → Int64} {spr : Nat → Int32} {sd ss f15 f16 : Int32} (h : MR G m A asd spr sd ss f15 f16) {b : Nat} (hm : m = b + 9) (k p : Int32) : ∃ G', f_X6_fails G m k p = some (-10 - k, G') ∧ MR G' m (A.own A.set A.mis (A.fai + 1) p) asd spr sd ss f15 f16 ∧ FM G G' b := by
  refine ⟨g_up (g_up G m (mob m (nI A.N) A.set A.mis (A.fai + 1) A.pla sd ss f15 f16)) m (mob m (nI A.N) A.set A.mis (A.fai + 1) p sd ss f15 f16), ?_, ?_, (FM.up (by omega)).trans (FM.up (by omega))⟩
  · unfold f_X6_fails
    rw [mo_10 h.o, gb_some, ms_10 h.o, gb_some, ms_11 (g_up_same _ _ _), gb_some]
  · rw [g_up_up]
    exact h.own A.set A.mis (A.fai + 1) p sd ss f15 f16
theorem known_ok {G : gG} {b : Nat} {A : AS} {sr : Nat} {se : Nat → Nat} {row : Nat → Int64} (h : CR G b A sr se row) (w : WF A) (a : Int32) : (∃ i, i < A.N ∧ a = nI i ∧ f_X5_known G b a = some (some (b + 18 + 4 * i))) ∨ ((a < 0 ∨ nI A.N ≤ a) ∧ f_X5_known G b a = some none) := by
  have h16 := w.n16
  unfold f_X5_known
  by_cases c : a < 0
  · rw [if_pos c]; exact Or.inr ⟨Or.inl c, rfl⟩
  · obtain ⟨i, hi, rfl⟩ := nI_of c
    have d := nI_leI (a := A.N) (b := i) (by omega) hi
    rw [if_neg c, cf_4 h.o, gb_some]
    by_cases g : A.N ≤ i
    · rw [ifp d g]; exact Or.inr ⟨Or.inr (d.mpr g), rfl⟩
    · have d2 := nI_leI (a := 16) (b := i) (by omega) hi
      rw [ifn d g, cf_0 h.o, gb_some, h.t.len, gb_some, ifn d2 (by omega), gb_some, h.t.al (by omega) (by omega), gb_some]
      refine Or.inl ⟨i, by omega, rfl, ?_⟩
      rw [if_pos (by omega)]
theorem isT_ok {G : gG} {m : Nat} {A : AS} {asd : Nat → Int64} {spr : Nat → Int32} {sd ss f15 f16 : Int32} (h : MR G m A asd spr sd ss f15 f16) (w : WF A) (a : Int32) : (∃ i, i < A.N ∧ a = nI i ∧ f_X6_isTensor G m a = some 1) ∨ ((a < 0 ∨ nI A.N ≤ a) ∧ f_X6_isTensor G m a = some 0) := by
  have h16 := w.n16
  unfold f_X6_isTensor
  rw [mo_0 h.o, gb_some]
  rcases in_N a (N := A.N) (by omega) with ⟨j, h1, h2, h3⟩ | ⟨h1, h2⟩
  · rw [h3, gck_true (by decide)]
    exact Or.inl ⟨j, h1, h2, rfl⟩
  · rw [h2, gck_true (by decide)]
    exact Or.inr ⟨h1, rfl⟩
theorem bad_n {N i : Nat} {a : Int32} (hN : N ≤ 16) (hi : i < N) (ha : a = nI i) (hb : a < 0 ∨ nI N ≤ a) : False := by
  subst ha
  rcases hb with q | q
  · exact nI_pos (by omega) q
  · have := (nI_leI (a := N) (b := i) (by omega) (by omega)).mp q
    omega
theorem full_ok {G : gG} {b : Nat} {A : AS} {sr : Nat} {se : Nat → Nat} {row : Nat → Int64} (h : CR G b A sr se row) (w : WF A) : f_X5_isFull G b = some (if A.N = 16 then 1 else 0) := by
  have h16 := w.n16
  unfold f_X5_isFull
  have d : nI A.N < 16 ↔ A.N < 16 := nI_ltI (a := A.N) (b := 16) (by omega) (by omega)
  rw [cf_4 h.o, gb_some]
  by_cases g : A.N = 16
  · rw [if_pos g, ifn d (by omega)]
  · rw [if_neg g, ifp d (by omega)]
theorem full_I {A : AS} (w : WF A) : nI A.N = 16 ↔ A.N = 16 := nI_eq (b := 16) (by have := w.n16; omega) (by omega)
