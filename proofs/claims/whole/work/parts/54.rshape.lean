/-! The reference's shapes. -/
theorem MR.sprc {G : gG} {m : Nat} {A : AS} {asd : Nat → Int64} {spr spr' : Nat → Int32} {sd ss f15 f16 : Int32} (h : MR G m A asd spr sd ss f15 f16) (e : ∀ j, j < 3 → spr j = spr' j) : MR G m A asd spr' sd ss f15 f16 := ⟨h.o, h.r, h.w, h.s.congr e⟩
theorem MR.asdc {G : gG} {m : Nat} {A : AS} {asd asd' : Nat → Int64} {spr : Nat → Int32} {sd ss f15 f16 : Int32} (h : MR G m A asd spr sd ss f15 f16) (e : ∀ j, j < 240 → asd j = asd' j) : MR G m A asd' spr sd ss f15 f16 := ⟨h.o, h.r, h.w.congr e, h.s⟩
section RS
variable {G : gG} {m b : Nat} {A : AS} {asd : Nat → Int64} {spr : Nat → Int32} {sd ss f15 f16 : Int32}
theorem beg_step (h : MR G m A asd spr sd ss f15 f16) (hm : m = b + 9) (w : WF A) {i : Nat} (hi : i < A.N) {j : Nat} (hj : j < 3) (fu : Nat) :
    ∃ G', f_X6_begin_12 (fu + 1) G m (nI i) (nI j) = f_X6_begin_12 fu G' m (nI i) (nI (j + 1)) ∧ MR G' m A asd (fset spr j (nI (A.ex i j))) sd ss f15 f16 ∧ FM G G' b := by
  have c3 : (3 : Int32) ≤ nI j ↔ 3 ≤ j := nI_leI (a := 3) (by omega) (by omega)
  obtain ⟨c, a1, a2⟩ := h.s.is hj (by omega) (nI (A.ex i j))
  refine ⟨g_up G (m + 8) c, ?_, h.spr a2, FM.up (by omega)⟩
  rw [f_X6_begin_12, ifn c3 (by omega), mo_12 h.o, gb_some, gck_true (mo_o h.o), h.ext w hi hj, gb_some, a1, gb_some]
  simp only [gl]
  rw [nI_1]
theorem MR.begin (h : MR G m A asd spr sd ss f15 f16) (hm : m = b + 9) (w : WF A) {i : Nat} (hi : i < A.N) : ∃ G', f_X6_begin G m (nI i) = some G' ∧ MR G' m A asd (fun j => nI (A.ex i j)) (nI (A.rk i)) (nI (sz3 (A.ex i))) f15 f16 ∧ FM G G' b := by
  obtain ⟨fu, hfu⟩ : ∃ fu : Nat, 5000 = fu + 1 + 1 + 1 + 1 := ⟨4996, rfl⟩
  have h0 := h.scr (nI (A.rk i)) ss f15 f16
  obtain ⟨G1, e1, h1, f1⟩ := beg_step h0 hm w hi (j := 0) (by omega) (fu + 1 + 1 + 1)
  obtain ⟨G2, e2, h2, f2⟩ := beg_step h1 hm w hi (j := 1) (by omega) (fu + 1 + 1)
  obtain ⟨G3, e3, h3, f3⟩ := beg_step h2 hm w hi (j := 2) (by omega) (fu + 1)
  have h4 := h3.scr (nI (A.rk i)) (nI (sz3 (A.ex i))) f15 f16
  refine ⟨_, ?_, h4.sprc (fun j hj => ?_), (((FM.up (by omega)).trans f1).trans (f2.trans f3)).trans (FM.up (by omega))⟩
  · unfold f_X6_begin
    rw [mo_2 h.o, gb_some, h.dim w hi, gb_some, ms_13 h.o, gb_some, hfu, show (0 : Int32) = nI 0 from rfl, e1, e2, e3, f_X6_begin_12, if_pos (by decide), mo_4 h3.o, gb_some, h3.size w hi, gb_some, ms_14 h3.o, gb_some]
  · rcases lt3 hj with rfl | rfl | rfl <;> rfl
theorem spF_cs (s e : Nat → Nat) : (spF s e = 3 ∧ ∀ j, j < 3 → okj (s j) (e j)) ∨ (spF s e < 3 ∧ ¬ okj (s (spF s e)) (e (spF s e)) ∧ ∀ t, t < spF s e → okj (s t) (e t)) := by
  unfold spF
  by_cases c0 : s 0 = 1 ∨ e 0 = 1 ∨ e 0 = s 0
  · rw [if_pos c0]
    by_cases c1 : s 1 = 1 ∨ e 1 = 1 ∨ e 1 = s 1
    · rw [if_pos c1]
      by_cases c2 : s 2 = 1 ∨ e 2 = 1 ∨ e 2 = s 2
      · rw [if_pos c2]
        refine Or.inl ⟨rfl, fun j hj => ?_⟩
        rcases lt3 hj with rfl | rfl | rfl
        · exact c0
        · exact c1
        · exact c2
      · rw [if_neg c2]
        refine Or.inr ⟨by omega, c2, fun t ht => ?_⟩
        have : t = 0 ∨ t = 1 := by omega
        rcases this with rfl | rfl
        · exact c0
        · exact c1
    · rw [if_neg c1]
      refine Or.inr ⟨by omega, c1, fun t ht => ?_⟩
      have : t = 0 := by omega
      rw [this]
      exact c0
  · rw [if_neg c0]
    exact Or.inr ⟨by omega, c0, fun t ht => by omega⟩
theorem spw29_step (h : MR G m A asd spr sd ss f15 f16) (w : WF A) {i : Nat} (hi : i < A.N) {se : Nat → Nat} (hse : ∀ j, j < 3 → spr j = nI (se j)) (hs : ∀ j, j < 3 → se j ≤ 60) {X j : Nat} (hX : X ≤ 3) (hj : j < X) (fu : Nat) :
    (okj (se j) (A.ex i j) ∧ f_X6_spreadWith_29 (fu + 1) G m (nI i) (nI X) (nI j) = f_X6_spreadWith_29 fu G m (nI i) (nI X) (nI (j + 1))) ∨ (¬ okj (se j) (A.ex i j) ∧ f_X6_spreadWith_29 (fu + 1) G m (nI i) (nI X) (nI j) = some (nI j, G)) := by
  have e60 := w.e60 i hi j (by omega)
  have s60 := hs j (by omega)
  have c0 : nI X ≤ nI j ↔ X ≤ j := nI_leI (by omega) (by omega)
  have c1 : nI (se j) = 1 ↔ se j = 1 := nI_eq (b := 1) (by omega) (by omega)
  have c2 : nI (A.ex i j) = 1 ↔ A.ex i j = 1 := nI_eq (b := 1) (by omega) (by omega)
  have c4 : nI (se j) = nI (A.ex i j) ↔ se j = A.ex i j := nI_eq (by omega) (by omega)
  have il : g_il G (m + 8) (nI j) = some (nI (se j)) := by rw [h.s.il (by omega) (by omega), hse j (by omega)]
  rw [f_X6_spreadWith_29, ifn c0 (by omega), gck_true (mo_o h.o), h.ext w hi (by omega), gb_some, mo_12 h.o, gb_some, il, gb_some]
  unfold f_X6_spreadWith_71
  simp only [gl]
  rw [nI_1]
  by_cases d4 : se j = A.ex i j
  · rw [ifp c4 d4]
    exact Or.inl ⟨Or.inr (Or.inr d4.symm), rfl⟩
  · rw [ifn c4 d4, gb_some, il, gb_some]
    by_cases d1 : se j = 1
    · rw [ifp c1 d1]
      exact Or.inl ⟨Or.inl d1, rfl⟩
    · rw [ifn c1 d1]
      by_cases d2 : A.ex i j = 1
      · rw [ifp c2 d2]
        exact Or.inl ⟨Or.inr (Or.inl d2), rfl⟩
      · rw [ifn c2 d2]
        refine Or.inr ⟨?_, rfl⟩
        rintro (q | q | q)
        · exact d1 q
        · exact d2 q
        · exact d4 q.symm
theorem spw29 (h : MR G m A asd spr sd ss f15 f16) (w : WF A) {i : Nat} (hi : i < A.N) {se : Nat → Nat} (hse : ∀ j, j < 3 → spr j = nI (se j)) (hs : ∀ j, j < 3 → se j ≤ 60) {X : Nat} (hX : X ≤ 3) : ∀ (k j fu : Nat), j + k = X →
    (∃ t, j ≤ t ∧ t < X ∧ ¬ okj (se t) (A.ex i t) ∧ (∀ s, j ≤ s → s < t → okj (se s) (A.ex i s)) ∧ f_X6_spreadWith_29 (fu + k + 1) G m (nI i) (nI X) (nI j) = some (nI t, G)) ∨
    ((∀ s, j ≤ s → s < X → okj (se s) (A.ex i s)) ∧ f_X6_spreadWith_29 (fu + k + 1) G m (nI i) (nI X) (nI j) = gb (g_sI G m 5 13 (nI X)) fun G1 => gb (g_sI G1 m 5 14 1) fun G2 => f_X6_spreadWith_89 5000 G2 m (nI i) (nI X) 0) := by
  intro k
  induction k with
  | zero =>
    intro j fu hk
    right
    refine ⟨fun s h1 h2 => by omega, ?_⟩
    have c0 : nI X ≤ nI j ↔ X ≤ j := nI_leI (by omega) (by omega)
    rw [Nat.add_zero, f_X6_spreadWith_29, ifp c0 (by omega)]
  | succ k ih =>
    intro j fu hk
    rw [show fu + (k + 1) + 1 = (fu + k + 1) + 1 by omega]
    rcases spw29_step h w hi hse hs hX (j := j) (by omega) (fu + k + 1) with ⟨o, e⟩ | ⟨o, e⟩
    · rw [e]
      rcases ih (j + 1) fu (by omega) with ⟨t, t1, t2, t3, t4, t5⟩ | ⟨t1, t2⟩
      · refine Or.inl ⟨t, by omega, t2, t3, fun s h1 h2 => ?_, t5⟩
        by_cases z : s = j
        · rw [z]; exact o
        · exact t4 s (by omega) h2
      · refine Or.inr ⟨fun s h1 h2 => ?_, t2⟩
        by_cases z : s = j
        · rw [z]; exact o
        · exact t1 s (by omega) h2
    · exact Or.inl ⟨j, Nat.le_refl _, by omega, o, fun s h1 h2 => by omega, e⟩
def prodU (f : Nat → Nat) : Nat → Nat
  | 0 => 1
  | n + 1 => prodU f n * f n
theorem prodU_le {f : Nat → Nat} (h : ∀ j, j < 3 → f j ≤ 60) : ∀ n, n ≤ 3 → prodU f n ≤ 60 ^ n := by
  intro n
  induction n with
  | zero => intro _; exact Nat.le_refl _
  | succ n ih =>
    intro hn
    unfold prodU
    rw [Nat.pow_succ]
    exact Nat.mul_le_mul (ih (by omega)) (h n (by omega))
theorem spw89 {se : Nat → Nat} (w : WF A) {i : Nat} (hi : i < A.N) (hs : ∀ j, j < 3 → se j ≤ 60) {X : Nat} (hX : X ≤ 3) (hm : m = b + 9) : ∀ (k j fu : Nat) (G : gG) (spr : Nat → Int32), j + k = X → (∀ t, t < 3 → spr t = nI (if t < j then spE se (A.ex i) t else se t)) → MR G m A asd spr sd (nI (prodU (spE se (A.ex i)) j)) f15 f16 →
    ∃ G' spr', f_X6_spreadWith_89 (fu + k + 1) G m (nI i) (nI X) (nI j) = some (-1, G') ∧ MR G' m A asd spr' sd (nI (prodU (spE se (A.ex i)) X)) f15 f16 ∧ (∀ t, t < 3 → spr' t = nI (if t < X then spE se (A.ex i) t else se t)) ∧ FM G G' b := by
  intro k
  induction k with
  | zero =>
    intro j fu G spr hk hspr h
    have c0 : nI X ≤ nI j ↔ X ≤ j := nI_leI (by omega) (by omega)
    have : j = X := by omega
    subst this
    refine ⟨G, spr, ?_, h, hspr, FM.refl _ _⟩
    rw [Nat.add_zero, f_X6_spreadWith_89, ifp c0 (Nat.le_refl _)]
  | succ k ih =>
    intro j fu G spr hk hspr h
    have c0 : nI X ≤ nI j ↔ X ≤ j := nI_leI (by omega) (by omega)
    have hj : j < 3 := by omega
    have il : g_il G (m + 8) (nI j) = some (nI (se j)) := by rw [h.s.il hj (by omega), hspr j hj, if_neg (by omega)]
    have c1 : nI (se j) = 1 ↔ se j = 1 := nI_eq (b := 1) (by have := hs j hj; omega) (by omega)
    obtain ⟨c, a1, a2⟩ := h.s.is hj (by omega) (nI (spE se (A.ex i) j))
    have h1 := h.spr a2
    have il2 : g_il (g_up G (m + 8) c) (m + 8) (nI j) = some (nI (spE se (A.ex i) j)) := by rw [h1.s.il hj (by omega), fset_s]
    have h2 := h1.scr sd (nI (prodU (spE se (A.ex i)) (j + 1))) f15 f16
    have body : ∀ v, v = nI (spE se (A.ex i) j) → f_X6_spreadWith_124 (f_X6_spreadWith_89 (fu + k + 1)) G m (nI i) (nI X) (nI j) v (nI j) (m + 8) = f_X6_spreadWith_89 (fu + k + 1) (g_up (g_up G (m + 8) c) m (mob m (nI A.N) A.set A.mis A.fai A.pla sd (nI (prodU (spE se (A.ex i)) (j + 1))) f15 f16)) m (nI i) (nI X) (nI (j + 1)) := by
      intro v hv
      unfold f_X6_spreadWith_124
      simp only [gl]
      rw [hv, a1, gb_some, mo_14 h1.o, gb_some, mo_12 h1.o, gb_some, il2, gb_some, pk_mul, ms_14 h1.o, gb_some, nI_1]
      rfl
    obtain ⟨G', spr', q1, q2, q3, q4⟩ := ih (j + 1) fu _ _ (by omega) (fun t ht => by
      by_cases z : t = j
      · rw [z, fset_s, if_pos (by omega)]
      · rw [fset_n z, hspr t ht]
        by_cases y : t < j
        · rw [if_pos y, if_pos (by omega)]
        · rw [if_neg y, if_neg (by omega)]) h2
    refine ⟨G', spr', ?_, q2, q3, ((FM.up (by omega)).trans (FM.up (by omega))).trans q4⟩
    rw [← q1, show fu + (k + 1) + 1 = (fu + k + 1) + 1 by omega, f_X6_spreadWith_89, ifn c0 (by omega), mo_12 h.o, gb_some, gb_some, il, gb_some]
    by_cases d : se j = 1
    · rw [ifp c1 d, gck_true (mo_o h.o), h.ext w hi hj, gb_some]
      exact body _ (by unfold spE spj; rw [if_pos d])
    · rw [ifn c1 d, gb_some, il, gb_some]
      exact body _ (by unfold spE spj; rw [if_neg d])
theorem prodU_sz {f : Nat → Nat} {X : Nat} (hX : X ≤ 3) (h : ∀ j, X ≤ j → j < 3 → f j = 1) : prodU f X = sz3 f := by
  have : X = 0 ∨ X = 1 ∨ X = 2 ∨ X = 3 := by omega
  unfold sz3
  rcases this with rfl | rfl | rfl | rfl
  · rw [h 0 (by omega) (by omega), h 1 (by omega) (by omega), h 2 (by omega) (by omega)]; rfl
  · rw [h 1 (by omega) (by omega), h 2 (by omega) (by omega)]
    show 1 * f 0 = f 0 * 1 * 1
    omega
  · rw [h 2 (by omega) (by omega)]
    show 1 * f 0 * f 1 = f 0 * f 1 * 1
    rw [Nat.one_mul, Nat.mul_one]
  · show 1 * f 0 * f 1 * f 2 = f 0 * f 1 * f 2
    rw [Nat.one_mul]
theorem MR.spw (h : MR G m A asd spr sd ss f15 f16) (hm : m = b + 9) (w : WF A) {i : Nat} (hi : i < A.N) {se : Nat → Nat} {sr : Nat} (hse : ∀ j, j < 3 → spr j = nI (se j)) (hsd : sd = nI sr) (hs : ∀ j, j < 3 → se j ≤ 60) (hr : sr ≤ 3) (h1 : ∀ j, sr ≤ j → j < 3 → se j = 1) :
    (spF se (A.ex i) < 3 ∧ f_X6_spreadWith G m (nI i) = some (nI (spF se (A.ex i)), G)) ∨
    (spF se (A.ex i) = 3 ∧ ∃ G', f_X6_spreadWith G m (nI i) = some (-1, G') ∧ MR G' m A asd (fun j => nI (spE se (A.ex i) j)) (nI (max sr (A.rk i))) (nI (sz3 (spE se (A.ex i)))) f15 f16 ∧ FM G G' b) := by
  have hk := w.rk3 i hi
  have hX : max sr (A.rk i) ≤ 3 := by omega
  have e26 : f_X6_spreadWith G m (nI i) = f_X6_spreadWith_29 5000 G m (nI i) (nI (max sr (A.rk i))) 0 := by
    unfold f_X6_spreadWith f_X6_spreadWith_26
    have c : nI sr ≤ nI (A.rk i) ↔ sr ≤ A.rk i := nI_leI (by omega) (by omega)
    rw [mo_13 h.o, gb_some, mo_2 h.o, gb_some, h.dim w hi, gb_some, hsd]
    by_cases d : sr ≤ A.rk i
    · rw [ifp c d, gb_some, h.dim w hi, gb_some, Nat.max_eq_right d]
    · rw [ifn c d, gb_some, Nat.max_eq_left (by omega)]
  have ones : ∀ j, max sr (A.rk i) ≤ j → j < 3 → se j = 1 ∧ A.ex i j = 1 := fun j q1 q2 => ⟨h1 j (by omega) q2, w.e1 i hi j (by omega) q2⟩
  obtain ⟨fu, hfu⟩ : ∃ fu : Nat, 5000 = fu + max sr (A.rk i) + 1 := ⟨4999 - max sr (A.rk i), by omega⟩
  rw [e26, show (0 : Int32) = nI 0 from rfl]
  have L := spw29 h w hi hse hs hX (max sr (A.rk i)) 0 fu (by omega)
  rw [← hfu] at L
  rcases spF_cs se (A.ex i) with ⟨F, ok⟩ | ⟨F, bad, ok⟩
  · right
    refine ⟨F, ?_⟩
    rcases L with ⟨t, -, t2, t3, -, -⟩ | ⟨-, e⟩
    · exact absurd (ok t (by omega)) t3
    · rw [e, ms_13 h.o, gb_some, ms_14 (g_up_same _ _ _), gb_some, g_up_up]
      have h2 := h.scr (nI (max sr (A.rk i))) 1 f15 f16
      obtain ⟨G', spr', q1, q2, q3, q4⟩ := spw89 w hi hs hX hm (max sr (A.rk i)) 0 fu _ _ (by omega) (fun t ht => by rw [if_neg (by omega)]; exact hse t ht) h2
      rw [← hfu] at q1
      refine ⟨G', q1, ?_, (FM.up (by omega)).trans q4⟩
      have hp : prodU (spE se (A.ex i)) (max sr (A.rk i)) = sz3 (spE se (A.ex i)) := prodU_sz hX (fun j a1 a2 => by
        unfold spE spj
        rw [if_pos (ones j a1 a2).1, (ones j a1 a2).2])
      rw [hp] at q2
      refine q2.sprc (fun j hj => ?_)
      rw [q3 j hj]
      by_cases z : j < max sr (A.rk i)
      · rw [if_pos z]
      · rw [if_neg z]
        unfold spE spj
        have o := ones j (by omega) hj
        rw [if_pos o.1, o.1, o.2]
  · left
    refine ⟨F, ?_⟩
    have hlt : spF se (A.ex i) < max sr (A.rk i) := by
      refine Nat.not_le.mp (fun q => bad ?_)
      exact Or.inl (ones _ q F).1
    rcases L with ⟨t, -, t2, t3, t4, t5⟩ | ⟨t1, -⟩
    · have : t = spF se (A.ex i) := by
        rcases Nat.lt_trichotomy t (spF se (A.ex i)) with z | z | z
        · exact absurd (ok t z) t3
        · exact z
        · exact absurd (t4 _ (by omega) z) bad
      rw [t5, this]
    · exact absurd (t1 _ (by omega) hlt) bad
/-! Reading under a spread. -/
theorem at_step (h : MR G m A asd spr sd ss f15 f16) (w : WF A) {i : Nat} (hi : i < A.N) {se : Nat → Nat} (hse : ∀ j, j < 3 → spr j = nI (se j)) (hs : ∀ j, j < 3 → se j ≤ 60) (hs0 : ∀ j, j < 3 → 0 < se j) {j : Nat} (hj : j < A.rk i) {off stride n : Nat} (hn : n < 2 ^ 20) (ho : off < 2 ^ 20) (hst : stride < 2 ^ 20) (fu : Nat) :
    f_X6_at_11 (fu + 1) G m (nI i) (nI n) (nI stride) (nI off) (nI j) = f_X6_at_11 fu G m (nI i) (nI (n / se j)) (nI (stride * A.ex i j)) (nI (off + dgt (A.ex i j) (se j) n * stride)) (nI (j + 1)) := by
  have hk := w.rk3 i hi
  have j3 : j < 3 := by omega
  have c0 : nI (A.rk i) ≤ nI j ↔ A.rk i ≤ j := nI_leI (by omega) (by omega)
  have e60 := w.e60 i hi j j3
  have s60 := hs j j3
  have z := hs0 j j3
  have c2 : nI (A.ex i j) = 1 ↔ A.ex i j = 1 := nI_eq (b := 1) (by omega) (by omega)
  have nz : ¬ nI (se j) = 0 := nI_ne0 z (by omega)
  have il : g_il G (m + 8) (nI j) = some (nI (se j)) := by rw [h.s.il j3 (by omega), hse j j3]
  have er : g_irem (nI n) (nI (se j)) = nI (n % se j) := pk_rem (by omega) z (by omega)
  rw [f_X6_at_11, mo_2 h.o, gb_some, h.dim w hi, gb_some, ifn c0 (by omega), gck_true (mo_o h.o), h.ext w hi j3, gb_some, mo_12 h.o, gb_some, il, gb_some, gne_ok nz]
  unfold f_X6_at_59 dgt
  simp only [gl]
  rw [mo_12 h.o, gb_some, gb_some, il, gb_some, gb_some, gne_ok nz, gne_ok nz, er, pk_div (by omega) z (by omega), pk_mul, nI_1, pk_mul, nI_add]
  by_cases d : A.ex i j = 1
  · rw [ifp c2 d, if_pos d, Nat.zero_mul, Nat.add_zero off, show (0 : Int32) = nI 0 from rfl, nI_add, Nat.add_zero off]
  · rw [ifn c2 d, if_neg d]
theorem MR.at (h : MR G m A asd spr sd ss f15 f16) (w : WF A) {i : Nat} (hi : i < A.N) {se : Nat → Nat} (hse : ∀ j, j < 3 → spr j = nI (se j)) (hs : ∀ j, j < 3 → se j ≤ 60) (hs0 : ∀ j, j < 3 → 0 < se j) (hmm : ∀ j, j < 3 → A.ex i j = 1 ∨ A.ex i j = se j) {n : Nat} (hn : n < 2 ^ 20) : f_X6_at G m (nI i) (nI n) = some (A.it i (offU (A.ex i) se n)) := by
  obtain ⟨fu, hfu⟩ : ∃ fu : Nat, 5000 = fu + 1 + 1 + 1 + 1 := ⟨4996, rfl⟩
  have hk := w.rk3 i hi
  have e0 := w.e60 i hi 0 (by omega)
  have e1 := w.e60 i hi 1 (by omega)
  have s0 := hs 0 (by omega)
  have s1 := hs 1 (by omega)
  have z0 := hs0 0 (by omega)
  have z1 := hs0 1 (by omega)
  have n1 : n / se 0 ≤ n := Nat.div_le_self _ _
  have n2 : n / se 0 / se 1 ≤ n / se 0 := Nat.div_le_self _ _
  have k0 : dgt (A.ex i 0) (se 0) n ≤ 60 := by
    unfold dgt
    split
    · omega
    · have := Nat.mod_lt n z0; omega
  have k1 : dgt (A.ex i 1) (se 1) (n / se 0) ≤ 60 := by
    unfold dgt
    split
    · omega
    · have := Nat.mod_lt (n / se 0) z1; omega
  have m1 : dgt (A.ex i 1) (se 1) (n / se 0) * A.ex i 0 ≤ 60 * 60 := Nat.mul_le_mul k1 e0
  have m2 : A.ex i 0 * A.ex i 1 ≤ 60 * 60 := Nat.mul_le_mul e0 e1
  have hlt : offU (A.ex i) se n < sz3 (A.ex i) := offU_lt hs0 hmm
  have dz : ∀ {j x : Nat}, A.rk i ≤ j → j < 3 → dgt (A.ex i j) (se j) x = 0 := fun {j x} a1 a2 => by unfold dgt; rw [if_pos (w.e1 i hi j a1 a2)]
  have fin : ∀ (fu' st nn off : Nat), off = offU (A.ex i) se n → f_X6_at_11 (fu' + 1) G m (nI i) (nI nn) (nI st) (nI off) (nI (A.rk i)) = some (A.it i (offU (A.ex i) se n)) := by
    intro fu' st nn off ho
    rw [f_X6_at_11, mo_2 h.o, gb_some, h.dim w hi, gb_some, if_pos ((nI_leI (by omega) (by omega)).mpr (Nat.le_refl _)), mo_6 h.o, gb_some, ho, h.item w hi hlt, gb_some]
  unfold f_X6_at
  rw [hfu, show (0 : Int32) = nI 0 from rfl, show (1 : Int32) = nI 1 from rfl]
  have hr : A.rk i = 0 ∨ A.rk i = 1 ∨ A.rk i = 2 ∨ A.rk i = 3 := by omega
  have S0 := fun (q : 0 < A.rk i) fu => at_step h w hi hse hs hs0 (j := 0) q (off := 0) (stride := 1) hn (by omega) (by omega) fu
  have S1 := fun (q : 1 < A.rk i) fu => at_step h w hi hse hs hs0 (j := 1) q (off := 0 + dgt (A.ex i 0) (se 0) n * 1) (stride := 1 * A.ex i 0) (n := n / se 0) (by omega) (by omega) (by omega) fu
  have S2 := fun (q : 2 < A.rk i) fu => at_step h w hi hse hs hs0 (j := 2) q (off := 0 + dgt (A.ex i 0) (se 0) n * 1 + dgt (A.ex i 1) (se 1) (n / se 0) * (1 * A.ex i 0)) (stride := 1 * A.ex i 0 * A.ex i 1) (n := n / se 0 / se 1) (by omega) (by rw [Nat.one_mul]; omega) (by rw [Nat.one_mul]; omega) fu
  rcases hr with r | r | r | r
  · have := fin (fu + 1 + 1 + 1) 1 n 0 (by unfold offU; rw [dz (j := 0) (by omega) (by omega), dz (j := 1) (by omega) (by omega), dz (j := 2) (by omega) (by omega), Nat.zero_mul, Nat.zero_mul])
    rw [r] at this
    exact this
  · rw [S0 (by omega)]
    have := fin (fu + 1 + 1) (1 * A.ex i 0) (n / se 0) (0 + dgt (A.ex i 0) (se 0) n * 1) (by unfold offU; rw [dz (j := 1) (by omega) (by omega), dz (j := 2) (by omega) (by omega), Nat.zero_mul, Nat.zero_mul]; omega)
    rw [r] at this
    exact this
  · rw [S0 (by omega), S1 (by omega)]
    have := fin (fu + 1) (1 * A.ex i 0 * A.ex i 1) (n / se 0 / se 1) (0 + dgt (A.ex i 0) (se 0) n * 1 + dgt (A.ex i 1) (se 1) (n / se 0) * (1 * A.ex i 0)) (by unfold offU; rw [dz (j := 2) (by omega) (by omega), Nat.zero_mul, Nat.one_mul]; omega)
    rw [r] at this
    exact this
  · rw [S0 (by omega), S1 (by omega), S2 (by omega)]
    have := fin fu (1 * A.ex i 0 * A.ex i 1 * A.ex i 2) (n / se 0 / se 1 / se 2) (0 + dgt (A.ex i 0) (se 0) n * 1 + dgt (A.ex i 1) (se 1) (n / se 0) * (1 * A.ex i 0) + dgt (A.ex i 2) (se 2) (n / se 0 / se 1) * (1 * A.ex i 0 * A.ex i 1)) (by unfold offU; rw [Nat.one_mul]; omega)
    rw [r] at this
    exact this
end RS
