/-! The state, held by the class and by the reference. -/
def AS : Type := Nat × (Nat → Int32) × (Nat → Nat) × (Nat → Nat → Nat) × (Nat → Int32) × (Nat → Nat → Int64) × Int32 × Int32 × Int32 × Int32
def AS.N (A : AS) : Nat := A.1
def AS.lane (A : AS) : Nat → Int32 := A.2.1
def AS.rk (A : AS) : Nat → Nat := A.2.2.1
def AS.ex (A : AS) : Nat → Nat → Nat := A.2.2.2.1
def AS.gone (A : AS) : Nat → Int32 := A.2.2.2.2.1
def AS.it (A : AS) : Nat → Nat → Int64 := A.2.2.2.2.2.1
def AS.set (A : AS) : Int32 := A.2.2.2.2.2.2.1
def AS.mis (A : AS) : Int32 := A.2.2.2.2.2.2.2.1
def AS.fai (A : AS) : Int32 := A.2.2.2.2.2.2.2.2.1
def AS.pla (A : AS) : Int32 := A.2.2.2.2.2.2.2.2.2
def mkA (N : Nat) (lane : Nat → Int32) (rk : Nat → Nat) (ex : Nat → Nat → Nat) (gone : Nat → Int32) (it : Nat → Nat → Int64) (st mis fai pla : Int32) : AS := (N, lane, rk, ex, gone, it, st, mis, fai, pla)
/-- the same tensors, other fields -/
def AS.own (A : AS) (st mis fai pla : Int32) : AS := mkA A.N A.lane A.rk A.ex A.gone A.it st mis fai pla
def sz3 (e : Nat → Nat) : Nat := e 0 * e 1 * e 2
def WF (A : AS) : Prop :=
  (A.N ≤ 16) ∧
  (A.set = 0 ∨ A.set = 1) ∧
  (∀ i, i < A.N → LN (A.lane i)) ∧
  (∀ i, i < A.N → A.rk i ≤ 3) ∧
  (∀ i, i < A.N → ∀ j, j < 3 → A.ex i j ≤ 60) ∧
  (∀ i, i < A.N → ∀ j, A.rk i ≤ j → j < 3 → A.ex i j = 1) ∧
  (∀ i, i < A.N → A.gone i = 0 ∨ A.gone i = 1) ∧
  (∀ i, i < A.N → sz3 (A.ex i) ≤ 240) ∧
  (∀ i, i < A.N → ∀ j, j < sz3 (A.ex i) → VAL (A.lane i) (A.it i j))
theorem WF.n16 {A : AS} (h : WF A) : A.N ≤ 16 := h.1
theorem WF.st {A : AS} (h : WF A) : A.set = 0 ∨ A.set = 1 := h.2.1
theorem WF.ln {A : AS} (h : WF A) : ∀ i, i < A.N → LN (A.lane i) := h.2.2.1
theorem WF.rk3 {A : AS} (h : WF A) : ∀ i, i < A.N → A.rk i ≤ 3 := h.2.2.2.1
theorem WF.e60 {A : AS} (h : WF A) : ∀ i, i < A.N → ∀ j, j < 3 → A.ex i j ≤ 60 := h.2.2.2.2.1
theorem WF.e1 {A : AS} (h : WF A) : ∀ i, i < A.N → ∀ j, A.rk i ≤ j → j < 3 → A.ex i j = 1 := h.2.2.2.2.2.1
theorem WF.gn {A : AS} (h : WF A) : ∀ i, i < A.N → A.gone i = 0 ∨ A.gone i = 1 := h.2.2.2.2.2.2.1
theorem WF.sz {A : AS} (h : WF A) : ∀ i, i < A.N → sz3 (A.ex i) ≤ 240 := h.2.2.2.2.2.2.2.1
theorem WF.vl {A : AS} (h : WF A) : ∀ i, i < A.N → ∀ j, j < sz3 (A.ex i) → VAL (A.lane i) (A.it i j) := h.2.2.2.2.2.2.2.2
/-! Objects. -/
def cob (b : Nat) (t st mis fai pla : Int32) : gC := .inl (4, [.ref (b + 1), .ref (b + 2), .ref (b + 6), .ref (b + 8), .int t, .int st, .int mis, .int fai, .int pla])
def tob (p : Nat) (l g : Int32) : gC := .inl (3, [.int l, .ref (p + 1), .ref (p + 3), .int g])
def sob (r : Int32) (a : Nat) : gC := .inl (2, [.int r, .ref a])
def mob (m : Nat) (t st mis fai pla sd ss f15 f16 : Int32) : gC := .inl (5, [.int t, .ref (m + 1), .ref (m + 2), .ref (m + 3), .ref (m + 4), .ref (m + 5), .ref (m + 6), .ref (m + 7), .int st, .int mis, .int fai, .int pla, .ref (m + 8), .int sd, .int ss, .int f15, .int f16])
section CO
variable {G : gG} {b : Nat} {t st mis fai pla : Int32}
theorem cf_0 (h : G b = some (cob b t st mis fai pla)) : g_fA G b 4 0 = some (b + 1) := by simp [g_fA, g_fld, h, cob]
theorem cf_1 (h : G b = some (cob b t st mis fai pla)) : g_fA G b 4 1 = some (b + 2) := by simp [g_fA, g_fld, h, cob]
theorem cf_2 (h : G b = some (cob b t st mis fai pla)) : g_fA G b 4 2 = some (b + 6) := by simp [g_fA, g_fld, h, cob]
theorem cf_3 (h : G b = some (cob b t st mis fai pla)) : g_fA G b 4 3 = some (b + 8) := by simp [g_fA, g_fld, h, cob]
theorem cf_4 (h : G b = some (cob b t st mis fai pla)) : g_fI G b 4 4 = some t := by simp [g_fI, g_fld, h, cob]
theorem cf_5 (h : G b = some (cob b t st mis fai pla)) : g_fI G b 4 5 = some st := by simp [g_fI, g_fld, h, cob]
theorem cf_6 (h : G b = some (cob b t st mis fai pla)) : g_fI G b 4 6 = some mis := by simp [g_fI, g_fld, h, cob]
theorem cf_7 (h : G b = some (cob b t st mis fai pla)) : g_fI G b 4 7 = some fai := by simp [g_fI, g_fld, h, cob]
theorem cf_8 (h : G b = some (cob b t st mis fai pla)) : g_fI G b 4 8 = some pla := by simp [g_fI, g_fld, h, cob]
theorem cf_o (h : G b = some (cob b t st mis fai pla)) : g_isO G b 4 = true := by simp [g_isO, h, cob]
theorem cz_4 (h : G b = some (cob b t st mis fai pla)) (v : Int32) : g_sI G b 4 4 v = some (g_up G b (cob b v st mis fai pla)) := by simp [g_sI, g_st, h, cob]
theorem cz_5 (h : G b = some (cob b t st mis fai pla)) (v : Int32) : g_sI G b 4 5 v = some (g_up G b (cob b t v mis fai pla)) := by simp [g_sI, g_st, h, cob]
theorem cz_6 (h : G b = some (cob b t st mis fai pla)) (v : Int32) : g_sI G b 4 6 v = some (g_up G b (cob b t st v fai pla)) := by simp [g_sI, g_st, h, cob]
theorem cz_7 (h : G b = some (cob b t st mis fai pla)) (v : Int32) : g_sI G b 4 7 v = some (g_up G b (cob b t st mis v pla)) := by simp [g_sI, g_st, h, cob]
theorem cz_8 (h : G b = some (cob b t st mis fai pla)) (v : Int32) : g_sI G b 4 8 v = some (g_up G b (cob b t st mis fai v)) := by simp [g_sI, g_st, h, cob]
end CO
section TO
variable {G : gG} {p a : Nat} {l g r : Int32}
theorem to_0 (h : G p = some (tob p l g)) : g_fI G p 3 0 = some l := by simp [g_fI, g_fld, h, tob]
theorem to_1 (h : G p = some (tob p l g)) : g_fA G p 3 1 = some (p + 1) := by simp [g_fA, g_fld, h, tob]
theorem to_2 (h : G p = some (tob p l g)) : g_fA G p 3 2 = some (p + 3) := by simp [g_fA, g_fld, h, tob]
theorem to_3 (h : G p = some (tob p l g)) : g_fI G p 3 3 = some g := by simp [g_fI, g_fld, h, tob]
theorem to_o (h : G p = some (tob p l g)) : g_isO G p 3 = true := by simp [g_isO, h, tob]
theorem ts_3 (h : G p = some (tob p l g)) : g_sZ G p 3 3 1 = some (g_up G p (tob p l 1)) := by simp [g_sZ, g_st, h, tob]
theorem so_0 (h : G p = some (sob r a)) : g_fI G p 2 0 = some r := by simp [g_fI, g_fld, h, sob]
theorem so_1 (h : G p = some (sob r a)) : g_fA G p 2 1 = some a := by simp [g_fA, g_fld, h, sob]
theorem so_o (h : G p = some (sob r a)) : g_isO G p 2 = true := by simp [g_isO, h, sob]
theorem ss_0 (h : G p = some (sob r a)) (v : Int32) : g_sI G p 2 0 v = some (g_up G p (sob v a)) := by simp [g_sI, g_st, h, sob]
end TO
section MO
variable {G : gG} {m : Nat} {t st mis fai pla sd ss f15 f16 : Int32}
theorem mo_0 (h : G m = some (mob m t st mis fai pla sd ss f15 f16)) : g_fI G m 5 0 = some t := by simp [g_fI, g_fld, h, mob]
theorem mo_1 (h : G m = some (mob m t st mis fai pla sd ss f15 f16)) : g_fA G m 5 1 = some (m + 1) := by simp [g_fA, g_fld, h, mob]
theorem mo_2 (h : G m = some (mob m t st mis fai pla sd ss f15 f16)) : g_fA G m 5 2 = some (m + 2) := by simp [g_fA, g_fld, h, mob]
theorem mo_3 (h : G m = some (mob m t st mis fai pla sd ss f15 f16)) : g_fA G m 5 3 = some (m + 3) := by simp [g_fA, g_fld, h, mob]
theorem mo_4 (h : G m = some (mob m t st mis fai pla sd ss f15 f16)) : g_fA G m 5 4 = some (m + 4) := by simp [g_fA, g_fld, h, mob]
theorem mo_5 (h : G m = some (mob m t st mis fai pla sd ss f15 f16)) : g_fA G m 5 5 = some (m + 5) := by simp [g_fA, g_fld, h, mob]
theorem mo_6 (h : G m = some (mob m t st mis fai pla sd ss f15 f16)) : g_fA G m 5 6 = some (m + 6) := by simp [g_fA, g_fld, h, mob]
theorem mo_7 (h : G m = some (mob m t st mis fai pla sd ss f15 f16)) : g_fA G m 5 7 = some (m + 7) := by simp [g_fA, g_fld, h, mob]
theorem mo_8 (h : G m = some (mob m t st mis fai pla sd ss f15 f16)) : g_fI G m 5 8 = some st := by simp [g_fI, g_fld, h, mob]
theorem mo_9 (h : G m = some (mob m t st mis fai pla sd ss f15 f16)) : g_fI G m 5 9 = some mis := by simp [g_fI, g_fld, h, mob]
theorem mo_10 (h : G m = some (mob m t st mis fai pla sd ss f15 f16)) : g_fI G m 5 10 = some fai := by simp [g_fI, g_fld, h, mob]
theorem mo_11 (h : G m = some (mob m t st mis fai pla sd ss f15 f16)) : g_fI G m 5 11 = some pla := by simp [g_fI, g_fld, h, mob]
theorem mo_12 (h : G m = some (mob m t st mis fai pla sd ss f15 f16)) : g_fA G m 5 12 = some (m + 8) := by simp [g_fA, g_fld, h, mob]
theorem mo_13 (h : G m = some (mob m t st mis fai pla sd ss f15 f16)) : g_fI G m 5 13 = some sd := by simp [g_fI, g_fld, h, mob]
theorem mo_14 (h : G m = some (mob m t st mis fai pla sd ss f15 f16)) : g_fI G m 5 14 = some ss := by simp [g_fI, g_fld, h, mob]
theorem mo_15 (h : G m = some (mob m t st mis fai pla sd ss f15 f16)) : g_fI G m 5 15 = some f15 := by simp [g_fI, g_fld, h, mob]
theorem mo_16 (h : G m = some (mob m t st mis fai pla sd ss f15 f16)) : g_fI G m 5 16 = some f16 := by simp [g_fI, g_fld, h, mob]
theorem mo_o (h : G m = some (mob m t st mis fai pla sd ss f15 f16)) : g_isO G m 5 = true := by simp [g_isO, h, mob]
theorem ms_0 (h : G m = some (mob m t st mis fai pla sd ss f15 f16)) (v : Int32) : g_sI G m 5 0 v = some (g_up G m (mob m v st mis fai pla sd ss f15 f16)) := by simp [g_sI, g_st, h, mob]
theorem ms_8 (h : G m = some (mob m t st mis fai pla sd ss f15 f16)) (v : Int32) : g_sI G m 5 8 v = some (g_up G m (mob m t v mis fai pla sd ss f15 f16)) := by simp [g_sI, g_st, h, mob]
theorem ms_9 (h : G m = some (mob m t st mis fai pla sd ss f15 f16)) (v : Int32) : g_sI G m 5 9 v = some (g_up G m (mob m t st v fai pla sd ss f15 f16)) := by simp [g_sI, g_st, h, mob]
theorem ms_10 (h : G m = some (mob m t st mis fai pla sd ss f15 f16)) (v : Int32) : g_sI G m 5 10 v = some (g_up G m (mob m t st mis v pla sd ss f15 f16)) := by simp [g_sI, g_st, h, mob]
theorem ms_11 (h : G m = some (mob m t st mis fai pla sd ss f15 f16)) (v : Int32) : g_sI G m 5 11 v = some (g_up G m (mob m t st mis fai v sd ss f15 f16)) := by simp [g_sI, g_st, h, mob]
theorem ms_13 (h : G m = some (mob m t st mis fai pla sd ss f15 f16)) (v : Int32) : g_sI G m 5 13 v = some (g_up G m (mob m t st mis fai pla v ss f15 f16)) := by simp [g_sI, g_st, h, mob]
theorem ms_14 (h : G m = some (mob m t st mis fai pla sd ss f15 f16)) (v : Int32) : g_sI G m 5 14 v = some (g_up G m (mob m t st mis fai pla sd v f15 f16)) := by simp [g_sI, g_st, h, mob]
theorem ms_15 (h : G m = some (mob m t st mis fai pla sd ss f15 f16)) (v : Int32) : g_sI G m 5 15 v = some (g_up G m (mob m t st mis fai pla sd ss v f16)) := by simp [g_sI, g_st, h, mob]
theorem ms_16 (h : G m = some (mob m t st mis fai pla sd ss f15 f16)) (v : Int32) : g_sI G m 5 16 v = some (g_up G m (mob m t st mis fai pla sd ss f15 v)) := by simp [g_sI, g_st, h, mob]
end MO
/-! The two holdings. -/
/-- a tensor of the class at p -/
def TC (G : gG) (p : Nat) (l : Int32) (r : Nat) (e : Nat → Nat) (g : Int32) (it : Nat → Int64) : Prop :=
  (G p = some (tob p l g)) ∧
  (G (p + 1) = some (sob (nI r) (p + 2))) ∧
  (IA G (p + 2) 3 (fun j => nI (e j))) ∧
  (LA G (p + 3) (sz3 e) it)
theorem TC.o {G : gG} {p : Nat} {l : Int32} {r : Nat} {e : Nat → Nat} {g : Int32} {it : Nat → Int64} (h : TC G p l r e g it) : G p = some (tob p l g) := h.1
theorem TC.s {G : gG} {p : Nat} {l : Int32} {r : Nat} {e : Nat → Nat} {g : Int32} {it : Nat → Int64} (h : TC G p l r e g it) : G (p + 1) = some (sob (nI r) (p + 2)) := h.2.1
theorem TC.e {G : gG} {p : Nat} {l : Int32} {r : Nat} {e : Nat → Nat} {g : Int32} {it : Nat → Int64} (h : TC G p l r e g it) : IA G (p + 2) 3 (fun j => nI (e j)) := h.2.2.1
theorem TC.i {G : gG} {p : Nat} {l : Int32} {r : Nat} {e : Nat → Nat} {g : Int32} {it : Nat → Int64} (h : TC G p l r e g it) : LA G (p + 3) (sz3 e) it := h.2.2.2
/-- the class -/
def CR (G : gG) (b : Nat) (A : AS) (sr : Nat) (se : Nat → Nat) (row : Nat → Int64) : Prop :=
  (G b = some (cob b (nI A.N) A.set A.mis A.fai A.pla)) ∧
  (RA G (b + 1) 16 (fun i => if i < A.N then some (b + 18 + 4 * i) else none)) ∧
  (AR G (b + 2) (b + 3) (b + 4) (b + 5)) ∧
  (G (b + 6) = some (sob (nI sr) (b + 7))) ∧
  (IA G (b + 7) 3 (fun j => nI (se j))) ∧
  (LA G (b + 8) 240 row) ∧
  (∀ i, i < A.N → TC G (b + 18 + 4 * i) (A.lane i) (A.rk i) (A.ex i) (A.gone i) (A.it i))
theorem CR.o {G : gG} {b : Nat} {A : AS} {sr : Nat} {se : Nat → Nat} {row : Nat → Int64} (h : CR G b A sr se row) : G b = some (cob b (nI A.N) A.set A.mis A.fai A.pla) := h.1
theorem CR.t {G : gG} {b : Nat} {A : AS} {sr : Nat} {se : Nat → Nat} {row : Nat → Int64} (h : CR G b A sr se row) : RA G (b + 1) 16 (fun i => if i < A.N then some (b + 18 + 4 * i) else none) := h.2.1
theorem CR.a {G : gG} {b : Nat} {A : AS} {sr : Nat} {se : Nat → Nat} {row : Nat → Int64} (h : CR G b A sr se row) : AR G (b + 2) (b + 3) (b + 4) (b + 5) := h.2.2.1
theorem CR.s {G : gG} {b : Nat} {A : AS} {sr : Nat} {se : Nat → Nat} {row : Nat → Int64} (h : CR G b A sr se row) : G (b + 6) = some (sob (nI sr) (b + 7)) := h.2.2.2.1
theorem CR.e {G : gG} {b : Nat} {A : AS} {sr : Nat} {se : Nat → Nat} {row : Nat → Int64} (h : CR G b A sr se row) : IA G (b + 7) 3 (fun j => nI (se j)) := h.2.2.2.2.1
theorem CR.w {G : gG} {b : Nat} {A : AS} {sr : Nat} {se : Nat → Nat} {row : Nat → Int64} (h : CR G b A sr se row) : LA G (b + 8) 240 row := h.2.2.2.2.2.1
theorem CR.c {G : gG} {b : Nat} {A : AS} {sr : Nat} {se : Nat → Nat} {row : Nat → Int64} (h : CR G b A sr se row) : ∀ i, i < A.N → TC G (b + 18 + 4 * i) (A.lane i) (A.rk i) (A.ex i) (A.gone i) (A.it i) := h.2.2.2.2.2.2
/-- the rows of the reference: lanes, dims, extents, sizes, gone, items -/
def MT (A : AS) (L1 L2 L3 L4 L5 : Nat → Int32) (L6 : Nat → Int64) : Prop :=
  (∀ i, i < A.N → L1 i = A.lane i) ∧
  (∀ i, i < A.N → L2 i = nI (A.rk i)) ∧
  (∀ i, i < A.N → ∀ j, j < A.rk i → L3 (3 * i + A.rk i - 1 - j) = nI (A.ex i j)) ∧
  (∀ i, i < A.N → L4 i = nI (sz3 (A.ex i))) ∧
  (∀ i, i < A.N → L5 i = A.gone i) ∧
  (∀ i, i < A.N → ∀ j, j < sz3 (A.ex i) → L6 (240 * i + j) = A.it i j) ∧
  (∀ i, A.N ≤ i → i < 16 → L5 i = 0)
theorem MT.l1 {A : AS} {L1 L2 L3 L4 L5 : Nat → Int32} {L6 : Nat → Int64} (h : MT A L1 L2 L3 L4 L5 L6) : ∀ i, i < A.N → L1 i = A.lane i := h.1
theorem MT.l2 {A : AS} {L1 L2 L3 L4 L5 : Nat → Int32} {L6 : Nat → Int64} (h : MT A L1 L2 L3 L4 L5 L6) : ∀ i, i < A.N → L2 i = nI (A.rk i) := h.2.1
theorem MT.l3 {A : AS} {L1 L2 L3 L4 L5 : Nat → Int32} {L6 : Nat → Int64} (h : MT A L1 L2 L3 L4 L5 L6) : ∀ i, i < A.N → ∀ j, j < A.rk i → L3 (3 * i + A.rk i - 1 - j) = nI (A.ex i j) := h.2.2.1
theorem MT.l4 {A : AS} {L1 L2 L3 L4 L5 : Nat → Int32} {L6 : Nat → Int64} (h : MT A L1 L2 L3 L4 L5 L6) : ∀ i, i < A.N → L4 i = nI (sz3 (A.ex i)) := h.2.2.2.1
theorem MT.l5 {A : AS} {L1 L2 L3 L4 L5 : Nat → Int32} {L6 : Nat → Int64} (h : MT A L1 L2 L3 L4 L5 L6) : ∀ i, i < A.N → L5 i = A.gone i := h.2.2.2.2.1
theorem MT.l6 {A : AS} {L1 L2 L3 L4 L5 : Nat → Int32} {L6 : Nat → Int64} (h : MT A L1 L2 L3 L4 L5 L6) : ∀ i, i < A.N → ∀ j, j < sz3 (A.ex i) → L6 (240 * i + j) = A.it i j := h.2.2.2.2.2.1
theorem MT.g0 {A : AS} {L1 L2 L3 L4 L5 : Nat → Int32} {L6 : Nat → Int64} (h : MT A L1 L2 L3 L4 L5 L6) : ∀ i, A.N ≤ i → i < 16 → L5 i = 0 := h.2.2.2.2.2.2
def MR (G : gG) (m : Nat) (A : AS) (asd : Nat → Int64) (spr : Nat → Int32) (sd ss f15 f16 : Int32) : Prop :=
  (G m = some (mob m (nI A.N) A.set A.mis A.fai A.pla sd ss f15 f16)) ∧
  (∃ L1 L2 L3 L4 L5 L6, IA G (m + 1) 16 L1 ∧ IA G (m + 2) 16 L2 ∧ IA G (m + 3) 48 L3 ∧ IA G (m + 4) 16 L4 ∧ ZA G (m + 5) 16 L5 ∧ LA G (m + 6) 3840 L6 ∧ MT A L1 L2 L3 L4 L5 L6) ∧
  (LA G (m + 7) 240 asd) ∧
  (IA G (m + 8) 3 spr)
theorem MR.o {G : gG} {m : Nat} {A : AS} {asd : Nat → Int64} {spr : Nat → Int32} {sd ss f15 f16 : Int32} (h : MR G m A asd spr sd ss f15 f16) : G m = some (mob m (nI A.N) A.set A.mis A.fai A.pla sd ss f15 f16) := h.1
theorem MR.r {G : gG} {m : Nat} {A : AS} {asd : Nat → Int64} {spr : Nat → Int32} {sd ss f15 f16 : Int32} (h : MR G m A asd spr sd ss f15 f16) : ∃ L1 L2 L3 L4 L5 L6, IA G (m + 1) 16 L1 ∧ IA G (m + 2) 16 L2 ∧ IA G (m + 3) 48 L3 ∧ IA G (m + 4) 16 L4 ∧ ZA G (m + 5) 16 L5 ∧ LA G (m + 6) 3840 L6 ∧ MT A L1 L2 L3 L4 L5 L6 := h.2.1
theorem MR.w {G : gG} {m : Nat} {A : AS} {asd : Nat → Int64} {spr : Nat → Int32} {sd ss f15 f16 : Int32} (h : MR G m A asd spr sd ss f15 f16) : LA G (m + 7) 240 asd := h.2.2.1
theorem MR.s {G : gG} {m : Nat} {A : AS} {asd : Nat → Int64} {spr : Nat → Int32} {sd ss f15 f16 : Int32} (h : MR G m A asd spr sd ss f15 f16) : IA G (m + 8) 3 spr := h.2.2.2
/-- the class leaves the reference alone -/
def FC (G G' : gG) (b : Nat) : Prop := ∀ a, b + 9 ≤ a → a < b + 18 → G' a = G a
/-- the reference leaves the class alone -/
def FM (G G' : gG) (b : Nat) : Prop := ∀ a, (a < b + 9 ∨ b + 18 ≤ a) → G' a = G a
theorem FC.refl (G : gG) (b : Nat) : FC G G b := fun _ _ _ => rfl
theorem FM.refl (G : gG) (b : Nat) : FM G G b := fun _ _ => rfl
theorem FC.trans {G G' G'' : gG} {b : Nat} (h : FC G G' b) (h' : FC G' G'' b) : FC G G'' b := fun a h1 h2 => (h' a h1 h2).trans (h a h1 h2)
theorem FM.trans {G G' G'' : gG} {b : Nat} (h : FM G G' b) (h' : FM G' G'' b) : FM G G'' b := fun a h1 => (h' a h1).trans (h a h1)
theorem FC.up {G : gG} {b a : Nat} {c : gC} (h : a < b + 9 ∨ b + 18 ≤ a) : FC G (g_up G a c) b := fun x h1 h2 => g_up_ne (by omega)
theorem FM.up {G : gG} {b a : Nat} {c : gC} (h : b + 9 ≤ a ∧ a < b + 18) : FM G (g_up G a c) b := fun x h1 => g_up_ne (by omega)
theorem FRM.fc {G G' : gG} {b : Nat} (h : FRM G G' (b + 3) (b + 4) (b + 5)) : FC G G' b := fun a h1 h2 => h a (by omega) (by omega) (by omega)
theorem IA.frame {G G' : gG} {a len : Nat} {f : Nat → Int32} (h : IA G a len f) (e : G' a = G a) : IA G' a len f := by
  obtain ⟨d, h1, h2⟩ := h
  exact ⟨d, by rw [e]; exact h1, h2⟩
theorem LA.frame {G G' : gG} {a len : Nat} {f : Nat → Int64} (h : LA G a len f) (e : G' a = G a) : LA G' a len f := by
  obtain ⟨d, h1, h2⟩ := h
  exact ⟨d, by rw [e]; exact h1, h2⟩
theorem ZA.frame {G G' : gG} {a len : Nat} {f : Nat → Int32} (h : ZA G a len f) (e : G' a = G a) : ZA G' a len f := by
  obtain ⟨d, h1, h2⟩ := h
  exact ⟨d, by rw [e]; exact h1, h2⟩
theorem RA.frame {G G' : gG} {a len : Nat} {f : Nat → Option Nat} (h : RA G a len f) (e : G' a = G a) : RA G' a len f := by
  obtain ⟨d, h1, h2⟩ := h
  exact ⟨d, by rw [e]; exact h1, h2⟩
theorem TC.frame {G G' : gG} {p : Nat} {l : Int32} {r : Nat} {e : Nat → Nat} {g : Int32} {it : Nat → Int64} (h : TC G p l r e g it) (q : ∀ a, p ≤ a → a < p + 4 → G' a = G a) : TC G' p l r e g it :=
  ⟨by rw [q p (by omega) (by omega)]; exact h.o, by rw [q (p + 1) (by omega) (by omega)]; exact h.s, h.e.frame (q (p + 2) (by omega) (by omega)), h.i.frame (q (p + 3) (by omega) (by omega))⟩
theorem AR.frame {G G' : gG} {ar r0 r1 r2 : Nat} (h : AR G ar r0 r1 r2) (e0 : G' ar = G ar) (e1 : G' r0 = G r0) (e2 : G' r1 = G r1) (e3 : G' r2 = G r2) : AR G' ar r0 r1 r2 := by
  obtain ⟨h1, h2, h3, h4, d⟩ := h
  exact ⟨by rw [e0]; exact h1, by rw [e1]; exact h2, by rw [e2]; exact h3, by rw [e3]; exact h4, d⟩
theorem CR.frame {G G' : gG} {b : Nat} {A : AS} {sr : Nat} {se : Nat → Nat} {row : Nat → Int64} (h : CR G b A sr se row) (q : FM G G' b) : CR G' b A sr se row :=
  ⟨by rw [q b (by omega)]; exact h.o, h.t.frame (q _ (by omega)), h.a.frame (q _ (by omega)) (q _ (by omega)) (q _ (by omega)) (q _ (by omega)), by rw [q _ (by omega)]; exact h.s, h.e.frame (q _ (by omega)), h.w.frame (q _ (by omega)), fun i hi => (h.c i hi).frame (fun a h1 h2 => q a (by omega))⟩
theorem MR.frame {G G' : gG} {b : Nat} {A : AS} {asd : Nat → Int64} {spr : Nat → Int32} {sd ss f15 f16 : Int32} (h : MR G (b + 9) A asd spr sd ss f15 f16) (q : FC G G' b) : MR G' (b + 9) A asd spr sd ss f15 f16 := by
  obtain ⟨L1, L2, L3, L4, L5, L6, h1, h2, h3, h4, h5, h6, h7⟩ := h.r
  exact ⟨by rw [q _ (by omega) (by omega)]; exact h.o, ⟨L1, L2, L3, L4, L5, L6, h1.frame (q _ (by omega) (by omega)), h2.frame (q _ (by omega) (by omega)), h3.frame (q _ (by omega) (by omega)), h4.frame (q _ (by omega) (by omega)), h5.frame (q _ (by omega) (by omega)), h6.frame (q _ (by omega) (by omega)), h7⟩, h.w.frame (q _ (by omega) (by omega)), h.s.frame (q _ (by omega) (by omega))⟩
/-- the class after its reckoner has worked -/
theorem CR.reck {G G' : gG} {b : Nat} {A : AS} {sr : Nat} {se : Nat → Nat} {row : Nat → Int64} (h : CR G b A sr se row) (ha : AR G' (b + 2) (b + 3) (b + 4) (b + 5)) (q : FRM G G' (b + 3) (b + 4) (b + 5)) : CR G' b A sr se row :=
  ⟨by rw [q b (by omega) (by omega) (by omega)]; exact h.o, h.t.frame (q _ (by omega) (by omega) (by omega)), ha, by rw [q _ (by omega) (by omega) (by omega)]; exact h.s, h.e.frame (q _ (by omega) (by omega) (by omega)), h.w.frame (q _ (by omega) (by omega) (by omega)), fun i hi => (h.c i hi).frame (fun a h1 h2 => q a (by omega) (by omega) (by omega))⟩
/-- a new row -/
theorem CR.row {G : gG} {b : Nat} {A : AS} {sr : Nat} {se : Nat → Nat} {row row' : Nat → Int64} (h : CR G b A sr se row) {c : gC} (hc : LC c 240 row') : CR (g_up G (b + 8) c) b A sr se row' :=
  ⟨by rw [g_up_ne (by omega)]; exact h.o, h.t.frame (g_up_ne (by omega)), h.a.frame (g_up_ne (by omega)) (g_up_ne (by omega)) (g_up_ne (by omega)) (g_up_ne (by omega)), by rw [g_up_ne (by omega)]; exact h.s, h.e.frame (g_up_ne (by omega)), ⟨c, g_up_same _ _ _, hc⟩, fun i hi => (h.c i hi).frame (fun a h1 h2 => g_up_ne (by omega))⟩
/-- other extents at hand -/
theorem CR.ext {G : gG} {b : Nat} {A : AS} {sr : Nat} {se se' : Nat → Nat} {row : Nat → Int64} (h : CR G b A sr se row) {c : gC} (hc : IC c 3 (fun j => nI (se' j))) : CR (g_up G (b + 7) c) b A sr se' row :=
  ⟨by rw [g_up_ne (by omega)]; exact h.o, h.t.frame (g_up_ne (by omega)), h.a.frame (g_up_ne (by omega)) (g_up_ne (by omega)) (g_up_ne (by omega)) (g_up_ne (by omega)), by rw [g_up_ne (by omega)]; exact h.s, ⟨c, g_up_same _ _ _, hc⟩, h.w.frame (g_up_ne (by omega)), fun i hi => (h.c i hi).frame (fun a h1 h2 => g_up_ne (by omega))⟩
theorem CR.rk {G : gG} {b : Nat} {A : AS} {sr : Nat} {se : Nat → Nat} {row : Nat → Int64} (h : CR G b A sr se row) (sr' : Nat) : CR (g_up G (b + 6) (sob (nI sr') (b + 7))) b A sr' se row :=
  ⟨by rw [g_up_ne (by omega)]; exact h.o, h.t.frame (g_up_ne (by omega)), h.a.frame (g_up_ne (by omega)) (g_up_ne (by omega)) (g_up_ne (by omega)) (g_up_ne (by omega)), g_up_same _ _ _, h.e.frame (g_up_ne (by omega)), h.w.frame (g_up_ne (by omega)), fun i hi => (h.c i hi).frame (fun a h1 h2 => g_up_ne (by omega))⟩
/-- the class's own fields -/
theorem CR.own {G : gG} {b : Nat} {A : AS} {sr : Nat} {se : Nat → Nat} {row : Nat → Int64} (h : CR G b A sr se row) (st mis fai pla : Int32) : CR (g_up G b (cob b (nI A.N) st mis fai pla)) b (A.own st mis fai pla) sr se row :=
  ⟨g_up_same _ _ _, h.t.frame (g_up_ne (by omega)), h.a.frame (g_up_ne (by omega)) (g_up_ne (by omega)) (g_up_ne (by omega)) (g_up_ne (by omega)), by rw [g_up_ne (by omega)]; exact h.s, h.e.frame (g_up_ne (by omega)), h.w.frame (g_up_ne (by omega)), fun i hi => (h.c i hi).frame (fun a h1 h2 => g_up_ne (by omega))⟩
theorem MT.own {A : AS} {L1 L2 L3 L4 L5 : Nat → Int32} {L6 : Nat → Int64} (h : MT A L1 L2 L3 L4 L5 L6) (st mis fai pla : Int32) : MT (A.own st mis fai pla) L1 L2 L3 L4 L5 L6 :=
  ⟨h.l1, h.l2, h.l3, h.l4, h.l5, h.l6, h.g0⟩
theorem MR.own {G : gG} {m : Nat} {A : AS} {asd : Nat → Int64} {spr : Nat → Int32} {sd ss f15 f16 : Int32} (h : MR G m A asd spr sd ss f15 f16) (st mis fai pla sd' ss' f15' f16' : Int32) : MR (g_up G m (mob m (nI A.N) st mis fai pla sd' ss' f15' f16')) m (A.own st mis fai pla) asd spr sd' ss' f15' f16' := by
  obtain ⟨L1, L2, L3, L4, L5, L6, h1, h2, h3, h4, h5, h6, h7⟩ := h.r
  exact ⟨g_up_same _ _ _, ⟨L1, L2, L3, L4, L5, L6, h1.frame (g_up_ne (by omega)), h2.frame (g_up_ne (by omega)), h3.frame (g_up_ne (by omega)), h4.frame (g_up_ne (by omega)), h5.frame (g_up_ne (by omega)), h6.frame (g_up_ne (by omega)), h7.own st mis fai pla⟩, h.w.frame (g_up_ne (by omega)), h.s.frame (g_up_ne (by omega))⟩
theorem MR.asd {G : gG} {m : Nat} {A : AS} {asd asd' : Nat → Int64} {spr : Nat → Int32} {sd ss f15 f16 : Int32} (h : MR G m A asd spr sd ss f15 f16) {c : gC} (hc : LC c 240 asd') : MR (g_up G (m + 7) c) m A asd' spr sd ss f15 f16 := by
  obtain ⟨L1, L2, L3, L4, L5, L6, h1, h2, h3, h4, h5, h6, h7⟩ := h.r
  exact ⟨by rw [g_up_ne (by omega)]; exact h.o, ⟨L1, L2, L3, L4, L5, L6, h1.frame (g_up_ne (by omega)), h2.frame (g_up_ne (by omega)), h3.frame (g_up_ne (by omega)), h4.frame (g_up_ne (by omega)), h5.frame (g_up_ne (by omega)), h6.frame (g_up_ne (by omega)), h7⟩, ⟨c, g_up_same _ _ _, hc⟩, h.s.frame (g_up_ne (by omega))⟩
theorem MR.spr {G : gG} {m : Nat} {A : AS} {asd : Nat → Int64} {spr spr' : Nat → Int32} {sd ss f15 f16 : Int32} (h : MR G m A asd spr sd ss f15 f16) {c : gC} (hc : IC c 3 spr') : MR (g_up G (m + 8) c) m A asd spr' sd ss f15 f16 := by
  obtain ⟨L1, L2, L3, L4, L5, L6, h1, h2, h3, h4, h5, h6, h7⟩ := h.r
  exact ⟨by rw [g_up_ne (by omega)]; exact h.o, ⟨L1, L2, L3, L4, L5, L6, h1.frame (g_up_ne (by omega)), h2.frame (g_up_ne (by omega)), h3.frame (g_up_ne (by omega)), h4.frame (g_up_ne (by omega)), h5.frame (g_up_ne (by omega)), h6.frame (g_up_ne (by omega)), h7⟩, h.w.frame (g_up_ne (by omega)), ⟨c, g_up_same _ _ _, hc⟩⟩
/-- scratch fields of the reference -/
theorem MR.scr {G : gG} {m : Nat} {A : AS} {asd : Nat → Int64} {spr : Nat → Int32} {sd ss f15 f16 : Int32} (h : MR G m A asd spr sd ss f15 f16) (sd' ss' f15' f16' : Int32) : MR (g_up G m (mob m (nI A.N) A.set A.mis A.fai A.pla sd' ss' f15' f16')) m A asd spr sd' ss' f15' f16' := h.own A.set A.mis A.fai A.pla sd' ss' f15' f16'
/-! Reading the reference's rows. -/
section MRD
variable {G : gG} {m : Nat} {A : AS} {asd : Nat → Int64} {spr : Nat → Int32} {sd ss f15 f16 : Int32}
theorem MR.lane (h : MR G m A asd spr sd ss f15 f16) (w : WF A) {i : Nat} (hi : i < A.N) : g_il G (m + 1) (nI i) = some (A.lane i) := by
  obtain ⟨L1, L2, L3, L4, L5, L6, h1, h2, h3, h4, h5, h6, h7⟩ := h.r
  have := w.n16
  rw [h1.il (by omega) (by omega), h7.l1 i hi]
theorem MR.dim (h : MR G m A asd spr sd ss f15 f16) (w : WF A) {i : Nat} (hi : i < A.N) : g_il G (m + 2) (nI i) = some (nI (A.rk i)) := by
  obtain ⟨L1, L2, L3, L4, L5, L6, h1, h2, h3, h4, h5, h6, h7⟩ := h.r
  have := w.n16
  rw [h2.il (by omega) (by omega), h7.l2 i hi]
theorem MR.size (h : MR G m A asd spr sd ss f15 f16) (w : WF A) {i : Nat} (hi : i < A.N) : g_il G (m + 4) (nI i) = some (nI (sz3 (A.ex i))) := by
  obtain ⟨L1, L2, L3, L4, L5, L6, h1, h2, h3, h4, h5, h6, h7⟩ := h.r
  have := w.n16
  rw [h4.il (by omega) (by omega), h7.l4 i hi]
theorem MR.gone (h : MR G m A asd spr sd ss f15 f16) (w : WF A) {i : Nat} (hi : i < A.N) : g_zl G (m + 5) (nI i) = some (A.gone i) := by
  obtain ⟨L1, L2, L3, L4, L5, L6, h1, h2, h3, h4, h5, h6, h7⟩ := h.r
  have := w.n16
  rw [h5.zl (by omega) (by omega), h7.l5 i hi]
theorem MR.item (h : MR G m A asd spr sd ss f15 f16) (w : WF A) {i : Nat} (hi : i < A.N) {j : Nat} (hj : j < sz3 (A.ex i)) : g_ll G (m + 6) (((240 : Int32) * nI i) + nI j) = some (A.it i j) := by
  obtain ⟨L1, L2, L3, L4, L5, L6, h1, h2, h3, h4, h5, h6, h7⟩ := h.r
  have := w.n16
  have := w.sz i hi
  rw [show (240 : Int32) = nI 240 from rfl, pk_mul, nI_add, h6.ll (by omega) (by omega), h7.l6 i hi j hj]
theorem MR.ext (h : MR G m A asd spr sd ss f15 f16) (w : WF A) {i : Nat} (hi : i < A.N) {j : Nat} (hj : j < 3) : f_X6_extent G m (nI i) (nI j) = some (nI (A.ex i j)) := by
  obtain ⟨L1, L2, L3, L4, L5, L6, h1, h2, h3, h4, h5, h6, h7⟩ := h.r
  have h16 := w.n16
  have hr := w.rk3 i hi
  unfold f_X6_extent
  rw [mo_2 h.o, gb_some, h.dim w hi, gb_some]
  have c : nI (A.rk i) ≤ nI j ↔ A.rk i ≤ j := nI_leI (by omega) (by omega)
  by_cases d : A.rk i ≤ j
  · rw [ifp c d, w.e1 i hi j d hj]
    rfl
  · rw [ifn c d, mo_3 h.o, gb_some, gb_some, h.dim w hi, gb_some]
    have e : (3 : Int32) * nI i + nI (A.rk i) - 1 - nI j = nI (3 * i + A.rk i - 1 - j) := by
      rw [show (3 : Int32) = nI 3 from rfl, show (1 : Int32) = nI 1 from rfl, pk_mul, nI_add, pk_sub (by omega), pk_sub (by omega)]
    rw [e, h3.il (by omega) (by omega), h7.l3 i hi j (by omega), gb_some]
end MRD
