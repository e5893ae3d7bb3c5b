/-! the answers, by the abstract state: P, m, n, A, b, whether reduced; M, r, d, po out of the reduction -/
abbrev nn (x : Int32) : Bool := decide (0 ≤ x.toInt)
def sGet (m n : Nat) (A : Mat) (i j : Int32) : Int32 := if inb m i = true ∧ inb n j = true then nI (A (ix i) (ix j)) else -1
def sRank (rd r : Nat) : Int32 := if rd = 0 then -1 else nI r
def sRref (rd m n : Nat) (M : Mat) (i j : Int32) : Int32 := if rd ≠ 0 ∧ inb m i = true ∧ inb n j = true then nI (M (ix i) (ix j)) else -1
def sTr (rd m : Nat) (M : Mat) (i j : Int32) : Int32 := if rd ≠ 0 ∧ inb m i = true ∧ inb m j = true then nI (M (ix i) (10 + ix j)) else -1
def sDet (rd m n r d : Nat) : Int32 := if rd ≠ 0 ∧ m = n then (if r < n then nI 0 else nI d) else -1
def sInv (rd m n r : Nat) (M : Mat) (i j : Int32) : Int32 := if (rd ≠ 0 ∧ m = n ∧ r = n) ∧ inb m i = true ∧ inb m j = true then nI (M (ix i) (10 + ix j)) else -1
def slv (P m : Nat) (M : Mat) (b : Nat → Nat) (r : Nat) : Bool := allz (fun row => chg P (fun k => M row (10 + k)) b m) (m - r) r
def sSlv (rd P m : Nat) (M : Mat) (b : Nat → Nat) (r : Nat) : Int32 := if rd ≠ 0 ∧ slv P m M b r = true then nI 1 else nI 0
def sSolA (P m : Nat) (M : Mat) (b : Nat → Nat) : Option Nat → Int32
  | none => nI 0
  | some i => nI (chg P (fun k => M i (10 + k)) b m)
def sSol (rd P m n : Nat) (M : Mat) (b : Nat → Nat) (r : Nat) (po : Nat → Option Nat) (j : Int32) : Int32 := if inb n j = true ∧ rd ≠ 0 ∧ slv P m M b r = true then sSolA P m M b (po (ix j)) else -1
def sKd (rd n r : Nat) : Int32 := if rd = 0 then -1 else nI (n - r)
def sKerA (P : Nat) (M : Mat) (jj : Nat) (o : Option Nat) : Option Nat → Int32
  | none => -1
  | some f => match o with
    | none => if jj = f then nI 1 else nI 0
    | some i => nI (ng P (M i f))
def sKer (rd P n : Nat) (M : Mat) (po : Nat → Option Nat) (k j : Int32) : Int32 := if rd ≠ 0 ∧ inb n j = true then sKerA P M (ix j) (po (ix j)) (kth po k n 0) else -1
def nb (b : Nat → Nat) (k v : Nat) : Nat → Nat := fun i => if i = k then v else b i
def okSet (m n : Nat) (i j x : Int32) : Prop := inb m i = true ∧ inb n j = true ∧ nn x = true
def okRhs (m : Nat) (i x : Int32) : Prop := inb m i = true ∧ nn x = true
theorem nn_t {k : Nat} (h : k < 2 ^ 31) : nn (nI k) = true := by
  show decide (0 ≤ (nI k).toInt) = true
  rw [nI_toInt h]
  simp
theorem nn_f {x : Int32} (h : ¬ 0 ≤ x) : nn x = false := by
  rw [Int32.le_iff_toInt_le, Int32.toInt_zero] at h
  simp [nn]
  omega
theorem nn_of {x : Int32} (h : 0 ≤ x) : ∃ k : Nat, k < 2 ^ 31 ∧ x = nI k := nI_of (by rw [Int32.lt_iff_toInt_lt]; rw [Int32.le_iff_toInt_le] at h; omega)
theorem chg_lm {P n m ro : Nat} {M : Mat} {b : Nat → Nat} : chg P (fun k => lm n M ro (n + k)) b m = chg P (fun k => M ro (10 + k)) b m := by
  have e : (fun k => lm n M ro (n + k)) = (fun k => M ro (10 + k)) := by
    funext k
    show M ro (lay n (n + k)) = _
    rw [lay_T]
  rw [e]
/-- what the class's fields hold when it is reduced -/
def PbQ (P mR nC : Nat) (fW fP : Nat → Int32) (pv pp : Nat) (M : Mat) (po : Nat → Option Nat) : Prop :=
  Rp (nC + mR) mR fW (lm nC M) ∧ bnd P M ∧ (∀ j, j < nC → fP j = opt (po j)) ∧ (∀ j i, po j = some i → i < mR) ∧ pv ≤ mR ∧ pv ≤ nC ∧ pp < P
