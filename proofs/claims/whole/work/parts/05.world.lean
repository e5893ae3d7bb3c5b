theorem nv_inc (a k : Nat) (h : Int32.ofInt (k : Int) = nI k := by decide +kernel) : nI a + Int32.ofInt (k : Int) = nI (a + k) := by rw [h, nI_add]
theorem nv_dec {a : Nat} (h : 0 < a) : nI a + Int32.ofInt (-1) = nI (a - 1) := by
  obtain ⟨b, rfl⟩ : ∃ b, a = b + 1 := ⟨a - 1, by omega⟩
  exact pk_m1 b
theorem bd1 {m n : Nat} (h1 : m ≤ 10) (h2 : n ≤ 10) : m * n < 2 ^ 31 := Nat.lt_of_le_of_lt (Nat.mul_le_mul h1 h2) (by decide)
theorem bd3 {m n : Nat} (h1 : m ≤ 10) (h2 : n ≤ 10) : m * (n + m) < 2 ^ 31 := Nat.lt_of_le_of_lt (Nat.mul_le_mul h1 (show n + m ≤ 20 by omega)) (by decide)
theorem ix_lt {i m j w : Nat} (hi : i < m) (hj : j < w) : i * w + j < m * w := by
  have h : (i + 1) * w ≤ m * w := Nat.mul_le_mul_right w hi
  rw [Nat.succ_mul] at h
  omega
theorem ix_inj {i j a b w : Nat} (h1 : j < w) (h2 : b < w) (h : i * w + j = a * w + b) : i = a ∧ j = b := by
  have key : ∀ i a : Nat, i < a → i * w + w ≤ a * w := by
    intro i a q
    have z : (i + 1) * w ≤ a * w := Nat.mul_le_mul_right w q
    rw [Nat.succ_mul] at z
    exact z
  rcases Nat.lt_trichotomy i a with q | q | q
  · have := key i a q
    omega
  · subst q
    exact ⟨rfl, by omega⟩
  · have := key a i q
    omega
/-! the two objects' cells -/
abbrev pbW (h a1 a2 a3 a4 : Nat) (cA : ClassId) (pr : Int32) (mR nC : Nat) (fA fB fW fP : Nat → Int32) (rd pv pp : Nat) : va_W :=
  [(h, .inr (0, [.int pr, .int (nI mR), .int (nI nC), .ref a1, .ref a2, .ref a3, .int (nI (nC + mR)), .ref a4, .int (nI rd), .int (nI pv), .long (lN pp)])), (a1, .inl (cA, mR * nC, .inl fA)), (a2, .inl (cA, mR, .inl fB)), (a3, .inl (cA, mR * (nC + mR), .inl fW)), (a4, .inl (cA, nC, .inl fP))]
abbrev mdW (h b1 b2 b3 b4 b5 : Nat) (cJ cI : ClassId) (pj : Int64) (mi ni : Int32) (vd : Nat) (gA gB : Nat → Int64) (rd rk : Nat) (gR : Nat → Int64) (gP : Nat → Int32) (gS : Nat → Int64) : va_W :=
  [(h, .inr (1, [.int (nI 0), .long pj, .int mi, .int ni, .int (nI vd), .ref b1, .ref b2, .int (nI rd), .int (nI rk), .ref b3, .ref b4, .ref b5])), (b1, .inl (cJ, 100, .inr (.inl gA))), (b2, .inl (cJ, 10, .inr (.inl gB))), (b3, .inl (cJ, 200, .inr (.inl gR))), (b4, .inl (cI, 10, .inl gP)), (b5, .inl (cJ, 1024, .inr (.inl gS)))]
section GP
variable {p : Program} {l : Launch} {e : Env} {R : Room} {s : State} {m : MethodId} {args : Array Value} {below : List Frame} {meth : Method} {c : Code} {H H0 : Heap} {locs : List Loc} {cells slots : Nat} {Q : State → Prop} {cc : ByteArray} {pc nL index : Nat} {ls : Array Slot} {D : va_G} {w : va_W} {tys : List (ClassId × FieldType)} {a : Nat} {fs : List Value} {A : Nat → Prop} {Ts : List Cond} {rest : List Value} {v : Value}
theorem x0_get (S : CallFix p m c cc nL s args Ts RX0) (hin : ∀ w ∈ wsX00, w ∈ Ts) (hK : va_K D vwCl tys s) (hP : va_P D vwCl w H) (he : w[0]? = some (a, .inr (0, fs))) (k : Nat) (hk : k < 11) (h1 : (TX0 k).1 = "PrimeBench") (hl : Cond.fieldLink RX0 index "PrimeBench" (TX0 k).2.1 (TX0 k).2.2.1 ∈ Ts) (hv : fs[k]? = some v) (hdg : decode cc pc = .ok (.getfield index, 3))
    (kk : W p l e R s m args below meth c H locs cells slots Q (F0 m (pc + 3) ls (v :: rest))) : W p l e R s m args below meth c H locs cells slots Q (F0 m pc ls (.ref a :: rest)) :=
  va_get (D := D) (ci := 0) (C := RX0) (T := TX0) (N := 11) S.1 S.2.1 S.2.2.2.2 hin S.2.2.2.1 hK hP 0 he rfl k hk (S.2.2.2.2 _ hl) (by rw [h1]; exact fun _ h => h) hv hdg kk
theorem x1_get (S : CallFix p m c cc nL s args Ts RX1) (hin : ∀ w ∈ wsX10, w ∈ Ts) (hK : va_K D vwCl tys s) (hP : va_P D vwCl w H) (he : w[0]? = some (a, .inr (1, fs))) (k : Nat) (hk : k < 12) (h1 : (TX1 k).1 = "PrimeBenchModel") (hl : Cond.fieldLink RX1 index "PrimeBenchModel" (TX1 k).2.1 (TX1 k).2.2.1 ∈ Ts) (hv : fs[k]? = some v) (hdg : decode cc pc = .ok (.getfield index, 3))
    (kk : W p l e R s m args below meth c H locs cells slots Q (F0 m (pc + 3) ls (v :: rest))) : W p l e R s m args below meth c H locs cells slots Q (F0 m pc ls (.ref a :: rest)) :=
  va_get (D := D) (ci := 1) (C := RX1) (T := TX1) (N := 12) S.1 S.2.1 S.2.2.2.2 hin S.2.2.2.1 hK hP 0 he rfl k hk (S.2.2.2.2 _ hl) (by rw [h1]; exact fun _ h => h) hv hdg kk
theorem x0_put (S : CallFix p m c cc nL s args Ts RX0) (hin : ∀ w ∈ wsX00, w ∈ Ts) (hK : va_K D vwCl tys s) (hP : va_P D vwCl w H) (hD : va_D A w) (hS : va_S A H0 H locs) (he : w[0]? = some (a, .inr (0, fs))) (k : Nat) (hk : k < 11) (h1 : (TX0 k).1 = "PrimeBench") (hl : Cond.fieldLink RX0 index "PrimeBench" (TX0 k).2.1 (TX0 k).2.2.1 ∈ Ts) (hfin : (TX0 k).2.2.2 = false) {ty : FieldType} (hd : parseFieldDescriptor (TX0 k).2.2.1 = some ty) (hn : narrow ty v = v) (hfit : fits ty v = true) (hlen : k < fs.length) (hdg : decode cc pc = .ok (.putfield index, 3))
    (kk : ∀ (H1 : Heap) (locs1 : List Loc), va_P D vwCl (w.set 0 (a, .inr (0, fs.set k v))) H1 → va_D A (w.set 0 (a, .inr (0, fs.set k v))) → va_S A H0 H1 locs1 → W p l e R s m args below meth c H1 locs1 cells slots Q (F0 m (pc + 3) ls rest)) : W p l e R s m args below meth c H locs cells slots Q (F0 m pc ls (v :: .ref a :: rest)) :=
  va_put (D := D) (ci := 0) (C := RX0) (T := TX0) (N := 11) S.1 S.2.1 S.2.2.2.2 hin tyX0 tyX0_ok nmX0 S.2.2.2.1 hK hP hD hS 0 he rfl k hk (S.2.2.2.2 _ hl) (by rw [h1]; exact fun _ h => h) hfin hd hn hfit hlen hdg kk
theorem x1_put (S : CallFix p m c cc nL s args Ts RX1) (hin : ∀ w ∈ wsX10, w ∈ Ts) (hK : va_K D vwCl tys s) (hP : va_P D vwCl w H) (hD : va_D A w) (hS : va_S A H0 H locs) (he : w[0]? = some (a, .inr (1, fs))) (k : Nat) (hk : k < 12) (h1 : (TX1 k).1 = "PrimeBenchModel") (hl : Cond.fieldLink RX1 index "PrimeBenchModel" (TX1 k).2.1 (TX1 k).2.2.1 ∈ Ts) (hfin : (TX1 k).2.2.2 = false) {ty : FieldType} (hd : parseFieldDescriptor (TX1 k).2.2.1 = some ty) (hn : narrow ty v = v) (hfit : fits ty v = true) (hlen : k < fs.length) (hdg : decode cc pc = .ok (.putfield index, 3))
    (kk : ∀ (H1 : Heap) (locs1 : List Loc), va_P D vwCl (w.set 0 (a, .inr (1, fs.set k v))) H1 → va_D A (w.set 0 (a, .inr (1, fs.set k v))) → va_S A H0 H1 locs1 → W p l e R s m args below meth c H1 locs1 cells slots Q (F0 m (pc + 3) ls rest)) : W p l e R s m args below meth c H locs cells slots Q (F0 m pc ls (v :: .ref a :: rest)) :=
  va_put (D := D) (ci := 1) (C := RX1) (T := TX1) (N := 12) S.1 S.2.1 S.2.2.2.2 hin tyX1 tyX1_ok nmX1 S.2.2.2.1 hK hP hD hS 0 he rfl k hk (S.2.2.2.2 _ hl) (by rw [h1]; exact fun _ h => h) hfin hd hn hfit hlen hdg kk
end GP
/-! numbers that come in from outside -/
theorem in_row {i : Int32} {m : Nat} (hm : m < 2 ^ 31) (h0 : ¬ i < 0) (h1 : ¬ nI m ≤ i) : ∃ k : Nat, k < m ∧ i = nI k := by
  obtain ⟨k, hk, rfl⟩ := nI_of (x := i) h0
  rw [nI_leI hm hk] at h1
  exact ⟨k, by omega, rfl⟩
theorem out_row {i : Int32} {m : Nat} (hm : m < 2 ^ 31) (h : i < 0 ∨ nI m ≤ i) : ∀ k : Nat, k < m → i ≠ nI k := by
  intro k hk e
  subst e
  rcases h with h | h
  · exact nI_pos (by omega) h
  · exact nI_ge hk hm h
/-- whether i is a place below m: the answer 1 with its number, or 0 -/
def Isin (m : Nat) (i : Int32) (r : Int32) : Prop := (∃ k : Nat, k < m ∧ i = nI k ∧ r = nI 1) ∨ ((∀ k : Nat, k < m → i ≠ nI k) ∧ r = nI 0)
/-- the same as a test -/
def inb (m : Nat) (i : Int32) : Bool := decide (0 ≤ i.toInt ∧ i.toInt < (m : Int))
theorem inb_t {m k : Nat} (h : k < m) (hm : m < 2 ^ 31) : inb m (nI k) = true := by
  unfold inb
  rw [nI_toInt (by omega)]
  simp
  omega
theorem inb_f {m : Nat} {i : Int32} (h : ∀ k : Nat, k < m → i ≠ nI k) (hm : m < 2 ^ 31) : inb m i = false := by
  unfold inb
  rw [decide_eq_false_iff_not]
  rintro ⟨h1, h2⟩
  obtain ⟨k, hk, rfl⟩ := nI_of (x := i) (by rw [Int32.lt_iff_toInt_lt, Int32.toInt_zero]; omega)
  rw [nI_toInt hk] at h2
  exact h k (by omega) rfl
theorem inb_0 (i : Int32) : inb 0 i = false := inb_f (fun k h => absurd h (Nat.not_lt_zero k)) (by decide)
abbrev ix (i : Int32) : Nat := i.toNatClampNeg
theorem ix_n {k : Nat} (h : k < 2 ^ 31) : ix (nI k) = k := nI_clamp h
