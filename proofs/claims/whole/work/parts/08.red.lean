/-! the reduction, purely -/
def opt : Option Nat → Int32
  | none => -1
  | some i => nI i
theorem nI_m1 {k : Nat} (h : k < 2 ^ 31) : ¬ nI k = -1 := by
  intro e
  have h1 := nI_toInt h
  rw [e] at h1
  have h2 : (-1 : Int32).toInt = -1 := by decide +kernel
  omega
theorem opt_m1 {o : Option Nat} (h : ∀ i, o = some i → i < 2 ^ 31) : opt o = -1 ↔ o = none := by
  cases o with
  | none => simp [opt]
  | some i => simp [opt, nI_m1 (h i rfl)]
/-- the row of a column's pivot: the last of the first r rows whose pivot stands there -/
def rowOf (pc : Nat → Nat) : Nat → Nat → Option Nat
  | 0, _ => none
  | r + 1, j => if pc r = j then some r else rowOf pc r j
theorem rowOf_lt {pc : Nat → Nat} {r j i : Nat} (h : rowOf pc r j = some i) : i < r := by
  induction r with
  | zero => simp [rowOf] at h
  | succ r ih =>
    simp only [rowOf] at h
    split at h
    · cases h
      omega
    · have := ih h
      omega
theorem rowOf_ext {pc pd : Nat → Nat} {r : Nat} (h : ∀ i, i < r → pc i = pd i) (j : Nat) : rowOf pc r j = rowOf pd r j := by
  induction r with
  | zero => rfl
  | succ r ih => simp only [rowOf]; rw [h r (by omega), ih (fun i hi => h i (by omega))]
abbrev RS : Type := Mat × Nat × Nat × (Nat → Nat)
def redS (P m c : Nat) (q : RS) : RS :=
  if q.2.1 < m ∧ fnd q.1 c (m - q.2.1) q.2.1 < m then
    (clr P (scl P (swp q.1 (fnd q.1 c (m - q.2.1) q.2.1) q.2.1) q.2.1 (swp q.1 (fnd q.1 c (m - q.2.1) q.2.1) q.2.1 q.2.1 c ^ (P - 2) % P)) q.2.1 c, q.2.1 + 1, (if fnd q.1 c (m - q.2.1) q.2.1 = q.2.1 then q.2.2.1 else ng P q.2.2.1) * swp q.1 (fnd q.1 c (m - q.2.1) q.2.1) q.2.1 q.2.1 c % P, fun i => if i = q.2.1 then c else q.2.2.2 i)
  else q
def redN (P m : Nat) (q0 : RS) : Nat → RS
  | 0 => q0
  | c + 1 => redS P m c (redN P m q0 c)
theorem redS_no {P m c : Nat} {q : RS} (h : ¬ (q.2.1 < m ∧ fnd q.1 c (m - q.2.1) q.2.1 < m)) : redS P m c q = q := if_neg h
theorem redS_yes {P m c : Nat} {M : Mat} {r d : Nat} {pc : Nat → Nat} {F : Nat} (h : r < m) (hF : fnd M c (m - r) r = F) (h2 : F < m) : redS P m c (M, r, d, pc) = (clr P (scl P (swp M F r) r (swp M F r r c ^ (P - 2) % P)) r c, r + 1, (if F = r then d else ng P d) * swp M F r r c % P, fun i => if i = r then c else pc i) := by
  subst hF
  exact if_pos ⟨h, h2⟩
theorem redN_stop {P m : Nat} {q0 : RS} {c : Nat} (h : m ≤ (redN P m q0 c).2.1) : ∀ d, redN P m q0 (c + d) = redN P m q0 c := by
  intro d
  induction d with
  | zero => rfl
  | succ d ih =>
    show redS P m (c + d) (redN P m q0 (c + d)) = _
    rw [ih]
    exact redS_no (fun z => by omega)
theorem redS_ok {P m c : Nat} {q : RS} (h0 : 0 < P) (hr : q.2.1 ≤ m) (hb : bnd P q.1) (hd : q.2.2.1 < P) : (redS P m c q).2.1 ≤ m ∧ bnd P (redS P m c q).1 ∧ (redS P m c q).2.2.1 < P := by
  unfold redS
  split
  · rename_i h
    exact ⟨h.1, bn_clr h0 (bn_scl h0 (bn_swp hb _ _) _ _) _ _, Nat.mod_lt _ h0⟩
  · exact ⟨hr, hb, hd⟩
theorem redN_ok {P m : Nat} {q0 : RS} (h0 : 0 < P) (hr : q0.2.1 ≤ m) (hb : bnd P q0.1) (hd : q0.2.2.1 < P) : ∀ c, (redN P m q0 c).2.1 ≤ m ∧ bnd P (redN P m q0 c).1 ∧ (redN P m q0 c).2.2.1 < P := by
  intro c
  induction c with
  | zero => exact ⟨hr, hb, hd⟩
  | succ c ih => exact redS_ok h0 ih.1 ih.2.1 ih.2.2
/-- the start: the matrix in ten columns, the ones and zeros in ten more; the class has them side by side -/
def G0 (n : Nat) (A : Mat) : Mat := fun i k => if k < 10 then (if k < n then A i k else 0) else if k - 10 = i then 1 else 0
def lay (n k : Nat) : Nat := if k < n then k else k - n + 10
abbrev lm (n : Nat) (M : Mat) : Mat := fun i k => M i (lay n k)
theorem lay_lt {n k : Nat} (h : k < n) : lay n k = k := if_pos h
theorem lay_T {n k : Nat} : lay n (n + k) = 10 + k := by
  unfold lay
  rw [if_neg (by omega)]
  omega
theorem G0_T {n : Nat} {A : Mat} {i j : Nat} : G0 n A i (10 + j) = if j = i then 1 else 0 := by
  unfold G0
  rw [if_neg (by omega), show 10 + j - 10 = j by omega]
theorem G0_A {n : Nat} {A : Mat} {i j : Nat} (h : j < n) (h2 : n ≤ 10) : G0 n A i j = A i j := by
  unfold G0
  rw [if_pos (by omega), if_pos h]
theorem lm_lt {n c : Nat} (h : c < n) (M : Mat) (r : Nat) : lm n M r c = M r c := by
  show M r (lay n c) = _
  rw [lay_lt h]
theorem clr_lm {P n c : Nat} (h : c < n) (M : Mat) (r : Nat) : clr P (lm n M) r c = lm n (clr P M r c) := by
  funext i k
  show (if i = r then M i (lay n k) else (M i (lay n k) + (P - M i (lay n c)) * M r (lay n k)) % P) = _
  rw [lay_lt h]
  rfl
theorem fnd_lm {n c : Nat} (h : c < n) (M : Mat) : ∀ d r, fnd (lm n M) c d r = fnd M c d r := by
  intro d
  induction d with
  | zero => intro r; rfl
  | succ d ih =>
    intro r
    show (if M r (lay n c) = 0 then fnd (lm n M) c d (r + 1) else r) = _
    rw [lay_lt h, ih]
    rfl
theorem redS_lm {P m n c : Nat} (h : c < n) (q : RS) : redS P m c (lm n q.1, q.2) = (lm n (redS P m c q).1, (redS P m c q).2) := by
  obtain ⟨M, r, d, pc⟩ := q
  by_cases hc : r < m ∧ fnd M c (m - r) r < m
  · have e1 := redS_yes (P := P) (d := d) (pc := pc) hc.1 rfl hc.2
    have e2 := redS_yes (P := P) (d := d) (pc := pc) (M := lm n M) hc.1 (fnd_lm h M _ _) hc.2
    rw [e1]
    show redS P m c (lm n M, r, d, pc) = _
    have z : swp (lm n M) (fnd M c (m - r) r) r r c = swp M (fnd M c (m - r) r) r r c := lm_lt h (swp M (fnd M c (m - r) r) r) r
    rw [e2, z]
    show (clr P (lm n (scl P (swp M (fnd M c (m - r) r) r) r (swp M (fnd M c (m - r) r) r r c ^ (P - 2) % P))) r c, _) = _
    rw [clr_lm h]
  · rw [redS_no (q := (M, r, d, pc)) hc]
    exact redS_no (by show ¬ (r < m ∧ fnd (lm n M) c (m - r) r < m); rw [fnd_lm h]; exact hc)
theorem redN_lm {P m n : Nat} (q0 : RS) : ∀ c, c ≤ n → redN P m (lm n q0.1, q0.2) c = (lm n (redN P m q0 c).1, (redN P m q0 c).2) := by
  intro c
  induction c with
  | zero => intro _; rfl
  | succ c ih =>
    intro hc
    show redS P m c (redN P m (lm n q0.1, q0.2) c) = _
    rw [ih (by omega), redS_lm (by omega)]
    rfl
abbrev q00 (n : Nat) (A : Mat) : RS := (G0 n A, 0, 1, fun _ => 0)
theorem bn_G0 {P n : Nat} {A : Mat} (h2 : 2 ≤ P) (h : bnd P A) : bnd P (G0 n A) := by
  intro i k
  unfold G0
  split
  · split
    · exact h _ _
    · omega
  · split <;> omega
/-- how many columns below j are free -/
def cnt (po : Nat → Option Nat) : Nat → Nat
  | 0 => 0
  | j + 1 => cnt po j + (if po j = none then 1 else 0)
theorem cnt_le (po : Nat → Option Nat) : ∀ j, cnt po j ≤ j := by
  intro j
  induction j with
  | zero => exact Nat.le_refl 0
  | succ j ih =>
    simp only [cnt]
    split <;> omega
/-- the free column that bears the number k, from j on -/
def kth (po : Nat → Option Nat) (k : Int32) : Nat → Nat → Option Nat
  | 0, _ => none
  | d + 1, j => if po j = none ∧ nI (cnt po j) = k then some j else kth po k d (j + 1)
theorem kth_e {po : Nat → Option Nat} {k : Int32} {n j : Nat} (h : n ≤ j) : kth po k (n - j) j = none := by
  rw [show n - j = 0 by omega]
  rfl
theorem kth_y {po : Nat → Option Nat} {k : Int32} {n j : Nat} (h : j < n) (h1 : po j = none) (h2 : nI (cnt po j) = k) : kth po k (n - j) j = some j := by
  rw [show n - j = (n - (j + 1)) + 1 by omega]
  simp [kth, h1, h2]
theorem kth_n {po : Nat → Option Nat} {k : Int32} {n j : Nat} (h : j < n) (h1 : ¬ (po j = none ∧ nI (cnt po j) = k)) : kth po k (n - j) j = kth po k (n - (j + 1)) (j + 1) := by
  rw [show n - j = (n - (j + 1)) + 1 by omega]
  simp only [kth]
  rw [if_neg h1]
theorem kth_lt {po : Nat → Option Nat} {k : Int32} : ∀ d j f, kth po k d j = some f → j ≤ f ∧ f < j + d ∧ po f = none ∧ nI (cnt po f) = k := by
  intro d
  induction d with
  | zero => intro j f h; simp [kth] at h
  | succ d ih =>
    intro j f h
    simp only [kth] at h
    split at h
    · rename_i hc
      cases h
      exact ⟨Nat.le_refl _, by omega, hc.1, hc.2⟩
    · have := ih (j + 1) f h
      exact ⟨by omega, by omega, this.2.2⟩
/-- whether all rows from r on have 0 -/
def allz (f : Nat → Nat) : Nat → Nat → Bool
  | 0, _ => true
  | d + 1, r => if f r = 0 then allz f d (r + 1) else false
theorem allz_e {f : Nat → Nat} {m r : Nat} (h : m ≤ r) : allz f (m - r) r = true := by
  rw [show m - r = 0 by omega]
  rfl
theorem allz_z {f : Nat → Nat} {m r : Nat} (h : r < m) (z : f r = 0) : allz f (m - r) r = allz f (m - (r + 1)) (r + 1) := by
  rw [show m - r = (m - (r + 1)) + 1 by omega]
  simp [allz, z]
theorem allz_n {f : Nat → Nat} {m r : Nat} (h : r < m) (z : f r ≠ 0) : allz f (m - r) r = false := by
  rw [show m - r = (m - (r + 1)) + 1 by omega]
  simp [allz, z]
theorem Rp.swps {w m : Nat} {f : Nat → Int32} {M : Mat} {F r : Nat} (e : F = r) (h : Rp w m f M) : Rp w m f (swp M F r) := by
  subst e
  exact h.congr (fun i _ k _ => by
    simp only [swp]
    split
    · rename_i q
      rw [q]
    · rfl)
/-- the pivots' rows, one more -/
theorem fp_step {nC c r : Nat} {fP : Nat → Int32} {pc : Nat → Nat} (h : ∀ j, j < nC → fP j = opt (rowOf pc r j)) : ∀ j, j < nC → upd fP c (nI r) j = opt (rowOf (fun i => if i = r then c else pc i) (r + 1) j) := by
  intro j hj
  unfold upd
  by_cases e : j = c
  · subst e
    simp [rowOf, opt]
  · rw [if_neg e, h j hj]
    simp only [rowOf, if_pos]
    rw [if_neg (fun z => e z.symm)]
    rw [rowOf_ext (pc := fun i => if i = r then c else pc i) (pd := pc) (fun i hi => if_neg (by omega))]
