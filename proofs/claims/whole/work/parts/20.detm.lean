/-! rows changed: what becomes of the determinant -/
def swZ (A : MatZ) (i j : Nat) : MatZ := fun a c => if a = i then A j c else if a = j then A i c else A a c
theorem DD_sw {n r i j : Nat} {S : Cols} (hij : i ≠ j) (hi : i < r) (hj : j < r) (E : ∀ B : MatZ, (∀ c, c < n → B i c = B j c) → DD n B r S = 0) (A : MatZ) : DD n (swZ A i j) r S = - DD n A r S := by
  have lp : ∀ p q : Nat → Int, setR (setR A i p) j q = setR (setR A j q) i p := by
    intro p q
    funext a c
    simp only [setR]
    by_cases h1 : a = j
    · subst h1
      simp [show ¬ a = i by omega]
    · simp [h1]
  have ez : ∀ p : Nat → Int, DD n (setR (setR A i p) j p) r S = 0 := fun p => E _ (fun c _ => by simp [setR])
  have h0 := ez (fun c => 1 * A i c + 1 * A j c)
  rw [DD_lin r S hj, lp, lp, DD_lin r S hi, DD_lin r S hi, ← lp, ← lp, ← lp, ← lp, ez, ez] at h0
  have e1 : DD n (setR (setR A i (A i)) j (A j)) r S = DD n A r S := DD_ext r S (fun a _ c _ => by
    simp only [setR]
    split
    · rename_i q; rw [q]
    · split
      · rename_i q; rw [q]
      · rfl)
  have e2 : DD n (setR (setR A i (A j)) j (A i)) r S = DD n (swZ A i j) r S := DD_ext r S (fun a _ c _ => by
    simp only [setR, swZ]
    by_cases h1 : a = j
    · subst h1
      simp [show ¬ a = i by omega]
    · simp [h1])
  rw [e1, e2] at h0
  omega
theorem DD_eqd {n r : Nat} {S : Cols} (i : Nat) : ∀ d, i + 1 + d < r → ∀ A : MatZ, (∀ c, c < n → A i c = A (i + 1 + d) c) → DD n A r S = 0 := by
  intro d
  induction d with
  | zero => intro h A hA; exact DD_adj (k := i) (fun c hc => (hA c hc).symm) r S h
  | succ d ih =>
    intro h A hA
    have h1 := DD_sw (n := n) (S := S) (i := i + 1 + d) (j := i + 1 + (d + 1)) (by omega) (by omega) h (fun B hB => DD_adj (k := i + 1 + d) (fun c hc => (hB c hc).symm) r S h) A
    have h2 := ih (by omega) (swZ A (i + 1 + d) (i + 1 + (d + 1))) (fun c hc => by
      simp only [swZ]
      rw [if_neg (by omega), if_neg (by omega), if_pos trivial]
      exact hA c hc)
    omega
theorem DD_same {n r i j : Nat} {S : Cols} (hij : i ≠ j) (hi : i < r) (hj : j < r) {A : MatZ} (h : ∀ c, c < n → A i c = A j c) : DD n A r S = 0 := by
  rcases Nat.lt_or_ge i j with q | q
  · exact DD_eqd i (j - i - 1) (by omega) A (by rw [show i + 1 + (j - i - 1) = j by omega]; exact h)
  · exact DD_eqd j (i - j - 1) (by omega) A (by rw [show j + 1 + (i - j - 1) = i by omega]; exact fun c hc => (h c hc).symm)
abbrev full : Cols := fun _ => true
abbrev det (n : Nat) (A : MatZ) : Int := DD n A n full
theorem dt_swap {n i j : Nat} (hij : i ≠ j) (hi : i < n) (hj : j < n) (A : MatZ) : det n (swZ A i j) = - det n A := DD_sw hij hi hj (fun _ hB => DD_same hij hi hj hB) A
theorem dt_scale {n i : Nat} (hi : i < n) (x : Int) (A : MatZ) : det n (fun a c => if a = i then x * A a c else A a c) = x * det n A := by
  have h := DD_lin (n := n) (A := A) (i := i) (x := x) (y := 0) (u := A i) (v := A i) n full hi
  have e1 : DD n (setR A i (fun c => x * A i c + 0 * A i c)) n full = det n (fun a c => if a = i then x * A a c else A a c) := DD_ext n full (fun a _ c _ => by
    simp only [setR]
    split
    · rename_i q; rw [q]; simp
    · rfl)
  have e2 : DD n (setR A i (A i)) n full = det n A := DD_ext n full (fun a _ c _ => by
    simp only [setR]
    split
    · rename_i q; rw [q]
    · rfl)
  rw [e1, e2] at h
  rw [h]
  simp
theorem dt_add {n i j : Nat} (hij : i ≠ j) (hi : i < n) (hj : j < n) (y : Int) (A : MatZ) : det n (fun a c => if a = i then A a c + y * A j c else A a c) = det n A := by
  have h := DD_lin (n := n) (A := A) (i := i) (x := 1) (y := y) (u := A i) (v := A j) n full hi
  have e1 : DD n (setR A i (fun c => 1 * A i c + y * A j c)) n full = det n (fun a c => if a = i then A a c + y * A j c else A a c) := DD_ext n full (fun a _ c _ => by
    simp only [setR]
    split
    · rename_i q; rw [q]; simp
    · rfl)
  have e2 : DD n (setR A i (A i)) n full = det n A := DD_ext n full (fun a _ c _ => by
    simp only [setR]
    split
    · rename_i q; rw [q]
    · rfl)
  have e3 : DD n (setR A i (A j)) n full = 0 := DD_same hij hi hj (fun c _ => by
    simp [setR])
  rw [e1, e2, e3] at h
  rw [h]
  simp
theorem dt_clr {n r : Nat} (hr : r < n) (y : Nat → Int) (A : MatZ) : ∀ k, k ≤ n → det n (fun a c => if a < k ∧ a ≠ r then A a c + y a * A r c else A a c) = det n A := by
  intro k
  induction k with
  | zero => intro _; exact DD_ext n full (fun a _ c _ => by simp)
  | succ k ih =>
    intro hk
    rw [← ih (by omega)]
    by_cases e : k = r
    · exact DD_ext n full (fun a _ c _ => by
        have : (a < k + 1 ∧ a ≠ r) ↔ (a < k ∧ a ≠ r) := by omega
        simp only [this])
    · rw [← dt_add (i := k) (j := r) e (by omega) hr (y k) (fun a c => if a < k ∧ a ≠ r then A a c + y a * A r c else A a c)]
      exact DD_ext n full (fun a _ c _ => by
        by_cases h1 : a = k
        · subst h1
          simp [e]
        · have : (a < k + 1 ∧ a ≠ r) ↔ (a < k ∧ a ≠ r) := by omega
          simp only [this, if_neg h1])
theorem dt_zero {n i : Nat} (hi : i < n) {A : MatZ} (h : ∀ c, c < n → A i c = 0) : det n A = 0 := by
  have e := dt_scale hi 0 A
  rw [← show det n A = det n (fun a c => if a = i then 0 * A a c else A a c) from DD_ext n full (fun a _ c hc => by
    split
    · rename_i q; rw [q, h c hc]; simp
    · rfl)] at e
  simpa using e
theorem dt_one {n : Nat} {A : MatZ} (h : ∀ i, i < n → ∀ c, c < n → A i c = if i = c then 1 else 0) : det n A = 1 := by
  have key : ∀ r, r ≤ n → DD n A r (fun j => decide (j < r)) = 1 := by
    intro r
    induction r with
    | zero => intro _; rfl
    | succ r ih =>
      intro hr
      simp only [DD]
      have e1 : sm n (fun c => if decide (c < r + 1) = true then sg (cu (fun j => decide (j < r + 1)) n (c + 1)) * A r c * DD n A r (del (fun j => decide (j < r + 1)) c) else 0) = sm n (fun c => if c = r then 1 else 0) := by
        refine sm_congr n (fun c hc => ?_)
        by_cases e : c = r
        · subst e
          rw [if_pos (by simp), if_pos rfl, h c hc c hc, if_pos rfl]
          have e2 : cu (fun j => decide (j < c + 1)) n (c + 1) = 0 := by
            have key2 : ∀ k, cu (fun j => decide (j < c + 1)) k (c + 1) = 0 := by
              intro k
              induction k with
              | zero => rfl
              | succ k ih2 => simp only [cu]; rw [ih2, if_neg]; simp
            exact key2 n
          have e3 : del (fun j => decide (j < c + 1)) c = (fun j => decide (j < c)) := by
            funext j
            simp only [del]
            rw [← Bool.decide_and]
            congr 1
            apply propext
            omega
          rw [e2, e3, ih (by omega)]
          rfl
        · rw [if_neg e, h r (by omega) c hc, if_neg (show ¬ r = c from fun q => e q.symm)]
          simp
      rw [e1]
      have key3 : ∀ k, sm k (fun c => if c = r then 1 else 0) = if r < k then 1 else 0 := by
        intro k
        induction k with
        | zero => rfl
        | succ k ih2 =>
          simp only [sm]
          rw [ih2]
          by_cases e : k = r
          · subst e
            simp
          · by_cases e2 : r < k
            · simp [e, e2, show r < k + 1 by omega]
            · simp [e, e2, show ¬ r < k + 1 by omega]
      rw [key3, if_pos (by omega)]
  rw [← key n (Nat.le_refl n)]
  exact DD_extS n _ _ (fun c hc => by simp [hc])
/-- modulo P -/
theorem md_add {P a b c d : Int} (h1 : a % P = b % P) (h2 : c % P = d % P) : (a + c) % P = (b + d) % P := by rw [Int.add_emod, h1, h2, ← Int.add_emod]
theorem md_mul {P a b c d : Int} (h1 : a % P = b % P) (h2 : c % P = d % P) : (a * c) % P = (b * d) % P := by rw [Int.mul_emod, h1, h2, ← Int.mul_emod]
theorem sm_md {P : Int} {f g : Nat → Int} : ∀ n, (∀ c, c < n → f c % P = g c % P) → sm n f % P = sm n g % P := by
  intro n
  induction n with
  | zero => intro _; rfl
  | succ n ih => intro h; exact md_add (ih (fun c hc => h c (by omega))) (h n (by omega))
theorem DD_md {P : Int} {n : Nat} {A B : MatZ} : ∀ r S, (∀ i, i < r → ∀ c, c < n → A i c % P = B i c % P) → DD n A r S % P = DD n B r S % P := by
  intro r
  induction r with
  | zero => intro S _; rfl
  | succ r ih =>
    intro S h
    simp only [DD]
    refine sm_md n (fun c hc => ?_)
    split
    · exact md_mul (md_mul rfl (h r (by omega) c hc)) (ih (del S c) (fun i hi => h i (by omega)))
    · rfl
abbrev zM (M : Mat) : MatZ := fun i c => (M i c : Int)
theorem zM_mod (P x : Nat) : ((x % P : Nat) : Int) % (P : Int) = (x : Int) % (P : Int) := by rw [Int.natCast_emod, Int.emod_emod_of_dvd _ (Int.dvd_refl _)]
/-- one step of the reduction keeps the product times the determinant -/
theorem det_step {P n c : Nat} {M : Mat} {r d F : Nat} (hp : PrimeN P) (hB : bnd P M) (hd : d < P) (hr : r < n) (hF : F < n) (hX : M F c ≠ 0) :
    (((if F = r then d else ng P d) * swp M F r r c % P : Nat) : Int) * det n (zM (clr P (scl P (swp M F r) r (swp M F r r c ^ (P - 2) % P)) r c)) % (P : Int) = (d : Int) * det n (zM M) % (P : Int) := by
  have h2 := hp.1
  have eX : swp M F r r c = M F c := by
    simp only [swp]
    split
    · rename_i q; rw [q]
    · rfl
  rw [eX]
  have hXP := hB F c
  have hferm := fermat hp (Nat.pos_of_ne_zero hX) hXP
  generalize M F c ^ (P - 2) % P = Y at hferm ⊢
  generalize M F c = X at hX hXP hferm ⊢
  -- the clearing
  have e3 : det n (zM (clr P (scl P (swp M F r) r Y) r c)) % (P : Int) = det n (zM (scl P (swp M F r) r Y)) % (P : Int) := by
    rw [← dt_clr hr (fun a => ((P - scl P (swp M F r) r Y a c : Nat) : Int)) (zM (scl P (swp M F r) r Y)) n (Nat.le_refl n)]
    refine DD_md n full (fun i hi k hk => ?_)
    simp only [zM, clr]
    by_cases e : i = r
    · rw [if_pos e, if_neg (fun z => z.2 e)]
    · rw [if_neg e, if_pos ⟨hi, e⟩, zM_mod]
      rw [Int.natCast_add, Int.natCast_mul]
  -- the multiplying
  have e2 : det n (zM (scl P (swp M F r) r Y)) % (P : Int) = ((Y : Int) * det n (zM (swp M F r))) % (P : Int) := by
    rw [← dt_scale hr (Y : Int) (zM (swp M F r))]
    refine DD_md n full (fun i hi k hk => ?_)
    simp only [zM, scl]
    split
    · rw [zM_mod, Int.natCast_mul, Int.mul_comm]
    · rfl
  -- the changing of places, with the sign
  have e1 : (((if F = r then d else ng P d : Nat) : Int) * det n (zM (swp M F r))) % (P : Int) = ((d : Int) * det n (zM M)) % (P : Int) := by
    by_cases e : F = r
    · subst e
      rw [if_pos rfl]
      have : det n (zM (swp M F F)) = det n (zM M) := DD_ext n full (fun a _ k _ => by
        simp only [zM, swp]
        split
        · rename_i q; rw [q]
        · rfl)
      rw [this]
    · rw [if_neg e]
      have e4 : det n (zM (swp M F r)) = - det n (zM M) := by
        rw [← dt_swap e hF hr (zM M)]
        exact DD_ext n full (fun a _ k _ => by
          simp only [zM, swp, swZ]
          split
          · rfl
          · split <;> rfl)
      rw [e4]
      unfold ng
      split
      · rename_i q
        subst q
        simp
      · rw [Int.natCast_sub (by omega)]
        have : ((P : Int) - (d : Int)) * - det n (zM M) = (d : Int) * det n (zM M) + (P : Int) * (- det n (zM M)) := by grind
        rw [this, Int.add_mul_emod_self_left]
  generalize (if F = r then d else ng P d) = d1 at e1 ⊢
  have hXY : ((X : Int) * (Y : Int)) % (P : Int) = 1 % (P : Int) := by
    rw [← Int.natCast_mul, ← Int.natCast_emod, hferm]
    rw [Int.emod_eq_of_lt (by omega) (by omega)]
    rfl
  have e5 : (((d1 * X % P : Nat) : Int) * det n (zM (clr P (scl P (swp M F r) r Y) r c))) % (P : Int) = ((d1 : Int) * (X : Int) * ((Y : Int) * det n (zM (swp M F r)))) % (P : Int) := by
    refine md_mul ?_ (e3.trans e2)
    rw [zM_mod, Int.natCast_mul]
  rw [e5]
  have e6 : (d1 : Int) * (X : Int) * ((Y : Int) * det n (zM (swp M F r))) = ((X : Int) * (Y : Int)) * ((d1 : Int) * det n (zM (swp M F r))) := by grind
  rw [e6, md_mul hXY e1]
  simp
theorem fnd_nz {M : Mat} {c : Nat} : ∀ k r, fnd M c k r < r + k → M (fnd M c k r) c ≠ 0 := by
  intro k
  induction k with
  | zero => intro r h; simp only [fnd] at h; omega
  | succ k ih =>
    intro r h
    simp only [fnd] at h ⊢
    split
    · rename_i e
      rw [if_pos e] at h
      exact ih (r + 1) (by omega)
    · assumption
theorem fnd_all {M : Mat} {c : Nat} : ∀ k r, ¬ fnd M c k r < r + k → ∀ i, r ≤ i → i < r + k → M i c = 0 := by
  intro k
  induction k with
  | zero => intro r _ i h1 h2; omega
  | succ k ih =>
    intro r h i h1 h2
    simp only [fnd] at h
    by_cases e : M r c = 0
    · rw [if_pos e] at h
      by_cases q : i = r
      · rw [q]; exact e
      · exact ih (r + 1) (by omega) i (by omega) (by omega)
    · rw [if_neg e] at h
      omega
/-- what the reduction of a square keeps -/
def dInv (P n : Nat) (A : Mat) (c : Nat) (q : RS) : Prop :=
  q.2.1 ≤ c ∧ ((q.2.2.1 : Int) * det n (zM q.1)) % (P : Int) = det n (zM A) % (P : Int) ∧ (∀ i, q.2.1 ≤ i → i < n → ∀ j, j < c → q.1 i j = 0) ∧ (q.2.1 = c → ∀ j, j < c → ∀ i, i < n → q.1 i j = if i = j then 1 else 0)
theorem dInv_step {P n c : Nat} {A : Mat} {q : RS} (hp : PrimeN P) (hc : c < n) (hB : bnd P q.1) (hd : q.2.2.1 < P) (h : dInv P n A c q) : dInv P n A (c + 1) (redS P n c q) := by
  obtain ⟨M, r, d, pc⟩ := q
  obtain ⟨h1, h2, h3, h4⟩ := h
  dsimp only at hB hd h1 h2 h3 h4
  have hP2 := hp.1
  by_cases hy : r < n ∧ fnd M c (n - r) r < n
  · have hnz := fnd_nz (M := M) (c := c) (n - r) r (by omega)
    have hle := fnd_le M c (n - r) r
    rw [redS_yes hy.1 rfl hy.2]
    generalize fnd M c (n - r) r = F at hy hnz hle ⊢
    have hst := det_step (c := c) (r := r) (d := d) hp hB hd hy.1 hy.2 hnz
    have eX : swp M F r r c = M F c := by
      simp only [swp]
      split
      · rename_i q; rw [q]
      · rfl
    have hferm := fermat hp (Nat.pos_of_ne_zero hnz) (hB F c)
    -- the columns before c in the rows from r on
    have hz : ∀ i, r ≤ i → i < n → ∀ j, j < c → swp M F r i j = 0 := by
      intro i hi hin j hj
      simp only [swp]
      split
      · exact h3 r (Nat.le_refl r) hy.1 j hj
      · split
        · exact h3 F hle.2 hy.2 j hj
        · exact h3 i hi hin j hj
    have hpc : scl P (swp M F r) r (swp M F r r c ^ (P - 2) % P) r c = 1 := by
      simp only [scl]
      rw [if_pos trivial, eX]
      exact hferm
    have hcl : ∀ i, i < n → clr P (scl P (swp M F r) r (swp M F r r c ^ (P - 2) % P)) r c i c = if i = r then 1 else 0 := by
      intro i hi
      simp only [clr]
      by_cases e : i = r
      · rw [if_pos e, if_pos e, e, hpc]
      · rw [if_neg e, if_neg e, hpc, Nat.mul_one]
        have := bn_scl (show 0 < P by omega) (bn_swp hB F r) r (swp M F r r c ^ (P - 2) % P) i c
        rw [show scl P (swp M F r) r (swp M F r r c ^ (P - 2) % P) i c + (P - scl P (swp M F r) r (swp M F r r c ^ (P - 2) % P) i c) = P by omega]
        exact Nat.mod_self P
    have hrz : ∀ j, j < c → scl P (swp M F r) r (swp M F r r c ^ (P - 2) % P) r j = 0 := by
      intro j hj
      simp only [scl]
      rw [if_pos trivial, hz r (Nat.le_refl r) hy.1 j hj]
      simp
    have hold : ∀ i j, i < n → j < c → clr P (scl P (swp M F r) r (swp M F r r c ^ (P - 2) % P)) r c i j = swp M F r i j := by
      intro i j hi hj
      by_cases e : i = r
      · subst e
        simp only [clr]
        rw [if_pos trivial, hrz j hj, hz i (Nat.le_refl i) hi j hj]
      · simp only [clr]
        rw [if_neg e, hrz j hj, Nat.mul_zero, Nat.add_zero]
        simp only [scl]
        rw [if_neg e]
        exact Nat.mod_eq_of_lt (bn_swp hB F r i j)
    refine ⟨by show r + 1 ≤ c + 1; omega, hst.trans h2, ?_, ?_⟩
    · intro i hi hin j hj
      have hi2 : r + 1 ≤ i := hi
      show clr P _ r c i j = 0
      rcases Nat.lt_or_ge j c with q | q
      · rw [hold i j hin q]
        exact hz i (by omega) hin j q
      · rw [show j = c by omega, hcl i hin, if_neg (by omega)]
    · intro hrc j hj i hi
      have hrc2 : r = c := by have : r + 1 = c + 1 := hrc; omega
      show clr P _ r c i j = _
      rcases Nat.lt_or_ge j c with q | q
      · rw [hold i j hi q]
        have h5 := h4 hrc2 j q
        simp only [swp]
        split
        · rename_i e
          rw [h3 r (Nat.le_refl r) hy.1 j q, if_neg (by omega)]
        · split
          · rename_i e
            rw [h3 F hle.2 hy.2 j q, if_neg (by omega)]
          · exact h5 i hi
      · have ej : j = c := by omega
        subst ej
        rw [hcl i hi, hrc2]
  · rw [redS_no (q := (M, r, d, pc)) hy]
    refine ⟨Nat.le_succ_of_le h1, h2, ?_, fun e => by have : r = c + 1 := e; omega⟩
    intro i hi hin j hj
    rcases Nat.lt_or_ge j c with q | q
    · exact h3 i hi hin j q
    · rw [show j = c by omega]
      have hi2 : r ≤ i := hi
      exact fnd_all (M := M) (c := c) (n - r) r (fun z => hy ⟨by omega, by omega⟩) i hi2 (by omega)
theorem dInv_all {P n : Nat} {A : Mat} (hp : PrimeN P) (hn : n ≤ 10) (hB : bnd P A) : ∀ c, c ≤ n → dInv P n A c (redN P n (q00 n A) c) := by
  intro c
  have h2 := hp.1
  induction c with
  | zero =>
    intro _
    refine ⟨Nat.le_refl 0, ?_, fun i _ _ j hj => absurd hj (Nat.not_lt_zero j), fun _ j hj => absurd hj (Nat.not_lt_zero j)⟩
    show ((1 : Nat) : Int) * det n (zM (G0 n A)) % (P : Int) = _
    rw [show det n (zM (G0 n A)) = det n (zM A) from DD_ext n full (fun i _ k hk => by simp only [zM]; rw [G0_A hk hn])]
    simp
  | succ c ih =>
    intro hc
    obtain ⟨-, hok2, hok3⟩ := redN_ok (P := P) (m := n) (q0 := q00 n A) (by omega) (Nat.zero_le _) (bn_G0 h2 hB) (show 1 < P by omega) c
    exact dInv_step hp (by omega) hok2 hok3 (ih (by omega))
/-- the product of the pivots is the determinant -/
theorem det_red {P n : Nat} {A : Mat} (hp : PrimeN P) (hn : n ≤ 10) (hB : bnd P A) : (((if (redN P n (q00 n A) n).2.1 < n then 0 else (redN P n (q00 n A) n).2.2.1 : Nat)) : Int) = det n (zM A) % (P : Int) := by
  have h2 := hp.1
  obtain ⟨h1, h3, h4, h5⟩ := dInv_all hp hn hB n (Nat.le_refl n)
  obtain ⟨hok1, hok2, hok3⟩ := redN_ok (P := P) (m := n) (q0 := q00 n A) (by omega) (Nat.zero_le _) (bn_G0 h2 hB) (show 1 < P by omega) n
  generalize redN P n (q00 n A) n = q at h1 h3 h4 h5 hok1 hok2 hok3 ⊢
  split
  · rename_i hlt
    rw [← h3, dt_zero (i := n - 1) (by omega) (fun c hc => by show ((q.1 (n - 1) c : Nat) : Int) = 0; rw [h4 (n - 1) (by omega) (by omega) c hc]; rfl)]
    simp
  · rename_i hlt
    have e : q.2.1 = n := by omega
    rw [← h3, dt_one (fun i hi c hc => by show ((q.1 i c : Nat) : Int) = _; rw [h5 e c hc i hi]; split <;> rfl), Int.mul_one, Int.emod_eq_of_lt (by omega) (by omega)]
