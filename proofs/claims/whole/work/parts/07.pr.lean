/-! sides and primes -/
def IsSide (i r : Int32) : Prop := (∃ k : Nat, 1 ≤ k ∧ k ≤ 10 ∧ i = nI k ∧ r = nI 1) ∨ ((∀ k : Nat, 1 ≤ k → k ≤ 10 → i ≠ nI k) ∧ r = nI 0)
theorem side_t {i : Int32} (h0 : ¬ i < nI 1) (h1 : ¬ nI 10 < i) : IsSide i (nI 1) := by
  obtain ⟨k, hk, rfl⟩ := nI_of (x := i) (fun q => h0 (by rw [Int32.lt_iff_toInt_lt] at *; rw [nI_toInt (by decide)]; rw [Int32.toInt_zero] at q; omega))
  rw [nI_ltI hk (by decide)] at h0
  rw [nI_ltI (by decide) hk] at h1
  exact Or.inl ⟨k, by omega, by omega, rfl, rfl⟩
theorem side_f {i : Int32} (h : i < nI 1 ∨ nI 10 < i) : IsSide i (nI 0) := by
  refine Or.inr ⟨fun k h1 h2 e => ?_, rfl⟩
  subst e
  rcases h with h | h
  · rw [nI_ltI (by omega) (by decide)] at h
    omega
  · rw [nI_ltI (by decide) (by omega)] at h
    omega
/-- no divisor up to the root -/
def PrimeN (v : Nat) : Prop := 2 ≤ v ∧ ∀ d, 2 ≤ d → d * d ≤ v → v % d ≠ 0
def IsPr (i r : Int32) : Prop := (∃ v : Nat, v < 2 ^ 31 ∧ PrimeN v ∧ i = nI v ∧ r = nI 1) ∨ ((∀ v : Nat, v < 2 ^ 31 → PrimeN v → i ≠ nI v) ∧ r = nI 0)
theorem pr_lt {i : Int32} (h : i < nI 2) : ¬ i = nI 2 := by
  intro e
  subst e
  rw [nI_ltI (by decide) (by decide)] at h
  omega
theorem pr_small {i : Int32} (h : i < nI 2) : IsPr i (nI 0) := by
  refine Or.inr ⟨fun v hv hp e => ?_, rfl⟩
  subst e
  rw [nI_ltI hv (by decide)] at h
  have := hp.1
  omega
theorem pr_ge {i : Int32} (h : ¬ i < nI 2) : ∃ v : Nat, 2 ≤ v ∧ v < 2 ^ 31 ∧ i = nI v := by
  obtain ⟨k, hk, rfl⟩ := nI_of (x := i) (fun q => h (by rw [Int32.lt_iff_toInt_lt] at *; rw [nI_toInt (by decide)]; rw [Int32.toInt_zero] at q; omega))
  rw [nI_ltI hk (by decide)] at h
  exact ⟨k, by omega, hk, rfl⟩
theorem pr_not {v : Nat} (hv : v < 2 ^ 31) (h : ¬ PrimeN v) : IsPr (nI v) (nI 0) := by
  refine Or.inr ⟨fun u hu hp e => ?_, rfl⟩
  rw [nI_eq hv hu] at e
  subst e
  exact h hp
theorem pr_even {v : Nat} (hz : v % 2 = 0) (h2 : v ≠ 2) (hv2 : 2 ≤ v) (hv : v < 2 ^ 31) : IsPr (nI v) (nI 0) := by
  refine pr_not hv (fun hp => ?_)
  exact hp.2 2 (by omega) (by omega) hz
theorem pr_two {v : Nat} (h2 : v = 2) : IsPr (nI v) (nI 1) := by
  subst h2
  refine Or.inl ⟨2, by decide, ⟨by omega, fun d h1 h3 => ?_⟩, rfl, rfl⟩
  have : 2 * 2 ≤ d * d := Nat.mul_le_mul h1 h1
  omega
/-- what the class's loop knows at divisor d -/
def OddUp (v d : Nat) : Prop := d % 2 = 1 ∧ ∀ e, 3 ≤ e → e < d → e % 2 = 1 → v % e ≠ 0
theorem od_start (v : Nat) : OddUp v 3 := ⟨by decide, fun e h1 h2 => by omega⟩
theorem pr_step {v d : Nat} (h : OddUp v d) (hne : v % d ≠ 0) : OddUp v (d + 2) := by
  refine ⟨by have := h.1; omega, fun e h1 h2 h3 => ?_⟩
  rcases Nat.lt_or_ge e d with q | q
  · exact h.2 e h1 q h3
  · have := h.1
    have e1 : e = d := by omega
    rw [e1]
    exact hne
theorem pr_no {v d : Nat} (hd : 3 ≤ d) (hv : v < 2 ^ 31) (hle : d * d ≤ v) (hz : v % d = 0) : IsPr (nI v) (nI 0) := pr_not hv (fun hp => hp.2 d (by omega) hle hz)
theorem pr_yes {v d : Nat} (hv2 : 2 ≤ v) (hv : v < 2 ^ 31) (ho : v % 2 ≠ 0) (h : OddUp v d) (hgt : v < d * d) : IsPr (nI v) (nI 1) := by
  refine Or.inl ⟨v, hv, ⟨hv2, fun e h1 h2 h3 => ?_⟩, rfl, rfl⟩
  by_cases he : e % 2 = 1
  · refine h.2 e (by omega) ?_ he h3
    rcases Nat.lt_or_ge e d with q | q
    · exact q
    · have : d * d ≤ e * e := Nat.mul_le_mul q q
      omega
  · have h4 : v % 2 = 0 := by
      obtain ⟨k, hk⟩ := Nat.dvd_of_mod_eq_zero h3
      obtain ⟨j, hj⟩ := Nat.dvd_of_mod_eq_zero (show e % 2 = 0 by omega)
      rw [hk, hj, Nat.mul_assoc]
      exact Nat.mul_mod_right 2 _
    exact ho h4
theorem sq_lt {d v : Nat} (hv : v < 2 ^ 31) (h : d * d ≤ v) : d ≤ 46341 := by
  rcases Nat.lt_or_ge d 46342 with q | q
  · omega
  · have : 46342 * 46342 ≤ d * d := Nat.mul_le_mul q q
    omega
