/-! the reference's determinant: sums over sets of columns, the sets as bits -/
def tb (s : Nat) : Cols := fun j => decide (s / 2 ^ j % 2 = 1)
theorem tb_bit (s j : Nat) : tb s j = s.testBit j := by
  unfold tb
  rw [Nat.testBit_eq_decide_div_mod_eq]
def EE (P n : Nat) (A : Mat) (s : Nat) : Nat := (DD n (zM A) (cu (tb s) n 0) (tb s) % (P : Int)).toNat
theorem EE_c {P n : Nat} (h : 0 < P) (A : Mat) (s : Nat) : (EE P n A s : Int) = DD n (zM A) (cu (tb s) n 0) (tb s) % (P : Int) := Int.toNat_of_nonneg (Int.emod_nonneg _ (by omega))
theorem EE_lt {P n : Nat} (h : 0 < P) (A : Mat) (s : Nat) : EE P n A s < P := by
  have h1 := EE_c h A s (n := n)
  have h2 := Int.emod_lt_of_pos (DD n (zM A) (cu (tb s) n 0) (tb s)) (show (0 : Int) < (P : Int) by omega)
  omega
theorem cu_f {S : Cols} : ∀ n k, (∀ c, c < n → S c = false) → cu S n k = 0 := by
  intro n
  induction n with
  | zero => intro k _; rfl
  | succ n ih => intro k h; simp only [cu]; rw [ih k (fun c hc => h c (by omega)), h n (by omega), if_neg (by simp)]
theorem EE_0 {P n : Nat} (h : 2 ≤ P) (A : Mat) : EE P n A 0 = 1 := by
  have e : cu (tb 0) n 0 = 0 := cu_f n 0 (fun c _ => by simp [tb])
  unfold EE
  rw [e]
  show ((1 : Int) % (P : Int)).toNat = 1
  rw [Int.emod_eq_of_lt (by omega) (by omega)]
  rfl
theorem cu_le (S : Cols) (k : Nat) : ∀ n, cu S n k ≤ n := by
  intro n
  induction n with
  | zero => exact Nat.le_refl 0
  | succ n ih =>
    simp only [cu]
    split <;> omega
theorem tb_t {s k : Nat} (h : s / 2 ^ k % 2 = 1) : tb s k = true := by
  unfold tb
  exact decide_eq_true h
theorem tb_f {s k : Nat} (h : ¬ s / 2 ^ k % 2 = 1) : ¬ tb s k = true := by
  unfold tb
  rw [decide_eq_true_eq]
  exact h
theorem cu_tb (s k : Nat) : cu (tb s) k 0 + s / 2 ^ k % 2 = cu (tb s) (k + 1) 0 := by
  simp only [cu]
  by_cases h : s / 2 ^ k % 2 = 1
  · rw [if_pos ⟨Nat.zero_le _, tb_t h⟩, h]
  · rw [if_neg (fun z => tb_f h z.2)]
    omega
theorem cu_pos {S : Cols} {k n : Nat} (hk : k < n) (h : S k = true) : 1 ≤ cu S n 0 := by
  have key : ∀ j, j ≤ k → 1 ≤ cu S n j := by
    intro j hj
    have : ∀ d j, j + d = k → 1 ≤ cu S n j := by
      intro d
      induction d with
      | zero => intro j e; rw [show j = k by omega, cu_step n hk, if_pos h]; omega
      | succ d ih =>
        intro j e
        rw [cu_step n (by omega)]
        have := ih (j + 1) (by omega)
        omega
    exact this (k - j) j (by omega)
  exact key 0 (Nat.zero_le k)
theorem tb_pos {s : Nat} (h0 : 0 < s) : ∀ n, s < 2 ^ n → 1 ≤ cu (tb s) n 0 := by
  intro n
  induction n with
  | zero => intro h; simp at h; omega
  | succ n ih =>
    intro h
    rw [← cu_tb]
    rcases Nat.lt_or_ge s (2 ^ n) with q | q
    · have := ih q
      omega
    · have h1 : s / 2 ^ n = 1 := by
        rw [Nat.pow_succ] at h
        exact Nat.div_eq_of_lt_le (by omega) (by omega)
      rw [h1]
      omega
theorem tb_xor {s k : Nat} (h : tb s k = true) : tb (s ^^^ (1 * 2 ^ k)) = del (tb s) k := by
  funext j
  rw [Nat.one_mul, tb_bit, Nat.testBit_xor, Nat.testBit_two_pow, del, tb_bit]
  rw [tb_bit] at h
  by_cases e : k = j
  · subst e
    simp [h]
  · simp [e, show j ≠ k from fun q => e q.symm]
theorem xor_lt0 : ∀ k s : Nat, s / 2 ^ k % 2 = 1 → s ^^^ 2 ^ k < s := by
  intro k
  induction k with
  | zero =>
    intro s h
    rw [Nat.pow_zero, Nat.div_one] at h
    have h1 : (s ^^^ 2 ^ 0) / 2 = s / 2 ^^^ 2 ^ 0 / 2 := Nat.xor_div_two
    have h2 : ¬ (s ^^^ 2 ^ 0) % 2 = 1 := by
      rw [Nat.xor_mod_two_eq_one]
      simp [h]
    rw [show (2 : Nat) ^ 0 / 2 = 0 by decide, Nat.xor_zero] at h1
    rw [Nat.pow_zero] at h1 h2 ⊢
    omega
  | succ k ih =>
    intro s h
    have h1 : (s ^^^ 2 ^ (k + 1)) / 2 = s / 2 ^^^ 2 ^ (k + 1) / 2 := Nat.xor_div_two
    rw [show (2 : Nat) ^ (k + 1) / 2 = 2 ^ k by rw [Nat.pow_succ]; omega] at h1
    have h2 := ih (s / 2) (by rw [Nat.div_div_eq_div_mul, Nat.mul_comm, ← Nat.pow_succ]; exact h)
    omega
theorem xor_lt {s k : Nat} (h : s / 2 ^ k % 2 = 1) : s ^^^ (1 * 2 ^ k) < s := by
  rw [Nat.one_mul]
  exact xor_lt0 k s h
def FF (n : Nat) (A : Mat) (s : Nat) : Nat → Int := fun c => if tb s c = true then sg (cu (tb s) n (c + 1)) * zM A (cu (tb s) n 0 - 1) c * DD n (zM A) (cu (tb s) n 0 - 1) (del (tb s) c) else 0
theorem EE_s {P n : Nat} (h : 0 < P) {A : Mat} {s x : Nat} (h0 : 0 < s) (h1 : s < 2 ^ n) (hx : (x : Int) = su n (FF n A s) 0 % (P : Int)) : x = EE P n A s := by
  have h2 := tb_pos h0 n h1
  have e : (x : Int) = (EE P n A s : Int) := by
    rw [hx, EE_c h, su_0]
    have e3 : cu (tb s) n 0 = (cu (tb s) n 0 - 1) + 1 := by omega
    rw [show DD n (zM A) (cu (tb s) n 0) (tb s) = DD n (zM A) ((cu (tb s) n 0 - 1) + 1) (tb s) by rw [← e3]]
    rfl
  omega
theorem EE_x {P n : Nat} (h : 0 < P) {A : Mat} {s k : Nat} (hk : k < n) (hb : tb s k = true) : (EE P n A (s ^^^ (1 * 2 ^ k)) : Int) = DD n (zM A) (cu (tb s) n 0 - 1) (del (tb s) k) % (P : Int) := by
  rw [EE_c h, tb_xor hb]
  have h1 := cu_del (S := tb s) (d := k) n 0
  rw [if_pos ⟨Nat.zero_le _, hk, hb⟩] at h1
  rw [show cu (tb s) n 0 - 1 = cu (del (tb s) k) n 0 by omega]
theorem dp_no {n k s : Nat} {A : Mat} (hk : k < n) (hb : ¬ s / 2 ^ k % 2 = 1) : su n (FF n A s) k = su n (FF n A s) (k + 1) ∧ cu (tb s) n k = cu (tb s) n (k + 1) := by
  have h : ¬ tb s k = true := tb_f hb
  refine ⟨?_, ?_⟩
  · rw [su_step _ n hk]
    simp [FF, h]
  · rw [cu_step n hk, if_neg h]
    rfl
theorem dp_cu {n k s : Nat} (hk : k < n) (hb : s / 2 ^ k % 2 = 1) : cu (tb s) n k = cu (tb s) n (k + 1) + 1 := by
  rw [cu_step n hk, if_pos (tb_t hb)]
theorem dp_even {P n : Nat} (h : 0 < P) {A : Mat} {s k x : Nat} (hk : k < n) (hb : s / 2 ^ k % 2 = 1) (hx : (x : Int) = su n (FF n A s) (k + 1) % (P : Int)) (he : cu (tb s) n (k + 1) % 2 = 0) : (((x + A (cu (tb s) n 0 - 1) k * EE P n A (s ^^^ (1 * 2 ^ k)) % P) % P : Nat) : Int) = su n (FF n A s) k % (P : Int) := by
  have hb2 : tb s k = true := tb_t hb
  rw [su_step _ n hk, Int.natCast_emod, Int.natCast_add]
  refine md_add (by rw [hx, Int.emod_emod_of_dvd _ (Int.dvd_refl _)]) ?_
  rw [zM_mod, Int.natCast_mul, EE_x h hk hb2]
  simp only [FF]
  rw [if_pos hb2, sg, if_pos he, Int.one_mul]
  exact md_mul rfl (Int.emod_emod_of_dvd _ (Int.dvd_refl _))
theorem dp_odd {P n : Nat} (h : 0 < P) {A : Mat} {s k x : Nat} (hk : k < n) (hb : s / 2 ^ k % 2 = 1) (hx : (x : Int) = su n (FF n A s) (k + 1) % (P : Int)) (he : cu (tb s) n (k + 1) % 2 ≠ 0) : (((x + P - A (cu (tb s) n 0 - 1) k * EE P n A (s ^^^ (1 * 2 ^ k)) % P) % P : Nat) : Int) = su n (FF n A s) k % (P : Int) := by
  have hb2 : tb s k = true := tb_t hb
  have hlt := Nat.mod_lt (A (cu (tb s) n 0 - 1) k * EE P n A (s ^^^ (1 * 2 ^ k))) h
  rw [su_step _ n hk, Int.natCast_emod, Int.natCast_sub (by omega), Int.natCast_add]
  have e1 : (x : Int) + (P : Int) - ((A (cu (tb s) n 0 - 1) k * EE P n A (s ^^^ (1 * 2 ^ k)) % P : Nat) : Int) = ((x : Int) + -1 * ((A (cu (tb s) n 0 - 1) k * EE P n A (s ^^^ (1 * 2 ^ k)) % P : Nat) : Int)) + (P : Int) * 1 := by omega
  rw [e1, Int.add_mul_emod_self_left]
  refine md_add (by rw [hx, Int.emod_emod_of_dvd _ (Int.dvd_refl _)]) ?_
  simp only [FF]
  rw [if_pos hb2, sg, if_neg he, Int.mul_assoc]
  refine md_mul rfl ?_
  rw [zM_mod, Int.natCast_mul, EE_x h hk hb2]
  exact md_mul rfl (Int.emod_emod_of_dvd _ (Int.dvd_refl _))
theorem EE_full {P n : Nat} (h : 0 < P) {A : Mat} : (EE P n A (1 * 2 ^ n - 1) : Int) = det n (zM A) % (P : Int) := by
  have e : ∀ c, c < n → tb (1 * 2 ^ n - 1) c = true := fun c hc => by rw [tb_bit, Nat.one_mul, Nat.testBit_two_pow_sub_one]; simp [hc]
  have e2 : cu (tb (1 * 2 ^ n - 1)) n 0 = n := by
    have key : ∀ k, k ≤ n → cu (tb (1 * 2 ^ n - 1)) k 0 = k := by
      intro k
      induction k with
      | zero => intro _; rfl
      | succ k ih => intro hk; simp only [cu]; rw [ih (by omega), if_pos ⟨Nat.zero_le _, e k (by omega)⟩]
    exact key n (Nat.le_refl n)
  rw [EE_c h, e2, DD_extS n _ full (fun c hc => e c hc)]
theorem p2_le {k : Nat} (h : k ≤ 10) : 2 ^ k ≤ 1024 := Nat.pow_le_pow_right (n := 2) (by decide) h
theorem p2_pos (k : Nat) : 0 < 2 ^ k := Nat.pos_of_ne_zero (fun z => by have := Nat.pow_eq_zero.mp z; omega)
theorem dn_p {n : Nat} (h : 0 < n) : nI (n - 1) = dn n := by
  obtain ⟨k, rfl⟩ : ∃ k, n = k + 1 := ⟨n - 1, by omega⟩
  rw [dn_s]
  rfl
