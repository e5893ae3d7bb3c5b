/-! a prime by its divisors up to the root has none at all; powers modulo it -/
theorem pn_dvd {p d : Nat} (hp : PrimeN p) (hd : d ∣ p) (h1 : d < p) : d = 1 := by
  obtain ⟨e, he⟩ := hd
  have h2 := hp.1
  have hd0 : 0 < d := by
    rcases Nat.eq_zero_or_pos d with z | z
    · subst z
      omega
    · exact z
  have he0 : 0 < e := by
    rcases Nat.eq_zero_or_pos e with z | z
    · subst z
      omega
    · exact z
  have he1 : e ≠ 1 := by
    intro z
    subst z
    omega
  rcases Nat.lt_or_ge d 2 with z | z
  · omega
  · exfalso
    rcases Nat.le_total d e with q | q
    · refine hp.2 d z ?_ (by rw [he]; exact Nat.mul_mod_right d e)
      rw [he]
      exact Nat.mul_le_mul_left d q
    · refine hp.2 e (by omega) ?_ (by rw [he]; exact Nat.mul_mod_left d e)
      rw [he]
      exact Nat.mul_le_mul_right e q
theorem pn_cop {p k : Nat} (hp : PrimeN p) (h0 : 0 < k) (h1 : k < p) : Nat.Coprime p k := by
  have h2 : Nat.gcd p k ∣ p := Nat.gcd_dvd_left p k
  have h3 : Nat.gcd p k ≤ k := Nat.le_of_dvd h0 (Nat.gcd_dvd_right p k)
  exact pn_dvd hp h2 (by omega)
def ch : Nat → Nat → Nat
  | _, 0 => 1
  | 0, _ + 1 => 0
  | n + 1, k + 1 => ch n k + ch n (k + 1)
theorem ch_0 (n : Nat) : ch n 0 = 1 := by cases n <;> rfl
theorem ch_big : ∀ n k, n < k → ch n k = 0 := by
  intro n
  induction n with
  | zero => intro k h; cases k with
    | zero => omega
    | succ k => rfl
  | succ n ih => intro k h; cases k with
    | zero => omega
    | succ k => simp only [ch]; rw [ih k (by omega), ih (k + 1) (by omega)]
theorem ch_1 : ∀ n, ch n 1 = n := by
  intro n
  induction n with
  | zero => rfl
  | succ n ih => simp only [ch]; rw [show (0 : Nat) + 1 = 1 from rfl, ih]; omega
theorem ch_nn : ∀ n, ch n n = 1 := by
  intro n
  induction n with
  | zero => rfl
  | succ n ih => simp only [ch]; rw [ih, ch_big n (n + 1) (by omega)]
theorem ch_abs : ∀ n k, (k + 1) * ch (n + 1) (k + 1) = (n + 1) * ch n k := by
  intro n
  induction n with
  | zero =>
    intro k
    cases k with
    | zero => rfl
    | succ k => simp [ch]
  | succ n ih =>
    intro k
    cases k with
    | zero => rw [ch_1, ch_0]; omega
    | succ k =>
      have h1 := ih k
      have h2 := ih (k + 1)
      have e1 : ch (n + 1 + 1) (k + 1 + 1) = ch (n + 1) (k + 1) + ch (n + 1) (k + 1 + 1) := rfl
      have e2 : ch (n + 1) (k + 1) = ch n k + ch n (k + 1) := rfl
      rw [e1]
      have e3 : (k + 1 + 1) * (ch (n + 1) (k + 1) + ch (n + 1) (k + 1 + 1)) = (k + 1) * ch (n + 1) (k + 1) + ch (n + 1) (k + 1) + (k + 1 + 1) * ch (n + 1) (k + 1 + 1) := by grind
      rw [e3, h1, h2]
      have e4 : (n + 1 + 1) * ch (n + 1) (k + 1) = (n + 1) * (ch n k + ch n (k + 1)) + ch (n + 1) (k + 1) := by rw [← e2]; grind
      rw [e4]
      grind
theorem sm_shift (f : Nat → Int) : ∀ n, sm (n + 1) f = f 0 + sm n (fun k => f (k + 1)) := by
  intro n
  induction n with
  | zero => simp [sm]
  | succ n ih => rw [show sm (n + 1 + 1) f = sm (n + 1) f + f (n + 1) from rfl, ih]; simp only [sm]; omega
theorem binom (a : Int) : ∀ n, (a + 1) ^ n = sm (n + 1) (fun k => (ch n k : Int) * a ^ k) := by
  intro n
  induction n with
  | zero => simp [sm, ch]
  | succ n ih =>
    rw [Int.pow_succ, ih, sm_shift _ (n + 1)]
    have e1 : sm (n + 1) (fun k => (ch (n + 1) (k + 1) : Int) * a ^ (k + 1)) = sm (n + 1) (fun k => a * ((ch n k : Int) * a ^ k)) + sm (n + 1) (fun k => (ch n (k + 1) : Int) * a ^ (k + 1)) := by
      rw [← sm_add]
      refine sm_congr _ (fun k _ => ?_)
      rw [show ch (n + 1) (k + 1) = ch n k + ch n (k + 1) from rfl, Int.natCast_add, Int.pow_succ]
      grind
    rw [e1, sm_mul]
    have e2 : sm (n + 1) (fun k => (ch n (k + 1) : Int) * a ^ (k + 1)) = sm n (fun k => (ch n (k + 1) : Int) * a ^ (k + 1)) := by
      show sm n _ + (ch n (n + 1) : Int) * a ^ (n + 1) = _
      rw [ch_big n (n + 1) (by omega)]
      simp
    rw [e2]
    have e3 := sm_shift (fun k => (ch n k : Int) * a ^ k) n
    simp only [ch_0, Int.pow_zero] at e3 ⊢
    rw [e3]
    grind
theorem ch_dvd {p k : Nat} (hp : PrimeN p) (h0 : 0 < k) (h1 : k < p) : p ∣ ch p k := by
  obtain ⟨q, rfl⟩ : ∃ q, p = q + 1 := ⟨p - 1, by omega⟩
  obtain ⟨j, rfl⟩ : ∃ j, k = j + 1 := ⟨k - 1, by omega⟩
  have h := ch_abs q j
  have h2 : (q + 1) ∣ (j + 1) * ch (q + 1) (j + 1) := ⟨_, h⟩
  exact (pn_cop hp (by omega) h1).dvd_of_dvd_mul_left h2
theorem sm_dvd {d : Int} {f : Nat → Int} : ∀ n, (∀ k, k < n → d ∣ f k) → d ∣ sm n f := by
  intro n
  induction n with
  | zero => intro _; exact Int.dvd_zero d
  | succ n ih => intro h; exact Int.dvd_add (ih (fun k hk => h k (by omega))) (h n (by omega))
theorem fer {p : Nat} (hp : PrimeN p) : ∀ a : Nat, (p : Int) ∣ ((a : Int) ^ p - a) := by
  intro a
  have h2 := hp.1
  induction a with
  | zero =>
    obtain ⟨q, rfl⟩ : ∃ q, p = q + 1 := ⟨p - 1, by omega⟩
    simp [Int.pow_succ]
  | succ a ih =>
    have e := binom (a : Int) p
    obtain ⟨q, rfl⟩ : ∃ q, p = q + 1 := ⟨p - 1, by omega⟩
    rw [sm_shift, show sm (q + 1) (fun k => (ch (q + 1) (k + 1) : Int) * (a : Int) ^ (k + 1)) = sm q (fun k => (ch (q + 1) (k + 1) : Int) * (a : Int) ^ (k + 1)) + (ch (q + 1) (q + 1) : Int) * (a : Int) ^ (q + 1) from rfl, ch_0, ch_nn] at e
    have h3 : ((q + 1 : Nat) : Int) ∣ sm q (fun k => (ch (q + 1) (k + 1) : Int) * (a : Int) ^ (k + 1)) := sm_dvd q (fun k hk => Int.dvd_mul_of_dvd_left (Int.natCast_dvd_natCast.mpr (ch_dvd hp (by omega) (by omega))))
    have e5 : ((a + 1 : Nat) : Int) ^ (q + 1) - ((a + 1 : Nat) : Int) = sm q (fun k => (ch (q + 1) (k + 1) : Int) * (a : Int) ^ (k + 1)) + ((a : Int) ^ (q + 1) - a) := by
      rw [Int.natCast_add]
      show ((a : Int) + 1) ^ (q + 1) - ((a : Int) + 1) = _
      rw [e]
      grind
    rw [e5]
    exact Int.dvd_add h3 ih
theorem fermat {p x : Nat} (hp : PrimeN p) (h0 : 0 < x) (h1 : x < p) : x * (x ^ (p - 2) % p) % p = 1 := by
  have h2 := hp.1
  obtain ⟨q, rfl⟩ : ∃ q, p = q + 2 := ⟨p - 2, by omega⟩
  have h3 := fer hp x
  have e1 : (x : Int) ^ (q + 2) - x = (x : Int) * ((x : Int) ^ (q + 1) - 1) := by
    rw [Int.pow_succ]
    grind
  rw [e1] at h3
  have e2 : ((x : Int) ^ (q + 1) - 1) = ((x ^ (q + 1) - 1 : Nat) : Int) := by
    have : 1 ≤ x ^ (q + 1) := Nat.pos_of_ne_zero (fun z => by have := Nat.pow_eq_zero.mp z; omega)
    rw [Int.natCast_sub this, Int.natCast_pow]
    rfl
  rw [e2, ← Int.natCast_mul, Int.natCast_dvd_natCast] at h3
  have h4 : (q + 2) ∣ x ^ (q + 1) - 1 := (pn_cop hp h0 h1).dvd_of_dvd_mul_left h3
  have h5 : 1 ≤ x ^ (q + 1) := Nat.pos_of_ne_zero (fun z => by have := Nat.pow_eq_zero.mp z; omega)
  obtain ⟨k, hk⟩ := h4
  rw [show q + 2 - 2 = q by omega, Nat.mul_mod, Nat.mod_mod, ← Nat.mul_mod, Nat.mul_comm, ← Nat.pow_succ, show x ^ (q + 1) = 1 + (q + 2) * k by omega, Nat.add_mul_mod_self_left]
  exact Nat.mod_eq_of_lt (by omega)
