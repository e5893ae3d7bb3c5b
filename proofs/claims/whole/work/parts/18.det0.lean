/-! the determinant by rows: sums over columns, over sets of columns -/
def sm : Nat → (Nat → Int) → Int
  | 0, _ => 0
  | n + 1, f => sm n f + f n
theorem sm_congr {f g : Nat → Int} : ∀ n, (∀ c, c < n → f c = g c) → sm n f = sm n g := by
  intro n
  induction n with
  | zero => intro _; rfl
  | succ n ih => intro h; simp only [sm]; rw [ih (fun c hc => h c (by omega)), h n (by omega)]
theorem sm_zero {f : Nat → Int} : ∀ n, (∀ c, c < n → f c = 0) → sm n f = 0 := by
  intro n
  induction n with
  | zero => intro _; rfl
  | succ n ih => intro h; simp only [sm]; rw [ih (fun c hc => h c (by omega)), h n (by omega)]; rfl
theorem sm_add (f g : Nat → Int) : ∀ n, sm n (fun c => f c + g c) = sm n f + sm n g := by
  intro n
  induction n with
  | zero => rfl
  | succ n ih => simp only [sm]; rw [ih]; omega
theorem sm_mul (x : Int) (f : Nat → Int) : ∀ n, sm n (fun c => x * f c) = x * sm n f := by
  intro n
  induction n with
  | zero => simp [sm]
  | succ n ih => simp only [sm]; rw [ih, Int.mul_add]
theorem sm_neg (f : Nat → Int) : ∀ n, sm n (fun c => - f c) = - sm n f := by
  intro n
  induction n with
  | zero => rfl
  | succ n ih => simp only [sm]; rw [ih]; omega
theorem sm_comm (f : Nat → Nat → Int) (k : Nat) : ∀ n, sm n (fun c => sm k (fun d => f c d)) = sm k (fun d => sm n (fun c => f c d)) := by
  intro n
  induction n with
  | zero => exact (sm_zero k (fun _ _ => rfl)).symm
  | succ n ih => simp only [sm]; rw [ih, ← sm_add]
theorem sm_anti {f : Nat → Nat → Int} {n : Nat} (h : ∀ c d, c < n → d < n → f c d = - f d c) : sm n (fun c => sm n (fun d => f c d)) = 0 := by
  have e1 := sm_comm f n n
  have e2 : sm n (fun d => sm n (fun c => f c d)) = - sm n (fun c => sm n (fun d => f c d)) := by
    rw [← sm_neg]
    refine sm_congr n (fun d hd => ?_)
    rw [← sm_neg]
    exact sm_congr n (fun c hc => h c d hc hd)
  omega
/-- the sum from column k on -/
def su (n : Nat) (f : Nat → Int) (k : Nat) : Int := sm n (fun c => if k ≤ c then f c else 0)
theorem su_0 (n : Nat) (f : Nat → Int) : su n f 0 = sm n f := sm_congr n (fun c _ => by simp)
theorem su_n {n : Nat} (f : Nat → Int) {k : Nat} (h : n ≤ k) : su n f k = 0 := sm_zero n (fun c hc => by rw [if_neg (by omega)])
theorem su_step (f : Nat → Int) {k : Nat} : ∀ n, k < n → su n f k = su n f (k + 1) + f k := by
  intro n
  induction n with
  | zero => intro h; omega
  | succ n ih =>
    intro h
    show su n f k + (if k ≤ n then f n else 0) = su n f (k + 1) + (if k + 1 ≤ n then f n else 0) + f k
    rcases Nat.lt_or_ge k n with q | q
    · rw [ih q, if_pos (by omega), if_pos (by omega)]
      omega
    · have e : k = n := by omega
      subst e
      rw [su_n f (Nat.le_refl _), su_n f (Nat.le_succ _), if_pos (Nat.le_refl _), if_neg (by omega)]
      omega
abbrev Cols : Type := Nat → Bool
/-- how many of a set's columns stand from k on -/
def cu (S : Cols) : Nat → Nat → Nat
  | 0, _ => 0
  | n + 1, k => cu S n k + (if k ≤ n ∧ S n = true then 1 else 0)
theorem cu_n {S : Cols} : ∀ n k, n ≤ k → cu S n k = 0 := by
  intro n
  induction n with
  | zero => intro k _; rfl
  | succ n ih => intro k h; simp only [cu]; rw [ih k (by omega), if_neg (by omega)]
theorem cu_step {S : Cols} {k : Nat} : ∀ n, k < n → cu S n k = cu S n (k + 1) + (if S k = true then 1 else 0) := by
  intro n
  induction n with
  | zero => intro h; omega
  | succ n ih =>
    intro h
    simp only [cu]
    rcases Nat.lt_or_ge k n with q | q
    · have h9 := ih q
      by_cases hs : S n = true
      · simp only [hs, and_true, show k ≤ n by omega, show k + 1 ≤ n by omega, if_true]
        omega
      · rw [if_neg (c := k ≤ n ∧ S n = true) (fun z => hs z.2), if_neg (c := k + 1 ≤ n ∧ S n = true) (fun z => hs z.2)]
        omega
    · have e : k = n := by omega
      subst e
      rw [cu_n k k (Nat.le_refl _), cu_n k (k + 1) (Nat.le_succ _)]
      by_cases hs : S k = true
      · rw [if_pos ⟨by omega, hs⟩, if_neg (by omega), if_pos hs]
      · rw [if_neg (fun z => hs z.2), if_neg (by omega), if_neg hs]
def del (S : Cols) (c : Nat) : Cols := fun j => S j && decide (j ≠ c)
theorem cu_del {S : Cols} {d : Nat} : ∀ n k, cu (del S d) n k + (if k ≤ d ∧ d < n ∧ S d = true then 1 else 0) = cu S n k := by
  intro n
  induction n with
  | zero => intro k; simp [cu]
  | succ n ih =>
    intro k
    have h9 := ih k
    have hd : del S d n = true ↔ S n = true ∧ n ≠ d := by simp [del]
    simp only [cu]
    by_cases e : n = d
    · subst e
      rw [if_neg (by omega)] at h9
      rw [if_neg (fun z => (hd.mp z.2).2 rfl)]
      by_cases hs : k ≤ n ∧ S n = true
      · rw [if_pos hs, if_pos ⟨hs.1, by omega, hs.2⟩]
        omega
      · rw [if_neg hs, if_neg (fun z => hs ⟨z.1, z.2.2⟩)]
        omega
    · have h8 : (k ≤ n ∧ del S d n = true) ↔ (k ≤ n ∧ S n = true) := by rw [hd]; exact ⟨fun z => ⟨z.1, z.2.1⟩, fun z => ⟨z.1, z.2, e⟩⟩
      have h7 : (k ≤ d ∧ d < n + 1 ∧ S d = true) ↔ (k ≤ d ∧ d < n ∧ S d = true) := ⟨fun z => ⟨z.1, by omega, z.2.2⟩, fun z => ⟨z.1, by omega, z.2.2⟩⟩
      simp only [h8, h7]
      omega
def sg (e : Nat) : Int := if e % 2 = 0 then 1 else -1
theorem sg_s (e : Nat) : sg (e + 1) = - sg e := by
  unfold sg
  by_cases h : e % 2 = 0
  · rw [if_neg (by omega), if_pos h]
  · rw [if_pos (by omega), if_neg h]
    rfl
abbrev MatZ : Type := Nat → Nat → Int
def DD (n : Nat) (A : MatZ) : Nat → Cols → Int
  | 0, _ => 1
  | r + 1, S => sm n (fun c => if S c = true then sg (cu S n (c + 1)) * A r c * DD n A r (del S c) else 0)
theorem DD_ext {n : Nat} {A B : MatZ} : ∀ r S, (∀ i, i < r → ∀ c, c < n → A i c = B i c) → DD n A r S = DD n B r S := by
  intro r
  induction r with
  | zero => intro S _; rfl
  | succ r ih =>
    intro S h
    simp only [DD]
    refine sm_congr n (fun c hc => ?_)
    rw [h r (by omega) c hc, ih (del S c) (fun i hi => h i (by omega))]
theorem cu_ext {S T : Cols} : ∀ n k, (∀ c, c < n → S c = T c) → cu S n k = cu T n k := by
  intro n
  induction n with
  | zero => intro k _; rfl
  | succ n ih => intro k h; simp only [cu]; rw [ih k (fun c hc => h c (by omega)), h n (by omega)]
theorem DD_extS {n : Nat} {A : MatZ} : ∀ r S T, (∀ c, c < n → S c = T c) → DD n A r S = DD n A r T := by
  intro r
  induction r with
  | zero => intro S T _; rfl
  | succ r ih =>
    intro S T h
    simp only [DD]
    refine sm_congr n (fun c hc => ?_)
    rw [h c hc, cu_ext n (c + 1) h, ih (del S c) (del T c) (fun j hj => by simp only [del]; rw [h j hj])]
/-- a row put in -/
def setR (A : MatZ) (i : Nat) (v : Nat → Int) : MatZ := fun a c => if a = i then v c else A a c
theorem DD_lin {n : Nat} {A : MatZ} {i : Nat} {x y : Int} {u v : Nat → Int} : ∀ r S, i < r → DD n (setR A i (fun c => x * u c + y * v c)) r S = x * DD n (setR A i u) r S + y * DD n (setR A i v) r S := by
  intro r
  induction r with
  | zero => intro S h; omega
  | succ r ih =>
    intro S h
    simp only [DD]
    rw [← sm_mul, ← sm_mul, ← sm_add]
    refine sm_congr n (fun c hc => ?_)
    by_cases hs : S c = true
    · rw [if_pos hs, if_pos hs, if_pos hs]
      rcases Nat.lt_or_ge i r with q | q
      · rw [ih (del S c) q]
        have e1 : ∀ w : Nat → Int, setR A i w r c = A r c := fun w => if_neg (by omega)
        rw [e1, e1, e1]
        grind
      · have e : i = r := by omega
        subst e
        have e0 : ∀ w w' : Nat → Int, DD n (setR A i w) i (del S c) = DD n (setR A i w') i (del S c) := fun w w' => DD_ext i _ (fun a ha d _ => by simp [setR, show a ≠ i by omega])
        rw [e0 (fun c => x * u c + y * v c) u, e0 v u]
        have e1 : ∀ w : Nat → Int, setR A i w i c = w c := fun w => if_pos rfl
        rw [e1, e1, e1]
        grind
    · rw [if_neg hs, if_neg hs, if_neg hs]
      simp
theorem del_comm (S : Cols) (c d : Nat) : del (del S c) d = del (del S d) c := by
  funext j
  simp only [del]
  cases S j <;> simp [Bool.and_comm]
theorem sg_pair {S : Cols} {n c d : Nat} (hc : S c = true) (hd : S d = true) (hcn : c < n) (hdn : d < n) (h : c < d) : sg (cu S n (c + 1)) * sg (cu (del S c) n (d + 1)) = - (sg (cu S n (d + 1)) * sg (cu (del S d) n (c + 1))) := by
  have e1 := cu_del (S := S) (d := c) n (d + 1)
  have e2 := cu_del (S := S) (d := d) n (c + 1)
  rw [if_neg (by omega)] at e1
  rw [if_pos ⟨by omega, hdn, hd⟩] at e2
  rw [← e2, sg_s, show cu (del S c) n (d + 1) = cu S n (d + 1) by omega]
  grind
theorem sg_pair' {S : Cols} {n c d : Nat} (hc : S c = true) (hd : S d = true) (hcn : c < n) (hdn : d < n) (h : c ≠ d) : sg (cu S n (c + 1)) * sg (cu (del S c) n (d + 1)) = - (sg (cu S n (d + 1)) * sg (cu (del S d) n (c + 1))) := by
  rcases Nat.lt_or_ge c d with q | q
  · exact sg_pair hc hd hcn hdn q
  · have := sg_pair hd hc hdn hcn (by omega)
    omega
theorem DD_adj {n : Nat} {A : MatZ} {k : Nat} (h : ∀ c, c < n → A (k + 1) c = A k c) : ∀ r S, k + 1 < r → DD n A r S = 0 := by
  intro r
  induction r with
  | zero => intro S q; omega
  | succ r ih =>
    intro S q
    simp only [DD]
    rcases Nat.lt_or_ge (k + 1) r with z | z
    · refine sm_zero n (fun c hc => ?_)
      split
      · rw [ih (del S c) z, Int.mul_zero]
      · rfl
    · have e : r = k + 1 := by omega
      subst e
      have e2 : sm n (fun c => if S c = true then sg (cu S n (c + 1)) * A (k + 1) c * DD n A (k + 1) (del S c) else 0) = sm n (fun c => sm n (fun d => if S c = true ∧ del S c d = true then sg (cu S n (c + 1)) * sg (cu (del S c) n (d + 1)) * (A k c * A k d) * DD n A k (del (del S c) d) else 0)) := by
        refine sm_congr n (fun c hc => ?_)
        by_cases hs : S c = true
        · rw [if_pos hs, h c hc]
          simp only [DD]
          rw [← sm_mul]
          refine sm_congr n (fun d hd => ?_)
          by_cases hs2 : del S c d = true
          · rw [if_pos hs2, if_pos ⟨hs, hs2⟩]
            grind
          · rw [if_neg hs2, if_neg (fun z => hs2 z.2), Int.mul_zero]
        · rw [if_neg hs]
          refine (sm_zero n (fun d hd => ?_)).symm
          rw [if_neg (fun z => hs z.1)]
      rw [e2]
      refine sm_anti (fun c d hc hd => ?_)
      by_cases hs : S c = true ∧ del S c d = true
      · have h2 : S d = true ∧ d ≠ c := by simpa [del] using hs.2
        have hs' : S d = true ∧ del S d c = true := ⟨h2.1, by simp [del, hs.1]; omega⟩
        rw [if_pos hs, if_pos hs', del_comm S d c]
        have := sg_pair' hs.1 h2.1 hc hd (by omega)
        grind
      · have hs' : ¬ (S d = true ∧ del S d c = true) := by
          intro z
          have z2 : S c = true ∧ c ≠ d := by simpa [del] using z.2
          exact hs ⟨z2.1, by simp [del, z.1]; omega⟩
        rw [if_neg hs, if_neg hs']
        rfl
