/-! matrices of numbers, and how an array holds one -/
abbrev Mat : Type := Nat → Nat → Nat
def mu (M : Mat) (i k x : Nat) : Mat := fun a b => if a = i ∧ b = k then x else M a b
def swp (M : Mat) (r s : Nat) : Mat := fun i k => if i = r then M s k else if i = s then M r k else M i k
def scl (P : Nat) (M : Mat) (r f : Nat) : Mat := fun i k => if i = r then M i k * f % P else M i k
def tkr (P : Nat) (M : Mat) (r i0 g : Nat) : Mat := fun i k => if i = i0 then (M i k + g * M r k) % P else M i k
def clr (P : Nat) (M : Mat) (r c : Nat) : Mat := fun i k => if i = r then M i k else (M i k + (P - M i c) * M r k) % P
/-- the first j columns of the one, the others of the other -/
def col2 (j : Nat) (M N : Mat) : Mat := fun i k => if k < j then M i k else N i k
/-- the first i rows of the one, the others of the other -/
def row2 (j : Nat) (M N : Mat) : Mat := fun i k => if i < j then M i k else N i k
def ng (P t : Nat) : Nat := if t = 0 then 0 else P - t
def bnd (P : Nat) (M : Mat) : Prop := ∀ i k, M i k < P
def Rp (w m : Nat) (f : Nat → Int32) (M : Mat) : Prop := ∀ i, i < m → ∀ k, k < w → f (i * w + k) = nI (M i k)
theorem Rp.up {w m : Nat} {f : Nat → Int32} {M : Mat} (h : Rp w m f M) {i k x : Nat} (hk : k < w) : Rp w m (upd f (i * w + k) (nI x)) (mu M i k x) := by
  intro a ha b hb
  unfold upd mu
  by_cases q : a * w + b = i * w + k
  · obtain ⟨rfl, rfl⟩ := ix_inj hb hk q
    simp
  · rw [if_neg q, if_neg (fun z => q (by rw [z.1, z.2])), h a ha b hb]
theorem Rp.congr {w m : Nat} {f : Nat → Int32} {M N : Mat} (h : Rp w m f M) (e : ∀ i, i < m → ∀ k, k < w → M i k = N i k) : Rp w m f N := fun i hi k hk => by rw [h i hi k hk, e i hi k hk]
theorem Rp.col0 {w m : Nat} {f : Nat → Int32} {M N : Mat} (h : Rp w m f N) : Rp w m f (col2 0 M N) := h.congr (fun i _ k _ => by simp [col2])
theorem Rp.colw {w m : Nat} {f : Nat → Int32} {M N : Mat} {j : Nat} (hj : w ≤ j) (h : Rp w m f (col2 j M N)) : Rp w m f M := h.congr (fun i _ k hk => by simp [col2, show k < j by omega])
theorem Rp.row0 {w m : Nat} {f : Nat → Int32} {M N : Mat} (h : Rp w m f N) : Rp w m f (row2 0 M N) := h.congr (fun i _ k _ => by simp [row2])
theorem Rp.rowm {w m : Nat} {f : Nat → Int32} {M N : Mat} {j : Nat} (hj : m ≤ j) (h : Rp w m f (row2 j M N)) : Rp w m f M := h.congr (fun i hi k _ => by simp [row2, show i < j by omega])
/-- one step of the changing of places, of the multiplying, of the taking -/
theorem st_swp {w m : Nat} {f : Nat → Int32} {M : Mat} {r s j : Nat} (hj : j < w) (h : Rp w m f (col2 j (swp M r s) M)) : Rp w m (upd (upd f (r * w + j) (nI (col2 j (swp M r s) M s j))) (s * w + j) (nI (col2 j (swp M r s) M r j))) (col2 (j + 1) (swp M r s) M) := by
  refine ((h.up hj).up hj).congr ?_
  intro a _ b _
  simp only [mu, col2, swp]
  by_cases h1 : b = j
  · subst h1
    by_cases h2 : a = r
    · subst h2
      by_cases h3 : a = s
      · subst h3
        simp
      · simp [h3]
    · by_cases h3 : a = s
      · subst h3
        simp [h2]
      · simp [h2, h3]
  · by_cases h2 : b < j
    · simp [h1, h2, show b < j + 1 by omega]
    · simp [h1, h2, show ¬ b < j + 1 by omega]
theorem st_scl {w m P : Nat} {f : Nat → Int32} {M : Mat} {r fc j : Nat} (hj : j < w) (h : Rp w m f (col2 j (scl P M r fc) M)) : Rp w m (upd f (r * w + j) (nI (col2 j (scl P M r fc) M r j * fc % P))) (col2 (j + 1) (scl P M r fc) M) := by
  refine (h.up hj).congr ?_
  intro a _ b _
  simp only [mu, col2, scl]
  by_cases h1 : b = j
  · subst h1
    by_cases h2 : a = r
    · subst h2
      simp
    · simp [h2]
  · by_cases h2 : b < j
    · simp [h1, h2, show b < j + 1 by omega]
    · simp [h1, h2, show ¬ b < j + 1 by omega]
theorem st_tkr {w m P : Nat} {f : Nat → Int32} {M : Mat} {r i0 g j : Nat} (hj : j < w) (h : Rp w m f (col2 j (tkr P M r i0 g) M)) : Rp w m (upd f (i0 * w + j) (nI ((col2 j (tkr P M r i0 g) M i0 j + g * col2 j (tkr P M r i0 g) M r j) % P))) (col2 (j + 1) (tkr P M r i0 g) M) := by
  refine (h.up hj).congr ?_
  intro a _ b _
  simp only [mu, col2, tkr]
  by_cases h1 : b = j
  · subst h1
    by_cases h2 : a = i0
    · subst h2
      simp
    · simp [h2]
  · by_cases h2 : b < j
    · simp [h1, h2, show b < j + 1 by omega]
    · simp [h1, h2, show ¬ b < j + 1 by omega]
theorem col2_at {j : Nat} {M N : Mat} {i : Nat} : col2 j M N i j = N i j := by simp [col2]
theorem bn_swp {P : Nat} {M : Mat} (h : bnd P M) (r s : Nat) : bnd P (swp M r s) := by
  intro i k
  simp only [swp]
  split
  · exact h _ _
  · split
    · exact h _ _
    · exact h _ _
theorem bn_scl {P : Nat} {M : Mat} (h0 : 0 < P) (h : bnd P M) (r f : Nat) : bnd P (scl P M r f) := by
  intro i k
  simp only [scl]
  split
  · exact Nat.mod_lt _ h0
  · exact h _ _
theorem bn_tkr {P : Nat} {M : Mat} (h0 : 0 < P) (h : bnd P M) (r i0 g : Nat) : bnd P (tkr P M r i0 g) := by
  intro i k
  simp only [tkr]
  split
  · exact Nat.mod_lt _ h0
  · exact h _ _
theorem bn_clr {P : Nat} {M : Mat} (h0 : 0 < P) (h : bnd P M) (r c : Nat) : bnd P (clr P M r c) := by
  intro i k
  simp only [clr]
  split
  · exact h _ _
  · exact Nat.mod_lt _ h0
theorem bn_col2 {P : Nat} {M N : Mat} (h : bnd P M) (h' : bnd P N) (j : Nat) : bnd P (col2 j M N) := by
  intro i k
  simp only [col2]
  split
  · exact h _ _
  · exact h' _ _
theorem bn_row2 {P : Nat} {M N : Mat} (h : bnd P M) (h' : bnd P N) (j : Nat) : bnd P (row2 j M N) := by
  intro i k
  simp only [row2]
  split
  · exact h _ _
  · exact h' _ _
theorem ng_lt {P t : Nat} (h0 : 0 < P) : ng P t < P := by
  unfold ng
  split <;> omega
theorem mul_b {a b : Nat} (ha : a < 2 ^ 31) (hb : b < 2 ^ 31) : a * b < 2 ^ 63 := Nat.lt_of_lt_of_le (Nat.mul_lt_mul'' ha hb) (by decide)
theorem mul_b2 {a b c : Nat} (hc : c < 2 ^ 32) (ha : a ≤ 2 ^ 31) (hb : b < 2 ^ 31) : c + a * b < 2 ^ 63 := by
  have h : a * b ≤ 2 ^ 31 * 2 ^ 31 := Nat.mul_le_mul ha (by omega)
  have h2 : (2 : Nat) ^ 31 * 2 ^ 31 = 2 ^ 62 := by decide
  omega
/-- the taking of a row in the class's words, and in the reference's -/
theorem tk_ng {P x y t : Nat} (hx : x < P) : (x + ng P t * y) % P = (x + (P - t) * y) % P := by
  unfold ng
  split
  · subst t
    rw [Nat.zero_mul, Nat.sub_zero, Nat.add_zero, Nat.add_mul_mod_self_left]
  · rfl
/-- one row more of the clearing -/
theorem st_clr {w m P : Nat} {f : Nat → Int32} {M : Mat} {r c j : Nat} (hb : bnd P M) (hj : ¬ j = r) (h : Rp w m f (tkr P (row2 j (clr P M r c) M) r j (ng P (row2 j (clr P M r c) M j c)))) : Rp w m f (row2 (j + 1) (clr P M r c) M) := by
  refine h.congr ?_
  intro a _ b _
  have e1 : row2 j (clr P M r c) M r b = M r b := by
    simp only [row2, clr]
    split <;> simp
  have e2 : row2 j (clr P M r c) M j c = M j c := by simp [row2]
  have e3 : row2 j (clr P M r c) M j b = M j b := by simp [row2]
  simp only [tkr]
  by_cases h1 : a = j
  · subst h1
    rw [if_pos rfl, e1, e2, e3, tk_ng (hb _ _)]
    simp [row2, clr, hj]
  · rw [if_neg h1]
    by_cases h2 : a < j
    · simp [row2, h2, show a < j + 1 by omega]
    · simp [row2, h2, show ¬ a < j + 1 by omega]
theorem st_clrE {w m P : Nat} {f : Nat → Int32} {M : Mat} {r c j : Nat} (hj : j = r) (h : Rp w m f (row2 j (clr P M r c) M)) : Rp w m f (row2 (j + 1) (clr P M r c) M) := by
  refine h.congr ?_
  intro a _ b _
  by_cases h1 : a = j
  · subst h1
    simp [row2, clr, hj]
  · by_cases h2 : a < j
    · simp [row2, h2, show a < j + 1 by omega]
    · simp [row2, h2, show ¬ a < j + 1 by omega]
/-- a matrix laid down place by place -/
def Rpp (w i j : Nat) (f : Nat → Int32) (M : Mat) : Prop := ∀ a b, b < w → (a < i ∨ (a = i ∧ b < j)) → f (a * w + b) = nI (M a b)
theorem Rpp.put {w i j : Nat} {f : Nat → Int32} {M : Mat} (h : Rpp w i j f M) (hj : j < w) {q x : Nat} (hq : q = i * w + j) (hx : x = M i j) : Rpp w i (j + 1) (upd f q (nI x)) M := by
  subst hq hx
  intro a b hb hab
  unfold upd
  by_cases e : a * w + b = i * w + j
  · obtain ⟨rfl, rfl⟩ := ix_inj hb hj e
    simp
  · rw [if_neg e]
    refine h a b hb ?_
    rcases hab with q | ⟨rfl, q⟩
    · exact Or.inl q
    · refine Or.inr ⟨rfl, ?_⟩
      rcases Nat.lt_or_ge b j with z | z
      · exact z
      · exact absurd (by rw [show b = j by omega]) e
theorem Rpp.next {w i : Nat} {f : Nat → Int32} {M : Mat} {j : Nat} (hj : j = w) (h : Rpp w i j f M) : Rpp w (i + 1) 0 f M := by
  intro a b hb hab
  refine h a b hb ?_
  rcases hab with q | ⟨_, q⟩
  · rcases Nat.lt_or_ge a i with z | z
    · exact Or.inl z
    · exact Or.inr ⟨by omega, by omega⟩
  · omega
theorem Rpp.all {w m : Nat} {f : Nat → Int32} {M : Mat} {i : Nat} (hi : m ≤ i) (h : Rpp w i 0 f M) : Rp w m f M := fun a ha b hb => h a b hb (Or.inl (by omega))
/-- the search for the first row with a number other than 0 in a column -/
def fnd (M : Mat) (c : Nat) : Nat → Nat → Nat
  | 0, r => r
  | d + 1, r => if M r c = 0 then fnd M c d (r + 1) else r
theorem fnd_le (M : Mat) (c : Nat) : ∀ d r, fnd M c d r ≤ r + d ∧ r ≤ fnd M c d r := by
  intro d
  induction d with
  | zero => intro r; simp [fnd]
  | succ d ih =>
    intro r
    simp only [fnd]
    split
    · have := ih (r + 1)
      omega
    · omega
theorem fnd_z {M : Mat} {c m r : Nat} (h : r < m) (z : M r c = 0) : fnd M c (m - r) r = fnd M c (m - (r + 1)) (r + 1) := by
  rw [show m - r = (m - (r + 1)) + 1 by omega]
  simp [fnd, z]
theorem fnd_n {M : Mat} {c m r : Nat} (h : r < m) (z : M r c ≠ 0) : fnd M c (m - r) r = r := by
  rw [show m - r = (m - (r + 1)) + 1 by omega]
  simp [fnd, z]
theorem fnd_e {M : Mat} {c m r : Nat} (h : m ≤ r) : fnd M c (m - r) r = r := by
  rw [show m - r = 0 by omega]
  rfl
/-- powers -/
theorem pw_odd {P p q e : Nat} (h : e % 2 = 1) : (p * q % P) * (q * q % P) ^ (e / 2) % P = p * q ^ e % P := by
  rw [Nat.mul_mod, Nat.pow_mod, Nat.mod_mod, Nat.mod_mod, ← Nat.pow_mod, ← Nat.mul_mod, ← Nat.pow_two, ← Nat.pow_mul, Nat.mul_assoc, Nat.mul_comm q, ← Nat.pow_succ]
  congr 3
  omega
theorem pw_even {P p q e : Nat} (h : ¬ e % 2 = 1) : p * (q * q % P) ^ (e / 2) % P = p * q ^ e % P := by
  rw [Nat.mul_mod, Nat.pow_mod, Nat.mod_mod, ← Nat.pow_mod, ← Nat.mul_mod, ← Nat.pow_two, ← Nat.pow_mul]
  congr 3
  omega
/-- number row of T b -/
def chg (P : Nat) (T b : Nat → Nat) : Nat → Nat
  | 0 => 0
  | k + 1 => (chg P T b k + T k * b k) % P
theorem chg_lt {P : Nat} (h : 0 < P) (T b : Nat → Nat) : ∀ k, chg P T b k < P := by
  intro k
  cases k with
  | zero => exact h
  | succ k => exact Nat.mod_lt _ h
