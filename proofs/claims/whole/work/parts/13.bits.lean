/-! bits by numbers (nx_xor, pf_lI, pf_shr and g_and1's kin began as rows of BITS.to-paste) -/
theorem bq_s : ∀ n, n < 32 → ((nI n &&& 31).toBitVec.smod 32).toNat = n := by decide +kernel
theorem bq_l : ∀ n, n < 64 → (((nI n).toInt64 &&& 63).toBitVec.smod 64).toNat = n := by decide +kernel
theorem bq_xor (a b : Nat) : nI a ^^^ nI b = nI (a ^^^ b) := by
  apply Int32.toBitVec_inj.1
  show BitVec.ofNat 32 a ^^^ BitVec.ofNat 32 b = BitVec.ofNat 32 (a ^^^ b)
  apply BitVec.eq_of_getLsbD_eq
  intro i hi
  simp [hi]
theorem bq_shr {a d : Nat} {D : Int64} (hD : (D.toBitVec.smod 64).toNat = d) (h : a < 2 ^ 62) : lN a >>> D = lN (a / 2 ^ d) := by
  have hd : a / 2 ^ d ≤ a := Nat.div_le_self _ _
  apply Int64.toInt_inj.mp
  have e : (lN a >>> D).toInt = (lN a).toInt >>> d := by
    rw [← hD]
    exact BitVec.toInt_sshiftRight ..
  rw [e, Int.shiftRight_eq_div_pow, pk_lT (by omega), pk_lT (by omega)]
  rfl
theorem bq_and1 (a : Nat) : lN a &&& lN 1 = lN (a % 2) := by
  apply Int64.toBitVec_inj.1
  show BitVec.ofNat 64 a &&& BitVec.ofNat 64 1 = BitVec.ofNat 64 (a % 2)
  apply BitVec.eq_of_toNat_eq
  rw [BitVec.toNat_and]
  simp only [BitVec.toNat_ofNat]
  rw [show 1 % 2 ^ 64 = 2 ^ 1 - 1 by decide, Nat.and_two_pow_sub_one_eq_mod]
  omega
section BQ
variable {p : Program} {l : Launch} {e : Env} {R : Room} {s : State} {m : MethodId} {args : Array Value} {below : List Frame} {meth : Method} {c : Code} {H : Heap} {locs : List Loc} {cells slots : Nat} {Q : State → Prop} {cc : ByteArray} {pc : Nat} {ls : Array Slot} {rest : List Value}
theorem nv_ishl (hx : p.tables.exec = Jvm.exec) (hb : c.code = cc) {a k : Nat} (hk : k < 32) (h : a * 2 ^ k < 2 ^ 32) (hdg : decode cc pc = .ok (.ishl, 1))
    (kk : W p l e R s m args below meth c H locs cells slots Q (F0 m (pc + 1) ls (.int (nI (a * 2 ^ k)) :: rest))) : W p l e R s m args below meth c H locs cells slots Q (F0 m pc ls (.int (nI k) :: .int (nI a) :: rest)) := by
  refine lv_ishl hx hb hdg ?_
  rw [pk_shlN _ k (bq_s k hk) h]
  exact kk
theorem nv_ishr (hx : p.tables.exec = Jvm.exec) (hb : c.code = cc) {a k : Nat} (hk : k < 32) (h : a < 2 ^ 31) (hdg : decode cc pc = .ok (.ishr, 1))
    (kk : W p l e R s m args below meth c H locs cells slots Q (F0 m (pc + 1) ls (.int (nI (a / 2 ^ k)) :: rest))) : W p l e R s m args below meth c H locs cells slots Q (F0 m pc ls (.int (nI k) :: .int (nI a) :: rest)) := by
  refine lv_ishr hx hb hdg ?_
  rw [pk_shrN h _ k (bq_s k hk)]
  exact kk
theorem nv_ixor (hx : p.tables.exec = Jvm.exec) (hb : c.code = cc) {a b : Nat} (hdg : decode cc pc = .ok (.ixor, 1))
    (kk : W p l e R s m args below meth c H locs cells slots Q (F0 m (pc + 1) ls (.int (nI (a ^^^ b)) :: rest))) : W p l e R s m args below meth c H locs cells slots Q (F0 m pc ls (.int (nI b) :: .int (nI a) :: rest)) := by
  refine lv_ixor hx hb hdg ?_
  rw [bq_xor]
  exact kk
theorem nv_lshr (hx : p.tables.exec = Jvm.exec) (hb : c.code = cc) {a k : Nat} (hk : k < 64) (h : a < 2 ^ 62) (hdg : decode cc pc = .ok (.lshr, 1))
    (kk : W p l e R s m args below meth c H locs cells slots Q (F0 m (pc + 1) ls (.long (lN (a / 2 ^ k)) :: rest))) : W p l e R s m args below meth c H locs cells slots Q (F0 m pc ls (.int (nI k) :: .long (lN a) :: rest)) :=
  lv_lshr hx hb hdg (bq_shr (bq_l k hk) h) kk
theorem nv_land1 (hx : p.tables.exec = Jvm.exec) (hb : c.code = cc) {a : Nat} (hdg : decode cc pc = .ok (.land, 1))
    (kk : W p l e R s m args below meth c H locs cells slots Q (F0 m (pc + 1) ls (.long (lN (a % 2)) :: rest))) : W p l e R s m args below meth c H locs cells slots Q (F0 m pc ls (.long (lN 1) :: .long (lN a) :: rest)) := by
  refine lv_land hx hb hdg ?_
  rw [bq_and1]
  exact kk
end BQ
/-- a counter that goes down to -1: its number, one more -/
def dn (j : Nat) : Int32 := nI j + Int32.ofInt (-1)
theorem dn_s (k : Nat) : dn (k + 1) = nI k := pk_m1 k
theorem dn_lt {j : Nat} (hj : j ≤ 2 ^ 31) (h : dn j < 0) : j = 0 := by
  cases j with
  | zero => rfl
  | succ k =>
    rw [dn_s] at h
    exact absurd h (nI_pos (by omega))
theorem dn_ge {j : Nat} (h : ¬ dn j < 0) : ∃ k, j = k + 1 := by
  cases j with
  | zero => exact absurd (show dn 0 < 0 by decide +kernel) h
  | succ k => exact ⟨k, rfl⟩
/-! the reference's rows: 20 long numbers each -/
def Rq (m : Nat) (g : Nat → Int64) (M : Mat) : Prop := ∀ i, i < m → ∀ k, k < 20 → g (20 * i + k) = lN (M i k)
theorem Rq.up {m : Nat} {g : Nat → Int64} {M : Mat} (h : Rq m g M) {i k x : Nat} (hk : k < 20) : Rq m (vp_updL g (20 * i + k) (lN x)) (mu M i k x) := by
  intro a ha b hb
  unfold vp_updL mu
  by_cases q : 20 * a + b = 20 * i + k
  · obtain ⟨rfl, rfl⟩ : a = i ∧ b = k := by omega
    simp
  · rw [if_neg q, if_neg (fun z => q (by rw [z.1, z.2])), h a ha b hb]
theorem Rq.congr {m : Nat} {g : Nat → Int64} {M N : Mat} (h : Rq m g M) (e : ∀ i, i < m → ∀ k, k < 20 → M i k = N i k) : Rq m g N := fun i hi k hk => by rw [h i hi k hk, e i hi k hk]
theorem Rq.col0 {m : Nat} {g : Nat → Int64} {M N : Mat} (h : Rq m g N) : Rq m g (col2 0 M N) := h.congr (fun i _ k _ => by simp [col2])
theorem Rq.colw {m : Nat} {g : Nat → Int64} {M N : Mat} {j : Nat} (hj : 20 ≤ j) (h : Rq m g (col2 j M N)) : Rq m g M := h.congr (fun i _ k hk => by simp [col2, show k < j by omega])
theorem Rq.row0 {m : Nat} {g : Nat → Int64} {M N : Mat} (h : Rq m g N) : Rq m g (row2 0 M N) := h.congr (fun i _ k _ => by simp [row2])
theorem Rq.rowm {m : Nat} {g : Nat → Int64} {M N : Mat} {j : Nat} (hj : m ≤ j) (h : Rq m g (row2 j M N)) : Rq m g M := h.congr (fun i hi k _ => by simp [row2, show i < j by omega])
theorem sq_swp {m : Nat} {g : Nat → Int64} {M : Mat} {r s j : Nat} (hj : j < 20) (h : Rq m g (col2 j (swp M r s) M)) : Rq m (vp_updL (vp_updL g (20 * r + j) (lN (col2 j (swp M r s) M s j))) (20 * s + j) (lN (col2 j (swp M r s) M r j))) (col2 (j + 1) (swp M r s) M) := by
  refine ((h.up hj).up hj).congr ?_
  intro a _ b _
  simp only [mu, col2, swp]
  by_cases h1 : b = j
  · subst h1
    by_cases h2 : a = r
    · subst h2
      by_cases h3 : a = s
      · subst h3
        simp
      · simp [h3]
    · by_cases h3 : a = s
      · subst h3
        simp [h2]
      · simp [h2, h3]
  · by_cases h2 : b < j
    · simp [h1, h2, show b < j + 1 by omega]
    · simp [h1, h2, show ¬ b < j + 1 by omega]
theorem sq_scl {m P : Nat} {g : Nat → Int64} {M : Mat} {r fc j : Nat} (hj : j < 20) (h : Rq m g (col2 j (scl P M r fc) M)) : Rq m (vp_updL g (20 * r + j) (lN (col2 j (scl P M r fc) M r j * fc % P))) (col2 (j + 1) (scl P M r fc) M) := by
  refine (h.up hj).congr ?_
  intro a _ b _
  simp only [mu, col2, scl]
  by_cases h1 : b = j
  · subst h1
    by_cases h2 : a = r
    · subst h2
      simp
    · simp [h2]
  · by_cases h2 : b < j
    · simp [h1, h2, show b < j + 1 by omega]
    · simp [h1, h2, show ¬ b < j + 1 by omega]
theorem sq_tkr {m P : Nat} {f : Nat → Int64} {M : Mat} {r i0 g j : Nat} (hj : j < 20) (h : Rq m f (col2 j (tkr P M r i0 g) M)) : Rq m (vp_updL f (20 * i0 + j) (lN ((col2 j (tkr P M r i0 g) M i0 j + g * col2 j (tkr P M r i0 g) M r j) % P))) (col2 (j + 1) (tkr P M r i0 g) M) := by
  refine (h.up hj).congr ?_
  intro a _ b _
  simp only [mu, col2, tkr]
  by_cases h1 : b = j
  · subst h1
    by_cases h2 : a = i0
    · subst h2
      simp
    · simp [h2]
  · by_cases h2 : b < j
    · simp [h1, h2, show b < j + 1 by omega]
    · simp [h1, h2, show ¬ b < j + 1 by omega]
/-- one row more of the clearing; the pivot's own row is taken P - 0 times -/
theorem sq_clr {m P : Nat} {g : Nat → Int64} {M : Mat} {r c j t : Nat} (hb : bnd P M) (ht : t = if j = r then 0 else row2 j (clr P M r c) M j c) (h : Rq m g (tkr P (row2 j (clr P M r c) M) r j (P - t))) : Rq m g (row2 (j + 1) (clr P M r c) M) := by
  refine h.congr ?_
  intro a _ b _
  have e1 : row2 j (clr P M r c) M r b = M r b := by
    simp only [row2, clr]
    split <;> simp
  have e2 : row2 j (clr P M r c) M j c = M j c := by simp [row2]
  have e3 : row2 j (clr P M r c) M j b = M j b := by simp [row2]
  rw [e2] at ht
  simp only [tkr]
  by_cases h1 : a = j
  · subst h1
    rw [if_pos rfl, e1, e3]
    by_cases h2 : a = r
    · subst h2
      rw [if_pos rfl] at ht
      rw [ht, Nat.sub_zero, Nat.add_mul_mod_self_left, Nat.mod_eq_of_lt (hb _ _)]
      simp [row2, clr]
    · rw [if_neg h2] at ht
      rw [ht]
      simp [row2, clr, h2]
  · rw [if_neg h1]
    by_cases h2 : a < j
    · simp [row2, h2, show a < j + 1 by omega]
    · simp [row2, h2, show ¬ a < j + 1 by omega]
/-- the laying down, two places at a time -/
def Rqq (i j : Nat) (g : Nat → Int64) (M : Mat) : Prop := ∀ a b, b < 20 → (a < i ∨ (a = i ∧ (b < j ∨ (10 ≤ b ∧ b < 10 + j)))) → g (20 * a + b) = lN (M a b)
theorem Rqq.put {i j : Nat} {g : Nat → Int64} {M : Mat} (h : Rqq i j g M) (hj : j < 10) {q x y : Nat} (hq : q = 20 * i + (10 + j)) (hx : x = M i j) (hy : y = M i (10 + j)) : Rqq i (j + 1) (vp_updL (vp_updL g (20 * i + j) (lN x)) q (lN y)) M := by
  subst hq hx hy
  intro a b hb hab
  unfold vp_updL
  by_cases e : 20 * a + b = 20 * i + (10 + j)
  · obtain ⟨rfl, rfl⟩ : a = i ∧ b = 10 + j := by omega
    simp
  · rw [if_neg e]
    by_cases e2 : 20 * a + b = 20 * i + j
    · obtain ⟨rfl, rfl⟩ : a = i ∧ b = j := by omega
      simp
    · rw [if_neg e2]
      exact h a b hb (by omega)
theorem Rqq.next {i j : Nat} {g : Nat → Int64} {M : Mat} (hj : j = 10) (h : Rqq i j g M) : Rqq (i + 1) 0 g M := fun a b hb hab => h a b hb (by omega)
theorem Rqq.all {m : Nat} {g : Nat → Int64} {M : Mat} {i : Nat} (hi : m ≤ i) (h : Rqq i 0 g M) : Rq m g M := fun a ha b hb => h a b hb (Or.inl (by omega))
/-- the power by squares from the top -/
theorem pt_step {P x t k : Nat} : (x ^ (t / 2 ^ (k + 1)) % P) * (x ^ (t / 2 ^ (k + 1)) % P) % P = x ^ (2 * (t / 2 ^ (k + 1))) % P := by
  rw [← Nat.mul_mod, ← Nat.pow_add]
  congr 2
  omega
theorem pt_half {t k : Nat} : t / 2 ^ k = 2 * (t / 2 ^ (k + 1)) + t / 2 ^ k % 2 := by
  rw [Nat.pow_succ, ← Nat.div_div_eq_div_mul]
  omega
theorem pt_1 {P x t k : Nat} (h : t / 2 ^ k % 2 = 1) : (x ^ (2 * (t / 2 ^ (k + 1))) % P) * x % P = x ^ (t / 2 ^ k) % P := by
  have e : x ^ (t / 2 ^ k) = x ^ (2 * (t / 2 ^ (k + 1))) * x := by
    rw [← Nat.pow_succ]
    congr 1
    have := pt_half (t := t) (k := k)
    omega
  rw [e, Nat.mul_mod, Nat.mod_mod, ← Nat.mul_mod]
theorem pt_0 {P x t k : Nat} (h : ¬ t / 2 ^ k % 2 = 1) : x ^ (2 * (t / 2 ^ (k + 1))) % P = x ^ (t / 2 ^ k) % P := by
  congr 2
  have := pt_half (t := t) (k := k)
  omega
/-- what the reference's loop for primes knows -/
def AllUp (v d : Nat) : Prop := ∀ e, 2 ≤ e → e < d → v % e ≠ 0
theorem au_step {v d : Nat} (h : AllUp v d) (hne : v % d ≠ 0) : AllUp v (d + 1) := by
  intro e h1 h2
  rcases Nat.lt_or_ge e d with q | q
  · exact h e h1 q
  · rw [show e = d by omega]
    exact hne
theorem au_yes {v d : Nat} (hv2 : 2 ≤ v) (hv : v < 2 ^ 31) (h : AllUp v d) (hgt : v < d * d) : IsPr (nI v) (nI 1) := by
  refine Or.inl ⟨v, hv, ⟨hv2, fun e h1 h2 h3 => ?_⟩, rfl, rfl⟩
  refine h e h1 ?_ h3
  rcases Nat.lt_or_ge e d with q | q
  · exact q
  · have : d * d ≤ e * e := Nat.mul_le_mul q q
    omega
theorem au_le {i : Int32} (h : i ≤ nI 1) : IsPr i (nI 0) := pr_small (by
  rw [Int32.le_iff_toInt_le, nI_toInt (by decide)] at h
  rw [Int32.lt_iff_toInt_lt, nI_toInt (by decide)]
  omega)
theorem au_gt {i : Int32} (h : ¬ i ≤ nI 1) : ∃ v : Nat, 2 ≤ v ∧ v < 2 ^ 31 ∧ i = nI v := pr_ge (by
  rw [Int32.le_iff_toInt_le, nI_toInt (by decide)] at h
  rw [Int32.lt_iff_toInt_lt, nI_toInt (by decide)]
  omega)
/-- whether two places are there: the numbers and 1, or 0 -/
def Isin2 (m n : Nat) (i j : Int32) (V : Prop) (r : Int32) : Prop := (∃ k1 k2 : Nat, k1 < m ∧ k2 < n ∧ i = nI k1 ∧ j = nI k2 ∧ V ∧ r = nI 1) ∨ (¬ (inb m i = true ∧ inb n j = true) ∧ r = nI 0)
/-- the reference's fields when it is valid, when it is reduced -/
def MdV (pj : Int64) (mi ni : Int32) (P mR nC : Nat) : Prop := mi = nI mR ∧ ni = nI nC ∧ pj = lN P ∧ 2 ≤ P ∧ P < 2 ^ 31 ∧ 1 ≤ mR ∧ mR ≤ 10 ∧ 1 ≤ nC ∧ nC ≤ 10
def MdQ (P mR nC rk : Nat) (gR : Nat → Int64) (gP : Nat → Int32) (M : Mat) (pc : Nat → Nat) : Prop :=
  Rq mR gR M ∧ bnd P M ∧ rk ≤ mR ∧ rk ≤ nC ∧ (∀ i, i < rk → gP i = nI (pc i)) ∧ (∀ i, i < rk → pc i < nC) ∧ cnt (rowOf pc rk) nC + rk = nC
