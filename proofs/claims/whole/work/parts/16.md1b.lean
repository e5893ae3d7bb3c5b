theorem cnt_mono (po : Nat → Option Nat) {i j : Nat} (h : i ≤ j) : cnt po i ≤ cnt po j := by
  induction j with
  | zero => rw [show i = 0 by omega]; exact Nat.le_refl _
  | succ j ih =>
    rcases Nat.lt_or_ge j i with q | q
    · rw [show i = j + 1 by omega]
      exact Nat.le_refl _
    · have := ih q
      simp only [cnt]
      omega
theorem cnt_free {po : Nat → Option Nat} {i j : Nat} (h : i < j) (hi : po i = none) : cnt po i < cnt po j := by
  have h1 := cnt_mono po (show i + 1 ≤ j from h)
  have h2 : cnt po (i + 1) = cnt po i + 1 := by simp [cnt, hi]
  omega
theorem kth_none {po : Nat → Option Nat} {k : Int32} {n : Nat} (h : ∀ c, c < cnt po n → k ≠ nI c) : kth po k n 0 = none := by
  cases e : kth po k n 0 with
  | none => rfl
  | some f =>
    obtain ⟨-, h2, h3, h4⟩ := kth_lt _ _ _ e
    exact absurd h4.symm (h _ (cnt_free (by omega) h3))
theorem kth_some {po : Nat → Option Nat} {kk n : Nat} (h : kk < cnt po n) : ∀ d j, d = n - j → j ≤ n → cnt po j ≤ kk → ∃ f, kth po (nI kk) d j = some f := by
  intro d
  induction d with
  | zero =>
    intro j hd hj hc
    have := cnt_mono po (show n ≤ j by omega)
    omega
  | succ d ih =>
    intro j hd hj hc
    simp only [kth]
    by_cases q : po j = none ∧ nI (cnt po j) = nI kk
    · exact ⟨j, if_pos q⟩
    · rw [if_neg q]
      refine ih (j + 1) (by omega) (by omega) ?_
      simp only [cnt]
      split
      · rename_i hn
        rcases Nat.lt_or_ge (cnt po j) kk with z | z
        · omega
        · exact absurd ⟨hn, by rw [show cnt po j = kk by omega]⟩ q
      · omega
theorem sKer_no {rd P n : Nat} {M : Mat} {po : Nat → Option Nat} {k j : Int32} (h : kth po k n 0 = none) : sKer rd P n M po k j = -1 := by
  unfold sKer
  split
  · rw [h]
    rfl
  · rfl
theorem ng_mod {P x : Nat} (h : x < P) : (P - x) % P = ng P x := by
  unfold ng
  split
  · rename_i e
    subst e
    simp
  · exact Nat.mod_eq_of_lt (by omega)
/-- what the reduction keeps of its pivots -/
def pcOk (c : Nat) (q : RS) : Prop := (∀ i, i < q.2.1 → q.2.2.2 i < c) ∧ cnt (rowOf q.2.2.2 q.2.1) c + q.2.1 = c
theorem rowOf_none {pc : Nat → Nat} {r j : Nat} (h : ∀ i, i < r → pc i ≠ j) : rowOf pc r j = none := by
  induction r with
  | zero => rfl
  | succ r ih =>
    simp only [rowOf]
    rw [if_neg (h r (by omega)), ih (fun i hi => h i (by omega))]
theorem cnt_ext {po pq : Nat → Option Nat} {c : Nat} (h : ∀ j, j < c → po j = pq j) : cnt po c = cnt pq c := by
  induction c with
  | zero => rfl
  | succ c ih =>
    simp only [cnt]
    rw [h c (by omega), ih (fun j hj => h j (by omega))]
theorem pcOk_step {P m c : Nat} {q : RS} (h : pcOk c q) (hm : q.2.1 < m ∨ True) : pcOk (c + 1) (redS P m c q) := by
  obtain ⟨M, r, d, pc⟩ := q
  obtain ⟨h1, h2⟩ := h
  dsimp only at h1 h2
  by_cases hc : r < m ∧ fnd M c (m - r) r < m
  · rw [redS_yes hc.1 rfl hc.2]
    refine ⟨fun i hi => ?_, ?_⟩
    · show (if i = r then c else pc i) < c + 1
      split
      · omega
      · have : i < r + 1 := hi
        have := h1 i (by omega)
        omega
    · show cnt (rowOf (fun i => if i = r then c else pc i) (r + 1)) (c + 1) + (r + 1) = c + 1
      have e1 : cnt (rowOf (fun i => if i = r then c else pc i) (r + 1)) c = cnt (rowOf pc r) c := by
        refine cnt_ext (fun j hj => ?_)
        simp only [rowOf, if_pos]
        rw [if_neg (by omega)]
        exact rowOf_ext (fun i hi => if_neg (by omega)) j
      have e2 : rowOf (fun i => if i = r then c else pc i) (r + 1) c = some r := by simp [rowOf]
      simp only [cnt]
      rw [e1, e2]
      simp
      omega
  · rw [redS_no (q := (M, r, d, pc)) hc]
    refine ⟨fun i hi => Nat.lt_succ_of_lt (h1 i hi), ?_⟩
    have e2 : rowOf pc r c = none := rowOf_none (fun i hi => by have := h1 i hi; omega)
    show cnt (rowOf pc r) (c + 1) + r = c + 1
    simp only [cnt]
    rw [e2]
    simp
    omega
theorem pcOk_all {P m : Nat} {q0 : RS} (h : q0.2.1 = 0) : ∀ c, pcOk c (redN P m q0 c) := by
  intro c
  induction c with
  | zero =>
    refine ⟨fun i hi => ?_, ?_⟩
    · have : i < q0.2.1 := hi
      omega
    · show 0 + q0.2.1 = 0
      omega
  | succ c ih => exact pcOk_step ih (Or.inr trivial)
