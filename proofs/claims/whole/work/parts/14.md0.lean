theorem rhs_no {pj : Int64} {mi ni i x : Int32} {vd P mR nC : Nat} (hV : vd ≠ 0 → MdV pj mi ni P mR nC) (hI : vd = 0 → mR = 0 ∧ nC = 0) (hno : ¬ (inb mR i = true ∧ inb nC (nI 0) = true)) : ¬ okRhs mR i x := by
  intro z
  by_cases hv : vd = 0
  · have z1 := z.1
    rw [(hI hv).1, inb_0] at z1
    exact absurd z1 (by decide)
  · obtain ⟨-, -, -, -, -, h1, h2, h3, h4⟩ := hV hv
    exact hno ⟨z.1, inb_t (by omega) (by omega)⟩
theorem gp_step {g : Nat → Int32} {pc : Nat → Nat} {v c : Nat} (h : ∀ a, a < v → g a = nI (pc a)) : ∀ a, a < v + 1 → upd g v (nI c) a = nI (if a = v then c else pc a) := by
  intro a ha
  unfold upd
  split
  · rfl
  · exact h a (by omega)
theorem le_of_nlt {x y : Int32} (h : ¬ x < y) : y ≤ x := by
  rw [Int32.lt_iff_toInt_lt] at h
  rw [Int32.le_iff_toInt_le]
  omega
theorem nle_of_lt {x y : Int32} (h : x < y) : ¬ y ≤ x := by
  rw [Int32.lt_iff_toInt_lt] at h
  rw [Int32.le_iff_toInt_le]
  omega
