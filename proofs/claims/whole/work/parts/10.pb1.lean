set_option maxHeartbeats 4000000 in
set_option maxRecDepth 100000 in
theorem c_X0_isRow (l : Launch) (D : va_G) {h a1 a2 a3 a4 : Nat} {cA : ClassId} {mR nC : Nat} {fA fB fW fP : Nat → Int32} {rd pv pp : Nat} {pr : Int32} (i : Int32) (hm : mR ≤ 10) : RdI l yX0_isRow wsX0_isRow ({ frames := 0, cells := 0, slots := 0, locals := 0 }) [.ref h, .int i] D (pbW h a1 a2 a3 a4 cA pr mR nC fA fB fW fP rd pv pp) [(cA, .int)] (fun r => Isin mR i r) := by
  refine RdI.mk (cc := cX0_isRow) (maxL := 2) (rt := .boolean) (by decide) rfl (Nat.le_of_ble_eq_true rfl) ?_
  intro p e s mm args below meth c Q ls A S hK hP hA hS hl hret
  have hx := S.1
  have hb := S.2.1
  have hts := S.2.2.2.2
  have hown := S.2.2.2.1
  have hin : ∀ w ∈ wsX00, w ∈ wsX0_isRow := fun w h => List.mem_cons_of_mem _ (List.mem_append_right _ h)
  have hl : lv_has ls 2 [(0, .ref h), (1, .int i)] := hl
  refine lv_iload_n hx hb dX0_isRow_0 rfl (lv_at hl 1 rfl) ?_
  refine lv_if_lt (tgt := 16) hx hb dX0_isRow_1 (by decide) (fun c_1 => ?_) (fun c_1 => ?_)
  · refine lv_iconst (v := nI 0) hx hb dX0_isRow_16 (by decide +kernel) ?_
    exact hret (nI 0) 17 ls _ _ dX0_isRow_17 (by decide +kernel) hS (Or.inr ⟨out_row (by omega) (Or.inl c_1), rfl⟩)
  · refine lv_iload_n hx hb dX0_isRow_4 rfl (lv_at hl 1 rfl) ?_
    refine lv_aload_n hx hb dX0_isRow_5 rfl (lv_at hl 0 rfl) ?_
    refine x0_get S hin hK hP rfl 1 (by decide) rfl (by decide +kernel) (v := .int (nI mR)) rfl dX0_isRow_6 ?_
    refine lv_icmp_ge (tgt := 16) hx hb dX0_isRow_9 (by decide) (fun c_2 => ?_) (fun c_2 => ?_)
    · refine lv_iconst (v := nI 0) hx hb dX0_isRow_16 (by decide +kernel) ?_
      exact hret (nI 0) 17 ls _ _ dX0_isRow_17 (by decide +kernel) hS (Or.inr ⟨out_row (by omega) (Or.inr c_2), rfl⟩)
    · refine lv_iconst (v := nI 1) hx hb dX0_isRow_12 (by decide +kernel) ?_
      refine lv_goto (tgt := 17) hx hb dX0_isRow_13 (by decide) ?_
      exact hret (nI 1) 17 ls _ _ dX0_isRow_17 (by decide +kernel) hS (by
          obtain ⟨k, hk, hi⟩ := in_row (i := i) (m := mR) (by omega) c_1 c_2
          exact Or.inl ⟨k, hk, hi, rfl⟩)
set_option maxHeartbeats 4000000 in
set_option maxRecDepth 100000 in
theorem c_X0_isColumn (l : Launch) (D : va_G) {h a1 a2 a3 a4 : Nat} {cA : ClassId} {mR nC : Nat} {fA fB fW fP : Nat → Int32} {rd pv pp : Nat} {pr : Int32} (i : Int32) (hn : nC ≤ 10) : RdI l yX0_isColumn wsX0_isColumn ({ frames := 0, cells := 0, slots := 0, locals := 0 }) [.ref h, .int i] D (pbW h a1 a2 a3 a4 cA pr mR nC fA fB fW fP rd pv pp) [(cA, .int)] (fun r => Isin nC i r) := by
  refine RdI.mk (cc := cX0_isColumn) (maxL := 2) (rt := .boolean) (by decide) rfl (Nat.le_of_ble_eq_true rfl) ?_
  intro p e s mm args below meth c Q ls A S hK hP hA hS hl hret
  have hx := S.1
  have hb := S.2.1
  have hts := S.2.2.2.2
  have hown := S.2.2.2.1
  have hin : ∀ w ∈ wsX00, w ∈ wsX0_isColumn := fun w h => List.mem_cons_of_mem _ (List.mem_append_right _ h)
  have hl : lv_has ls 2 [(0, .ref h), (1, .int i)] := hl
  refine lv_iload_n hx hb dX0_isColumn_0 rfl (lv_at hl 1 rfl) ?_
  refine lv_if_lt (tgt := 16) hx hb dX0_isColumn_1 (by decide) (fun c_1 => ?_) (fun c_1 => ?_)
  · refine lv_iconst (v := nI 0) hx hb dX0_isColumn_16 (by decide +kernel) ?_
    exact hret (nI 0) 17 ls _ _ dX0_isColumn_17 (by decide +kernel) hS (Or.inr ⟨out_row (by omega) (Or.inl c_1), rfl⟩)
  · refine lv_iload_n hx hb dX0_isColumn_4 rfl (lv_at hl 1 rfl) ?_
    refine lv_aload_n hx hb dX0_isColumn_5 rfl (lv_at hl 0 rfl) ?_
    refine x0_get S hin hK hP rfl 2 (by decide) rfl (by decide +kernel) (v := .int (nI nC)) rfl dX0_isColumn_6 ?_
    refine lv_icmp_ge (tgt := 16) hx hb dX0_isColumn_9 (by decide) (fun c_2 => ?_) (fun c_2 => ?_)
    · refine lv_iconst (v := nI 0) hx hb dX0_isColumn_16 (by decide +kernel) ?_
      exact hret (nI 0) 17 ls _ _ dX0_isColumn_17 (by decide +kernel) hS (Or.inr ⟨out_row (by omega) (Or.inr c_2), rfl⟩)
    · refine lv_iconst (v := nI 1) hx hb dX0_isColumn_12 (by decide +kernel) ?_
      refine lv_goto (tgt := 17) hx hb dX0_isColumn_13 (by decide) ?_
      exact hret (nI 1) 17 ls _ _ dX0_isColumn_17 (by decide +kernel) hS (by
          obtain ⟨k, hk, hi⟩ := in_row (i := i) (m := nC) (by omega) c_1 c_2
          exact Or.inl ⟨k, hk, hi, rfl⟩)
set_option maxHeartbeats 4000000 in
set_option maxRecDepth 100000 in
theorem c_X0_isSide (l : Launch) (D : va_G)  (i : Int32)  : RdI l yX0_isSide wsX0_isSide ({ frames := 0, cells := 0, slots := 0, locals := 0 }) [.int i] D ([]) [] (fun r => IsSide i r) := by
  refine RdI.mk (cc := cX0_isSide) (maxL := 1) (rt := .boolean) (by decide) rfl (Nat.le_of_ble_eq_true rfl) ?_
  intro p e s mm args below meth c Q ls A S hK hP hA hS hl hret
  have hx := S.1
  have hb := S.2.1
  have hts := S.2.2.2.2
  have hown := S.2.2.2.1
  have hl : lv_has ls 1 [(0, .int i)] := hl
  refine lv_iload_n hx hb dX0_isSide_0 rfl (lv_at hl 0 rfl) ?_
  refine lv_iconst (v := nI 1) hx hb dX0_isSide_1 (by decide +kernel) ?_
  refine lv_icmp_lt (tgt := 15) hx hb dX0_isSide_2 (by decide) (fun c_1 => ?_) (fun c_1 => ?_)
  · refine lv_iconst (v := nI 0) hx hb dX0_isSide_15 (by decide +kernel) ?_
    exact hret (nI 0) 16 ls _ _ dX0_isSide_16 (by decide +kernel) hS (side_f (Or.inl c_1))
  · refine lv_iload_n hx hb dX0_isSide_5 rfl (lv_at hl 0 rfl) ?_
    refine lv_bipush (v := nI 10) hx hb dX0_isSide_6 (by decide +kernel) ?_
    refine lv_icmp_gt (tgt := 15) hx hb dX0_isSide_8 (by decide) (fun c_2 => ?_) (fun c_2 => ?_)
    · refine lv_iconst (v := nI 0) hx hb dX0_isSide_15 (by decide +kernel) ?_
      exact hret (nI 0) 16 ls _ _ dX0_isSide_16 (by decide +kernel) hS (side_f (Or.inr c_2))
    · refine lv_iconst (v := nI 1) hx hb dX0_isSide_11 (by decide +kernel) ?_
      refine lv_goto (tgt := 16) hx hb dX0_isSide_12 (by decide) ?_
      exact hret (nI 1) 16 ls _ _ dX0_isSide_16 (by decide +kernel) hS (side_t c_1 c_2)
set_option maxHeartbeats 4000000 in
set_option maxRecDepth 100000 in
theorem c_X0_isPrime (l : Launch) (D : va_G)  (i : Int32)  : RdI l yX0_isPrime wsX0_isPrime ({ frames := 0, cells := 0, slots := 0, locals := 0 }) [.int i] D ([]) [] (fun r => IsPr i r) := by
  refine RdI.mk (cc := cX0_isPrime) (maxL := 2) (rt := .boolean) (by decide) rfl (Nat.le_of_ble_eq_true rfl) ?_
  intro p e s mm args below meth c Q ls A S hK hP hA hS hl hret
  have hx := S.1
  have hb := S.2.1
  have hts := S.2.2.2.2
  have hown := S.2.2.2.1
  have hl : lv_has ls 2 [(0, .int i)] := hl
  refine lv_iload_n hx hb dX0_isPrime_0 rfl (lv_at hl 0 rfl) ?_
  refine lv_iconst (v := nI 2) hx hb dX0_isPrime_1 (by decide +kernel) ?_
  refine lv_icmp_lt (tgt := 11) hx hb dX0_isPrime_2 (by decide) (fun c_1 => ?_) (fun c_1 => ?_)
  · have hn2 : ¬ i = nI 2 := pr_lt c_1
    refine lv_iload_n hx hb dX0_isPrime_11 rfl (lv_at hl 0 rfl) ?_
    refine lv_iconst (v := nI 2) hx hb dX0_isPrime_12 (by decide +kernel) ?_
    refine lv_icmp_ne (tgt := 20) hx hb dX0_isPrime_13 (by decide) (fun c_2 => ?_) (fun c_2 => ?_)
    · refine lv_iconst (v := nI 0) hx hb dX0_isPrime_20 (by decide +kernel) ?_
      exact hret (nI 0) 21 ls _ _ dX0_isPrime_21 (by decide +kernel) hS (pr_small c_1)
    · exact absurd c_2 hn2
  · obtain ⟨v, hv2, hvl, rfl⟩ := pr_ge c_1
    refine lv_iload_n hx hb dX0_isPrime_5 rfl (lv_at hl 0 rfl) ?_
    refine lv_iconst (v := nI 2) hx hb dX0_isPrime_6 (by decide +kernel) ?_
    refine nv_irem hx hb (by omega) (by omega) (by omega) dX0_isPrime_7 ?_
    refine nv_if_ne (tgt := 22) hx hb dX0_isPrime_8 (by decide) (by omega) (fun c_3 => ?_) (fun c_3 => ?_)
    · refine lv_iconst (v := nI 3) hx hb dX0_isPrime_22 (by decide +kernel) ?_
      refine lv_istore_n (lv' := [(1, .int (nI 3)), (0, .int (nI v))]) hx hb dX0_isPrime_23 rfl hl (by decide) rfl (fun ls hl => ?_)
      have L : ∀ (nL : Nat) (d : Nat), (3 ≤ d) → (d ≤ 46343) → (OddUp v d) → (46344 ≤ d + nL) → ∀ (ls : Array Slot) (H : Heap) (locs : List Loc), lv_has ls 2 [(0, .int (nI v)), (1, .int (nI d))] → va_P D vwCl ([]) H → va_S A s.heap H locs → W p l e ({ frames := 0, cells := 0, slots := 0, locals := 0 }) s mm args below meth c H locs 0 0 Q (F0 mm 24 ls []) := by
        intro nL
        induction nL with
        | zero => intro d hd1 hd2 hinv hfuel; exfalso; omega
        | succ nL ihL =>
          intro d hd1 hd2 hinv hfuel ls H locs hl hP hS
          refine lv_iload_n hx hb dX0_isPrime_24 rfl (lv_at hl 1 rfl) ?_
          refine nv_i2l hx hb (by omega) dX0_isPrime_25 ?_
          refine lv_iload_n hx hb dX0_isPrime_26 rfl (lv_at hl 1 rfl) ?_
          refine nv_i2l hx hb (by omega) dX0_isPrime_27 ?_
          refine nv_lmul hx hb dX0_isPrime_28 ?_
          refine lv_iload_n hx hb dX0_isPrime_29 rfl (lv_at hl 0 rfl) ?_
          refine nv_i2l hx hb (by omega) dX0_isPrime_30 ?_
          refine nv_lcmp_gt (tgt := 49) hx hb dX0_isPrime_31 dX0_isPrime_32 (by decide) (mul_b (by omega) (by omega)) (by omega) (fun c_4 => ?_) (fun c_4 => ?_)
          · refine lv_iconst (v := nI 1) hx hb dX0_isPrime_49 (by decide +kernel) ?_
            exact hret (nI 1) 50 ls _ _ dX0_isPrime_50 (by decide +kernel) hS (pr_yes (by omega) hvl c_3 hinv c_4)
          · have hd3 := sq_lt hvl c_4
            refine lv_iload_n hx hb dX0_isPrime_35 rfl (lv_at hl 0 rfl) ?_
            refine lv_iload_n hx hb dX0_isPrime_36 rfl (lv_at hl 1 rfl) ?_
            refine nv_irem hx hb (by omega) (by omega) (by omega) dX0_isPrime_37 ?_
            refine nv_if_ne (tgt := 43) hx hb dX0_isPrime_38 (by decide) (Nat.lt_of_lt_of_le (Nat.mod_lt _ (by omega)) (show d ≤ 2 ^ 31 by omega)) (fun c_5 => ?_) (fun c_5 => ?_)
            · refine lv_iinc (v := nI (d + 2)) (lv' := [(1, .int (nI (d + 2))), (0, .int (nI v))]) hx hb dX0_isPrime_43 hl (k := 1) rfl (nv_inc d 2) (by decide) rfl (fun ls hl => ?_)
              refine lv_goto (tgt := 24) hx hb dX0_isPrime_46 (by decide) ?_
              exact ihL (d + 2) (by omega) (by omega) (pr_step hinv c_5) (by omega) ls _ _ (lv_sub hl [1, 0] rfl) hP hS
            · refine lv_iconst (v := nI 0) hx hb dX0_isPrime_41 (by decide +kernel) ?_
              exact hret (nI 0) 42 ls _ _ dX0_isPrime_42 (by decide +kernel) hS (pr_no hd1 hvl c_4 c_5)
      exact L 46344 3 (by omega) (by omega) (od_start v) (by omega) ls _ _ (lv_sub hl [1, 0] rfl) hP hS
    · refine lv_iload_n hx hb dX0_isPrime_11 rfl (lv_at hl 0 rfl) ?_
      refine lv_iconst (v := nI 2) hx hb dX0_isPrime_12 (by decide +kernel) ?_
      refine nv_icmp_ne (tgt := 20) hx hb dX0_isPrime_13 (by decide) (by omega) (by omega) (fun c_6 => ?_) (fun c_6 => ?_)
      · refine lv_iconst (v := nI 0) hx hb dX0_isPrime_20 (by decide +kernel) ?_
        exact hret (nI 0) 21 ls _ _ dX0_isPrime_21 (by decide +kernel) hS (pr_even c_3 c_6 hv2 hvl)
      · refine lv_iconst (v := nI 1) hx hb dX0_isPrime_16 (by decide +kernel) ?_
        refine lv_goto (tgt := 21) hx hb dX0_isPrime_17 (by decide) ?_
        exact hret (nI 1) 21 ls _ _ dX0_isPrime_21 (by decide +kernel) hS (pr_two c_6)
set_option maxHeartbeats 4000000 in
set_option maxRecDepth 100000 in
theorem c_X0_hasInverse (l : Launch) (D : va_G) {h a1 a2 a3 a4 : Nat} {cA : ClassId} {mR nC : Nat} {fA fB fW fP : Nat → Int32} {rd pv pp : Nat} {pr : Int32} (hm : mR ≤ 10) (hn : nC ≤ 10) (hrd : rd < 2 ^ 31) (hpv : pv < 2 ^ 31) : RdI l yX0_hasInverse wsX0_hasInverse ({ frames := 0, cells := 0, slots := 0, locals := 0 }) [.ref h] D (pbW h a1 a2 a3 a4 cA pr mR nC fA fB fW fP rd pv pp) [(cA, .int)] (fun r => r = nI (if rd ≠ 0 ∧ mR = nC ∧ pv = nC then 1 else 0)) := by
  refine RdI.mk (cc := cX0_hasInverse) (maxL := 1) (rt := .boolean) (by decide) rfl (Nat.le_of_ble_eq_true rfl) ?_
  intro p e s mm args below meth c Q ls A S hK hP hA hS hl hret
  have hx := S.1
  have hb := S.2.1
  have hts := S.2.2.2.2
  have hown := S.2.2.2.1
  have hin : ∀ w ∈ wsX00, w ∈ wsX0_hasInverse := fun w h => List.mem_cons_of_mem _ (List.mem_append_right _ h)
  have hl : lv_has ls 1 [(0, .ref h)] := hl
  refine lv_aload_n hx hb dX0_hasInverse_0 rfl (lv_at hl 0 rfl) ?_
  refine x0_get S hin hK hP rfl 8 (by decide) rfl (by decide +kernel) (v := .int (nI rd)) rfl dX0_hasInverse_1 ?_
  refine nv_if_eq (tgt := 33) hx hb dX0_hasInverse_4 (by decide) (by omega) (fun c_1 => ?_) (fun c_1 => ?_)
  · refine lv_iconst (v := nI 0) hx hb dX0_hasInverse_33 (by decide +kernel) ?_
    exact hret (nI 0) 34 ls _ _ dX0_hasInverse_34 (by decide +kernel) hS (by simp [c_1])
  · refine lv_aload_n hx hb dX0_hasInverse_7 rfl (lv_at hl 0 rfl) ?_
    refine x0_get S hin hK hP rfl 1 (by decide) rfl (by decide +kernel) (v := .int (nI mR)) rfl dX0_hasInverse_8 ?_
    refine lv_aload_n hx hb dX0_hasInverse_11 rfl (lv_at hl 0 rfl) ?_
    refine x0_get S hin hK hP rfl 2 (by decide) rfl (by decide +kernel) (v := .int (nI nC)) rfl dX0_hasInverse_12 ?_
    refine nv_icmp_ne (tgt := 33) hx hb dX0_hasInverse_15 (by decide) (by omega) (by omega) (fun c_2 => ?_) (fun c_2 => ?_)
    · refine lv_iconst (v := nI 0) hx hb dX0_hasInverse_33 (by decide +kernel) ?_
      exact hret (nI 0) 34 ls _ _ dX0_hasInverse_34 (by decide +kernel) hS (by simp [show rd ≠ 0 by omega, c_2])
    · refine lv_aload_n hx hb dX0_hasInverse_18 rfl (lv_at hl 0 rfl) ?_
      refine x0_get S hin hK hP rfl 9 (by decide) rfl (by decide +kernel) (v := .int (nI pv)) rfl dX0_hasInverse_19 ?_
      refine lv_aload_n hx hb dX0_hasInverse_22 rfl (lv_at hl 0 rfl) ?_
      refine x0_get S hin hK hP rfl 2 (by decide) rfl (by decide +kernel) (v := .int (nI nC)) rfl dX0_hasInverse_23 ?_
      refine nv_icmp_ne (tgt := 33) hx hb dX0_hasInverse_26 (by decide) (by omega) (by omega) (fun c_3 => ?_) (fun c_3 => ?_)
      · refine lv_iconst (v := nI 0) hx hb dX0_hasInverse_33 (by decide +kernel) ?_
        exact hret (nI 0) 34 ls _ _ dX0_hasInverse_34 (by decide +kernel) hS (by simp [show rd ≠ 0 by omega, c_2, c_3])
      · refine lv_iconst (v := nI 1) hx hb dX0_hasInverse_29 (by decide +kernel) ?_
        refine lv_goto (tgt := 34) hx hb dX0_hasInverse_30 (by decide) ?_
        exact hret (nI 1) 34 ls _ _ dX0_hasInverse_34 (by decide +kernel) hS (by simp [show rd ≠ 0 by omega, c_2, c_3])
set_option maxHeartbeats 4000000 in
set_option maxRecDepth 100000 in
theorem c_X0_transformNumber (l : Launch) (D : va_G) {h a1 a2 a3 a4 : Nat} {cA : ClassId} {mR nC : Nat} {fA fB fW fP : Nat → Int32} {rd pv pp : Nat} {pr : Int32} {M : Mat} (ti tj : Nat) (hm : mR ≤ 10) (hn : nC ≤ 10) (hti : ti < mR) (htj : tj < mR) (hM : Rp (nC + mR) mR fW M) : RdI l yX0_transformNumber wsX0_transformNumber ({ frames := 0, cells := 0, slots := 0, locals := 0 }) [.ref h, .int (nI ti), .int (nI tj)] D (pbW h a1 a2 a3 a4 cA pr mR nC fA fB fW fP rd pv pp) [(cA, .int)] (fun r => r = nI (M ti (nC + tj))) := by
  refine RdI.mk (cc := cX0_transformNumber) (maxL := 3) (rt := .int) (by decide) rfl (Nat.le_of_ble_eq_true rfl) ?_
  intro p e s mm args below meth c Q ls A S hK hP hA hS hl hret
  have hx := S.1
  have hb := S.2.1
  have hts := S.2.2.2.2
  have hown := S.2.2.2.1
  have hin : ∀ w ∈ wsX00, w ∈ wsX0_transformNumber := fun w h => List.mem_cons_of_mem _ (List.mem_append_right _ h)
  have hl : lv_has ls 3 [(0, .ref h), (1, .int (nI ti)), (2, .int (nI tj))] := hl
  refine lv_aload_n hx hb dX0_transformNumber_0 rfl (lv_at hl 0 rfl) ?_
  refine x0_get S hin hK hP rfl 5 (by decide) rfl (by decide +kernel) (v := .ref a3) rfl dX0_transformNumber_1 ?_
  refine lv_iload_n hx hb dX0_transformNumber_4 rfl (lv_at hl 1 rfl) ?_
  refine lv_aload_n hx hb dX0_transformNumber_5 rfl (lv_at hl 0 rfl) ?_
  refine x0_get S hin hK hP rfl 6 (by decide) rfl (by decide +kernel) (v := .int (nI (nC + mR))) rfl dX0_transformNumber_6 ?_
  refine nv_imul hx hb dX0_transformNumber_9 ?_
  refine lv_aload_n hx hb dX0_transformNumber_10 rfl (lv_at hl 0 rfl) ?_
  refine x0_get S hin hK hP rfl 2 (by decide) rfl (by decide +kernel) (v := .int (nI nC)) rfl dX0_transformNumber_11 ?_
  refine nv_iadd hx hb dX0_transformNumber_14 ?_
  refine lv_iload_n hx hb dX0_transformNumber_15 rfl (lv_at hl 2 rfl) ?_
  refine nv_iadd hx hb dX0_transformNumber_16 ?_
  refine nv_iald hx hb hK hP 3 0 rfl rfl (v := nI (M ti (nC + tj))) (by rw [Nat.add_assoc]; exact ix_lt hti (by omega)) (bd3 hm hn) (by rw [Nat.add_assoc]; exact hM ti hti (nC + tj) (by omega)) dX0_transformNumber_17 ?_
  exact hret (nI (M ti (nC + tj))) 18 ls _ _ dX0_transformNumber_18 (rfl) hS (rfl)
set_option maxHeartbeats 4000000 in
set_option maxRecDepth 100000 in
theorem c_X0_negative (l : Launch) (D : va_G) {h a1 a2 a3 a4 : Nat} {cA : ClassId} {mR nC : Nat} {fA fB fW fP : Nat → Int32} {rd pv pp : Nat} {P : Nat} (x : Nat) (hPl : P < 2 ^ 31) (hxP : x < P) : RdL l yX0_negative wsX0_negative ({ frames := 0, cells := 0, slots := 0, locals := 0 }) [.ref h, .long (lN x)] D (pbW h a1 a2 a3 a4 cA (nI P) mR nC fA fB fW fP rd pv pp) [(cA, .int)] (fun r => r = lN (ng P x)) := by
  refine RdL.mk (cc := cX0_negative) (maxL := 3) (by decide) rfl (Nat.le_of_ble_eq_true rfl) ?_
  intro p e s mm args below meth c Q ls A S hK hP hA hS hl hret
  have hx := S.1
  have hb := S.2.1
  have hts := S.2.2.2.2
  have hown := S.2.2.2.1
  have hin : ∀ w ∈ wsX00, w ∈ wsX0_negative := fun w h => List.mem_cons_of_mem _ (List.mem_append_right _ h)
  have hl : lv_has ls 3 [(0, .ref h), (1, .long (lN x))] := hl
  refine lv_lload_n hx hb dX0_negative_0 rfl (lv_at hl 1 rfl) ?_
  refine lv_lconst (v := lN 0) hx hb dX0_negative_1 rfl ?_
  refine nv_lcmp_ne (tgt := 10) hx hb dX0_negative_2 dX0_negative_3 (by decide) (by omega) (by omega) (fun c_1 => ?_) (fun c_1 => ?_)
  · refine lv_aload_n hx hb dX0_negative_10 rfl (lv_at hl 0 rfl) ?_
    refine x0_get S hin hK hP rfl 0 (by decide) rfl (by decide +kernel) (v := .int (nI P)) rfl dX0_negative_11 ?_
    refine nv_i2l hx hb (by omega) dX0_negative_14 ?_
    refine lv_lload_n hx hb dX0_negative_15 rfl (lv_at hl 1 rfl) ?_
    refine nv_lsub hx hb (by omega) dX0_negative_16 ?_
    exact hret (lN (P - x)) 17 ls _ _ dX0_negative_17 hS (by simp [ng, c_1])
  · refine lv_lconst (v := lN 0) hx hb dX0_negative_6 rfl ?_
    refine lv_goto (tgt := 17) hx hb dX0_negative_7 (by decide) ?_
    exact hret (lN 0) 17 ls _ _ dX0_negative_17 hS (by simp [ng, c_1])
set_option maxHeartbeats 4000000 in
set_option maxRecDepth 100000 in
theorem c_X0_inverseOf (l : Launch) (D : va_G) {h a1 a2 a3 a4 : Nat} {cA : ClassId} {mR nC : Nat} {fA fB fW fP : Nat → Int32} {rd pv pp : Nat} {P : Nat} (x : Nat) (hP2 : 2 ≤ P) (hPl : P < 2 ^ 31) (hxP : x < P) : RdL l yX0_inverseOf wsX0_inverseOf ({ frames := 0, cells := 0, slots := 0, locals := 0 }) [.ref h, .int (nI x)] D (pbW h a1 a2 a3 a4 cA (nI P) mR nC fA fB fW fP rd pv pp) [(cA, .int)] (fun r => r = lN (x ^ (P - 2) % P)) := by
  refine RdL.mk (cc := cX0_inverseOf) (maxL := 7) (by decide) rfl (Nat.le_of_ble_eq_true rfl) ?_
  intro p e s mm args below meth c Q ls A S hK hP hA hS hl hret
  have hx := S.1
  have hb := S.2.1
  have hts := S.2.2.2.2
  have hown := S.2.2.2.1
  have hin : ∀ w ∈ wsX00, w ∈ wsX0_inverseOf := fun w h => List.mem_cons_of_mem _ (List.mem_append_right _ h)
  have hl : lv_has ls 7 [(0, .ref h), (1, .int (nI x))] := hl
  refine lv_lconst (v := lN 1) hx hb dX0_inverseOf_0 rfl ?_
  refine lv_lstore_n (lv' := [(2, .long (lN 1)), (0, .ref h), (1, .int (nI x))]) hx hb dX0_inverseOf_1 rfl hl (by decide) rfl (fun ls hl => ?_)
  refine lv_iload_n hx hb dX0_inverseOf_2 rfl (lv_at hl 2 rfl) ?_
  refine nv_i2l hx hb (by omega) dX0_inverseOf_3 ?_
  refine lv_lstore (lv' := [(4, .long (lN x)), (2, .long (lN 1)), (0, .ref h), (1, .int (nI x))]) hx hb dX0_inverseOf_4 hl (by decide) rfl (fun ls hl => ?_)
  refine lv_aload_n hx hb dX0_inverseOf_6 rfl (lv_at hl 2 rfl) ?_
  refine x0_get S hin hK hP rfl 0 (by decide) rfl (by decide +kernel) (v := .int (nI P)) rfl dX0_inverseOf_7 ?_
  refine lv_iconst (v := nI 2) hx hb dX0_inverseOf_10 (by decide +kernel) ?_
  refine nv_isub hx hb (by omega) dX0_inverseOf_11 ?_
  refine lv_istore (lv' := [(6, .int (nI (P - 2))), (4, .long (lN x)), (2, .long (lN 1)), (0, .ref h), (1, .int (nI x))]) hx hb dX0_inverseOf_12 hl (by decide) rfl (fun ls hl => ?_)
  have L : ∀ (nL : Nat) (p1 : Nat) (q1 : Nat) (e1 : Nat), (p1 < P) → (q1 < P) → (e1 < 2 ^ 31) → (p1 * q1 ^ e1 % P = x ^ (P - 2) % P) → (e1 < nL) → ∀ (ls : Array Slot) (H : Heap) (locs : List Loc), lv_has ls 7 [(0, .ref h), (1, .int (nI x)), (2, .long (lN p1)), (4, .long (lN q1)), (6, .int (nI e1))] → va_P D vwCl (pbW h a1 a2 a3 a4 cA (nI P) mR nC fA fB fW fP rd pv pp) H → va_S A s.heap H locs → W p l e ({ frames := 0, cells := 0, slots := 0, locals := 0 }) s mm args below meth c H locs 0 0 Q (F0 mm 14 ls []) := by
    intro nL
    induction nL with
    | zero => intro p1 q1 e1 h1 h2 h3 hinv hfuel; exfalso; omega
    | succ nL ihL =>
      intro p1 q1 e1 h1 h2 h3 hinv hfuel ls H locs hl hP hS
      refine lv_iload hx hb dX0_inverseOf_14 (lv_at hl 4 rfl) ?_
      refine nv_if_le (tgt := 60) hx hb dX0_inverseOf_16 (by decide) (by omega) (fun c_1 => ?_) (fun c_1 => ?_)
      · refine lv_lload_n hx hb dX0_inverseOf_60 rfl (lv_at hl 2 rfl) ?_
        exact hret (lN p1) 61 ls _ _ dX0_inverseOf_61 hS (by
            have e0 : e1 = 0 := by omega
            rw [e0, Nat.pow_zero, Nat.mul_one, Nat.mod_eq_of_lt h1] at hinv
            rw [hinv])
      · refine lv_iload hx hb dX0_inverseOf_19 (lv_at hl 4 rfl) ?_
        refine lv_iconst (v := nI 1) hx hb dX0_inverseOf_21 (by decide +kernel) ?_
        refine nv_iand1 hx hb (by omega) dX0_inverseOf_22 ?_
        refine lv_iconst (v := nI 1) hx hb dX0_inverseOf_23 (by decide +kernel) ?_
        refine nv_icmp_ne (tgt := 38) hx hb dX0_inverseOf_24 (by decide) (by omega) (by omega) (fun c_2 => ?_) (fun c_2 => ?_)
        · refine lv_lload hx hb dX0_inverseOf_38 (lv_at hl 3 rfl) ?_
          refine lv_lload hx hb dX0_inverseOf_40 (lv_at hl 3 rfl) ?_
          refine nv_lmul hx hb dX0_inverseOf_42 ?_
          refine lv_aload_n hx hb dX0_inverseOf_43 rfl (lv_at hl 0 rfl) ?_
          refine x0_get S hin hK hP rfl 0 (by decide) rfl (by decide +kernel) (v := .int (nI P)) rfl dX0_inverseOf_44 ?_
          refine nv_i2l hx hb (by omega) dX0_inverseOf_47 ?_
          refine nv_lrem hx hb (mul_b (by omega) (by omega)) (by omega) (by omega) dX0_inverseOf_48 ?_
          refine lv_lstore (lv' := [(4, .long (lN ((q1 * q1) % P))), (0, .ref h), (1, .int (nI x)), (2, .long (lN p1)), (6, .int (nI e1))]) hx hb dX0_inverseOf_49 hl (by decide) rfl (fun ls hl => ?_)
          refine lv_iload hx hb dX0_inverseOf_51 (lv_at hl 4 rfl) ?_
          refine lv_iconst (v := nI 1) hx hb dX0_inverseOf_53 (by decide +kernel) ?_
          refine nv_ishr1 hx hb (by omega) dX0_inverseOf_54 ?_
          refine lv_istore (lv' := [(6, .int (nI (e1 / 2))), (4, .long (lN ((q1 * q1) % P))), (0, .ref h), (1, .int (nI x)), (2, .long (lN p1))]) hx hb dX0_inverseOf_55 hl (by decide) rfl (fun ls hl => ?_)
          refine lv_goto (tgt := 14) hx hb dX0_inverseOf_57 (by decide) ?_
          exact ihL p1 (q1 * q1 % P) (e1 / 2) h1 (Nat.mod_lt _ (by omega)) (by omega) (by rw [pw_even c_2]; exact hinv) (by omega) ls _ _ (lv_sub hl [2, 3, 4, 1, 0] rfl) hP hS
        · refine lv_lload_n hx hb dX0_inverseOf_27 rfl (lv_at hl 2 rfl) ?_
          refine lv_lload hx hb dX0_inverseOf_28 (lv_at hl 3 rfl) ?_
          refine nv_lmul hx hb dX0_inverseOf_30 ?_
          refine lv_aload_n hx hb dX0_inverseOf_31 rfl (lv_at hl 0 rfl) ?_
          refine x0_get S hin hK hP rfl 0 (by decide) rfl (by decide +kernel) (v := .int (nI P)) rfl dX0_inverseOf_32 ?_
          refine nv_i2l hx hb (by omega) dX0_inverseOf_35 ?_
          refine nv_lrem hx hb (mul_b (by omega) (by omega)) (by omega) (by omega) dX0_inverseOf_36 ?_
          refine lv_lstore_n (lv' := [(2, .long (lN ((p1 * q1) % P))), (0, .ref h), (1, .int (nI x)), (4, .long (lN q1)), (6, .int (nI e1))]) hx hb dX0_inverseOf_37 rfl hl (by decide) rfl (fun ls hl => ?_)
          refine lv_lload hx hb dX0_inverseOf_38 (lv_at hl 3 rfl) ?_
          refine lv_lload hx hb dX0_inverseOf_40 (lv_at hl 3 rfl) ?_
          refine nv_lmul hx hb dX0_inverseOf_42 ?_
          refine lv_aload_n hx hb dX0_inverseOf_43 rfl (lv_at hl 1 rfl) ?_
          refine x0_get S hin hK hP rfl 0 (by decide) rfl (by decide +kernel) (v := .int (nI P)) rfl dX0_inverseOf_44 ?_
          refine nv_i2l hx hb (by omega) dX0_inverseOf_47 ?_
          refine nv_lrem hx hb (mul_b (by omega) (by omega)) (by omega) (by omega) dX0_inverseOf_48 ?_
          refine lv_lstore (lv' := [(4, .long (lN ((q1 * q1) % P))), (2, .long (lN ((p1 * q1) % P))), (0, .ref h), (1, .int (nI x)), (6, .int (nI e1))]) hx hb dX0_inverseOf_49 hl (by decide) rfl (fun ls hl => ?_)
          refine lv_iload hx hb dX0_inverseOf_51 (lv_at hl 4 rfl) ?_
          refine lv_iconst (v := nI 1) hx hb dX0_inverseOf_53 (by decide +kernel) ?_
          refine nv_ishr1 hx hb (by omega) dX0_inverseOf_54 ?_
          refine lv_istore (lv' := [(6, .int (nI (e1 / 2))), (4, .long (lN ((q1 * q1) % P))), (2, .long (lN ((p1 * q1) % P))), (0, .ref h), (1, .int (nI x))]) hx hb dX0_inverseOf_55 hl (by decide) rfl (fun ls hl => ?_)
          refine lv_goto (tgt := 14) hx hb dX0_inverseOf_57 (by decide) ?_
          exact ihL (p1 * q1 % P) (q1 * q1 % P) (e1 / 2) (Nat.mod_lt _ (by omega)) (Nat.mod_lt _ (by omega)) (by omega) (by rw [pw_odd c_2]; exact hinv) (by omega) ls _ _ (lv_sub hl [3, 4, 2, 1, 0] rfl) hP hS
  exact L P 1 x (P - 2) (by omega) hxP (by omega) (by rw [Nat.one_mul]) (by omega) ls _ _ (lv_sub hl [3, 4, 2, 1, 0] rfl) hP hS
set_option maxHeartbeats 4000000 in
set_option maxRecDepth 100000 in
theorem c_X0_firstRowLeft (l : Launch) (D : va_G) {h a1 a2 a3 a4 : Nat} {cA : ClassId} {mR nC : Nat} {fA fB fW fP : Nat → Int32} {rd pv pp : Nat} {pr : Int32} {M : Mat} {P : Nat} (cc : Nat) (hP2 : 2 ≤ P) (hPl : P < 2 ^ 31) (hm : mR ≤ 10) (hn : nC ≤ 10) (hcc : cc < nC) (hpv : pv ≤ mR) (hB : bnd P M) (hM : Rp (nC + mR) mR fW M) : RdI l yX0_firstRowLeft wsX0_firstRowLeft ({ frames := 0, cells := 0, slots := 0, locals := 0 }) [.ref h, .int (nI cc)] D (pbW h a1 a2 a3 a4 cA pr mR nC fA fB fW fP rd pv pp) [(cA, .int)] (fun r => (fnd M cc (mR - pv) pv < mR ∧ r = nI (fnd M cc (mR - pv) pv)) ∨ (mR ≤ fnd M cc (mR - pv) pv ∧ r = -1)) := by
  refine RdI.mk (cc := cX0_firstRowLeft) (maxL := 3) (rt := .int) (by decide) rfl (Nat.le_of_ble_eq_true rfl) ?_
  intro p e s mm args below meth c Q ls A S hK hP hA hS hl hret
  have hx := S.1
  have hb := S.2.1
  have hts := S.2.2.2.2
  have hown := S.2.2.2.1
  have hin : ∀ w ∈ wsX00, w ∈ wsX0_firstRowLeft := fun w h => List.mem_cons_of_mem _ (List.mem_append_right _ h)
  have hl : lv_has ls 3 [(0, .ref h), (1, .int (nI cc))] := hl
  refine lv_aload_n hx hb dX0_firstRowLeft_0 rfl (lv_at hl 0 rfl) ?_
  refine x0_get S hin hK hP rfl 9 (by decide) rfl (by decide +kernel) (v := .int (nI pv)) rfl dX0_firstRowLeft_1 ?_
  refine lv_istore_n (lv' := [(2, .int (nI pv)), (0, .ref h), (1, .int (nI cc))]) hx hb dX0_firstRowLeft_4 rfl hl (by decide) rfl (fun ls hl => ?_)
  have L : ∀ (nL : Nat) (i : Nat), (i ≤ mR) → (fnd M cc (mR - i) i = fnd M cc (mR - pv) pv) → (mR + 1 ≤ i + nL) → ∀ (ls : Array Slot) (H : Heap) (locs : List Loc), lv_has ls 3 [(0, .ref h), (1, .int (nI cc)), (2, .int (nI i))] → va_P D vwCl (pbW h a1 a2 a3 a4 cA pr mR nC fA fB fW fP rd pv pp) H → va_S A s.heap H locs → W p l e ({ frames := 0, cells := 0, slots := 0, locals := 0 }) s mm args below meth c H locs 0 0 Q (F0 mm 5 ls []) := by
    intro nL
    induction nL with
    | zero => intro i hi hinv hfuel; exfalso; omega
    | succ nL ihL =>
      intro i hi hinv hfuel ls H locs hl hP hS
      refine lv_iload_n hx hb dX0_firstRowLeft_5 rfl (lv_at hl 2 rfl) ?_
      refine lv_aload_n hx hb dX0_firstRowLeft_6 rfl (lv_at hl 0 rfl) ?_
      refine x0_get S hin hK hP rfl 1 (by decide) rfl (by decide +kernel) (v := .int (nI mR)) rfl dX0_firstRowLeft_7 ?_
      refine nv_icmp_ge (tgt := 37) hx hb dX0_firstRowLeft_10 (by decide) (by omega) (by omega) (fun c_1 => ?_) (fun c_1 => ?_)
      · refine lv_iconst (v := (-1)) hx hb dX0_firstRowLeft_37 (by decide +kernel) ?_
        exact hret ((-1)) 38 ls _ _ dX0_firstRowLeft_38 (rfl) hS (by
            have e1 : fnd M cc (mR - i) i = i := fnd_e c_1
            rw [← hinv, e1]
            exact Or.inr ⟨c_1, rfl⟩)
      · refine lv_aload_n hx hb dX0_firstRowLeft_13 rfl (lv_at hl 0 rfl) ?_
        refine x0_get S hin hK hP rfl 5 (by decide) rfl (by decide +kernel) (v := .ref a3) rfl dX0_firstRowLeft_14 ?_
        refine lv_iload_n hx hb dX0_firstRowLeft_17 rfl (lv_at hl 2 rfl) ?_
        refine lv_aload_n hx hb dX0_firstRowLeft_18 rfl (lv_at hl 0 rfl) ?_
        refine x0_get S hin hK hP rfl 6 (by decide) rfl (by decide +kernel) (v := .int (nI (nC + mR))) rfl dX0_firstRowLeft_19 ?_
        refine nv_imul hx hb dX0_firstRowLeft_22 ?_
        refine lv_iload_n hx hb dX0_firstRowLeft_23 rfl (lv_at hl 1 rfl) ?_
        refine nv_iadd hx hb dX0_firstRowLeft_24 ?_
        refine nv_iald hx hb hK hP 3 0 rfl rfl (v := nI (M i cc)) (ix_lt (by omega) (by omega)) (bd3 hm hn) (hM i (by omega) cc (by omega)) dX0_firstRowLeft_25 ?_
        refine nv_if_eq (tgt := 31) hx hb dX0_firstRowLeft_26 (by decide) (Nat.lt_trans (hB i cc) hPl) (fun c_2 => ?_) (fun c_2 => ?_)
        · refine lv_iinc (v := nI (i + 1)) (lv' := [(2, .int (nI (i + 1))), (0, .ref h), (1, .int (nI cc))]) hx hb dX0_firstRowLeft_31 hl (k := 2) rfl (nv_inc i 1) (by decide) rfl (fun ls hl => ?_)
          refine lv_goto (tgt := 5) hx hb dX0_firstRowLeft_34 (by decide) ?_
          exact ihL (i + 1) (by omega) (by rw [← hinv, fnd_z (by omega) c_2]) (by omega) ls _ _ (lv_sub hl [1, 2, 0] rfl) hP hS
        · refine lv_iload_n hx hb dX0_firstRowLeft_29 rfl (lv_at hl 2 rfl) ?_
          exact hret (nI i) 30 ls _ _ dX0_firstRowLeft_30 (rfl) hS (by
              have e1 : fnd M cc (mR - i) i = i := fnd_n c_1 c_2
              rw [← hinv, e1]
              exact Or.inl ⟨c_1, rfl⟩)
  exact L (mR + 1) pv hpv rfl (by omega) ls _ _ (lv_sub hl [1, 2, 0] rfl) hP hS
set_option maxHeartbeats 4000000 in
set_option maxRecDepth 100000 in
theorem c_X0_changePlaces (l : Launch) (D : va_G) {h a1 a2 a3 a4 : Nat} {cA : ClassId} {mR nC : Nat} {fA fB fW fP : Nat → Int32} {rd pv pp : Nat} {pr : Int32} {M : Mat} (o1 o2 : Nat) (hm : mR ≤ 10) (hn : nC ≤ 10) (h1 : o1 < mR) (h2 : o2 < mR) (hM : Rp (nC + mR) mR fW M) : WrV (U := Nat → Int32) l yX0_changePlaces wsX0_changePlaces ({ frames := 0, cells := 0, slots := 0, locals := 0 }) [.ref h, .int (nI o1), .int (nI o2)] D (pbW h a1 a2 a3 a4 cA pr mR nC fA fB fW fP rd pv pp) [(cA, .int)] (fun u => Rp (nC + mR) mR u (swp M o1 o2)) (fun u => pbW h a1 a2 a3 a4 cA pr mR nC fA fB u fP rd pv pp) := by
  refine WrV.mk (cc := cX0_changePlaces) (maxL := 5) (by decide) rfl (Nat.le_of_ble_eq_true rfl) ?_
  intro p e s mm args below meth c Q ls A S hK hP hD hA hS hl hret
  have hx := S.1
  have hb := S.2.1
  have hts := S.2.2.2.2
  have hown := S.2.2.2.1
  have hin : ∀ w ∈ wsX00, w ∈ wsX0_changePlaces := fun w h => List.mem_cons_of_mem _ (List.mem_append_right _ h)
  have hl : lv_has ls 5 [(0, .ref h), (1, .int (nI o1)), (2, .int (nI o2))] := hl
  refine lv_iconst (v := nI 0) hx hb dX0_changePlaces_0 (by decide +kernel) ?_
  refine lv_istore_n (lv' := [(3, .int (nI 0)), (0, .ref h), (1, .int (nI o1)), (2, .int (nI o2))]) hx hb dX0_changePlaces_1 rfl hl (by decide) rfl (fun ls hl => ?_)
  have L : ∀ (nL : Nat) (f : Nat → Int32) (i : Nat), (i ≤ nC + mR) → (Rp (nC + mR) mR f (col2 i (swp M o1 o2) M)) → (nC + mR + 1 ≤ i + nL) → ∀ (ls : Array Slot) (H : Heap) (locs : List Loc), lv_has ls 5 [(0, .ref h), (1, .int (nI o1)), (2, .int (nI o2)), (3, .int (nI i))] → va_P D vwCl (pbW h a1 a2 a3 a4 cA pr mR nC fA fB f fP rd pv pp) H → va_D A (pbW h a1 a2 a3 a4 cA pr mR nC fA fB f fP rd pv pp) → va_S A s.heap H locs → W p l e ({ frames := 0, cells := 0, slots := 0, locals := 0 }) s mm args below meth c H locs 0 0 Q (F0 mm 2 ls []) := by
    intro nL
    induction nL with
    | zero => intro f i hi hinv hfuel; exfalso; omega
    | succ nL ihL =>
      intro f i hi hinv hfuel ls H locs hl hP hD hS
      refine lv_iload_n hx hb dX0_changePlaces_2 rfl (lv_at hl 3 rfl) ?_
      refine lv_aload_n hx hb dX0_changePlaces_3 rfl (lv_at hl 0 rfl) ?_
      refine x0_get S hin hK hP rfl 6 (by decide) rfl (by decide +kernel) (v := .int (nI (nC + mR))) rfl dX0_changePlaces_4 ?_
      refine nv_icmp_ge (tgt := 72) hx hb dX0_changePlaces_7 (by decide) (by omega) (by omega) (fun c_1 => ?_) (fun c_1 => ?_)
      · exact hret f 72 ls _ _ dX0_changePlaces_72 hP hD hS (hinv.colw c_1)
      · refine lv_aload_n hx hb dX0_changePlaces_10 rfl (lv_at hl 0 rfl) ?_
        refine x0_get S hin hK hP rfl 5 (by decide) rfl (by decide +kernel) (v := .ref a3) rfl dX0_changePlaces_11 ?_
        refine lv_iload_n hx hb dX0_changePlaces_14 rfl (lv_at hl 1 rfl) ?_
        refine lv_aload_n hx hb dX0_changePlaces_15 rfl (lv_at hl 0 rfl) ?_
        refine x0_get S hin hK hP rfl 6 (by decide) rfl (by decide +kernel) (v := .int (nI (nC + mR))) rfl dX0_changePlaces_16 ?_
        refine nv_imul hx hb dX0_changePlaces_19 ?_
        refine lv_iload_n hx hb dX0_changePlaces_20 rfl (lv_at hl 3 rfl) ?_
        refine nv_iadd hx hb dX0_changePlaces_21 ?_
        refine nv_iald hx hb hK hP 3 0 rfl rfl (v := nI (col2 i (swp M o1 o2) M o1 i)) (ix_lt h1 (by omega)) (bd3 hm hn) (hinv o1 h1 i (by omega)) dX0_changePlaces_22 ?_
        refine lv_istore (lv' := [(4, .int (nI (col2 i (swp M o1 o2) M o1 i))), (0, .ref h), (1, .int (nI o1)), (2, .int (nI o2)), (3, .int (nI i))]) hx hb dX0_changePlaces_23 hl (by decide) rfl (fun ls hl => ?_)
        refine lv_aload_n hx hb dX0_changePlaces_25 rfl (lv_at hl 1 rfl) ?_
        refine x0_get S hin hK hP rfl 5 (by decide) rfl (by decide +kernel) (v := .ref a3) rfl dX0_changePlaces_26 ?_
        refine lv_iload_n hx hb dX0_changePlaces_29 rfl (lv_at hl 2 rfl) ?_
        refine lv_aload_n hx hb dX0_changePlaces_30 rfl (lv_at hl 1 rfl) ?_
        refine x0_get S hin hK hP rfl 6 (by decide) rfl (by decide +kernel) (v := .int (nI (nC + mR))) rfl dX0_changePlaces_31 ?_
        refine nv_imul hx hb dX0_changePlaces_34 ?_
        refine lv_iload_n hx hb dX0_changePlaces_35 rfl (lv_at hl 4 rfl) ?_
        refine nv_iadd hx hb dX0_changePlaces_36 ?_
        refine lv_aload_n hx hb dX0_changePlaces_37 rfl (lv_at hl 1 rfl) ?_
        refine x0_get S hin hK hP rfl 5 (by decide) rfl (by decide +kernel) (v := .ref a3) rfl dX0_changePlaces_38 ?_
        refine lv_iload_n hx hb dX0_changePlaces_41 rfl (lv_at hl 3 rfl) ?_
        refine lv_aload_n hx hb dX0_changePlaces_42 rfl (lv_at hl 1 rfl) ?_
        refine x0_get S hin hK hP rfl 6 (by decide) rfl (by decide +kernel) (v := .int (nI (nC + mR))) rfl dX0_changePlaces_43 ?_
        refine nv_imul hx hb dX0_changePlaces_46 ?_
        refine lv_iload_n hx hb dX0_changePlaces_47 rfl (lv_at hl 4 rfl) ?_
        refine nv_iadd hx hb dX0_changePlaces_48 ?_
        refine nv_iald hx hb hK hP 3 0 rfl rfl (v := nI (col2 i (swp M o1 o2) M o2 i)) (ix_lt h2 (by omega)) (bd3 hm hn) (hinv o2 h2 i (by omega)) dX0_changePlaces_49 ?_
        refine nv_iast hx hb hK hP hD hS 3 0 rfl rfl (ix_lt h1 (by omega)) (bd3 hm hn) dX0_changePlaces_50 (fun H locs hP hD hS => ?_)
        have hP : va_P D vwCl (pbW h a1 a2 a3 a4 cA pr mR nC fA fB (upd f ((o1 * (nC + mR)) + i) (nI (col2 i (swp M o1 o2) M o2 i))) fP rd pv pp) H := hP
        have hD : va_D A (pbW h a1 a2 a3 a4 cA pr mR nC fA fB (upd f ((o1 * (nC + mR)) + i) (nI (col2 i (swp M o1 o2) M o2 i))) fP rd pv pp) := hD
        refine lv_aload_n hx hb dX0_changePlaces_51 rfl (lv_at hl 1 rfl) ?_
        refine x0_get S hin hK hP rfl 5 (by decide) rfl (by decide +kernel) (v := .ref a3) rfl dX0_changePlaces_52 ?_
        refine lv_iload_n hx hb dX0_changePlaces_55 rfl (lv_at hl 3 rfl) ?_
        refine lv_aload_n hx hb dX0_changePlaces_56 rfl (lv_at hl 1 rfl) ?_
        refine x0_get S hin hK hP rfl 6 (by decide) rfl (by decide +kernel) (v := .int (nI (nC + mR))) rfl dX0_changePlaces_57 ?_
        refine nv_imul hx hb dX0_changePlaces_60 ?_
        refine lv_iload_n hx hb dX0_changePlaces_61 rfl (lv_at hl 4 rfl) ?_
        refine nv_iadd hx hb dX0_changePlaces_62 ?_
        refine lv_iload hx hb dX0_changePlaces_63 (lv_at hl 0 rfl) ?_
        refine nv_iast hx hb hK hP hD hS 3 0 rfl rfl (ix_lt h2 (by omega)) (bd3 hm hn) dX0_changePlaces_65 (fun H locs hP hD hS => ?_)
        have hP : va_P D vwCl (pbW h a1 a2 a3 a4 cA pr mR nC fA fB (upd (upd f ((o1 * (nC + mR)) + i) (nI (col2 i (swp M o1 o2) M o2 i))) ((o2 * (nC + mR)) + i) (nI (col2 i (swp M o1 o2) M o1 i))) fP rd pv pp) H := hP
        have hD : va_D A (pbW h a1 a2 a3 a4 cA pr mR nC fA fB (upd (upd f ((o1 * (nC + mR)) + i) (nI (col2 i (swp M o1 o2) M o2 i))) ((o2 * (nC + mR)) + i) (nI (col2 i (swp M o1 o2) M o1 i))) fP rd pv pp) := hD
        refine lv_iinc (v := nI (i + 1)) (lv' := [(3, .int (nI (i + 1))), (4, .int (nI (col2 i (swp M o1 o2) M o1 i))), (0, .ref h), (1, .int (nI o1)), (2, .int (nI o2))]) hx hb dX0_changePlaces_66 hl (k := 4) rfl (nv_inc i 1) (by decide) rfl (fun ls hl => ?_)
        refine lv_goto (tgt := 2) hx hb dX0_changePlaces_69 (by decide) ?_
        exact ihL (upd (upd f ((o1 * (nC + mR)) + i) (nI (col2 i (swp M o1 o2) M o2 i))) ((o2 * (nC + mR)) + i) (nI (col2 i (swp M o1 o2) M o1 i))) (i + 1) (by omega) (st_swp c_1 hinv) (by omega) ls _ _ (lv_sub hl [2, 3, 4, 0] rfl) hP hD hS
  exact L (nC + mR + 1) fW 0 (by omega) hM.col0 (by omega) ls _ _ (lv_sub hl [1, 2, 3, 0] rfl) hP hD hS
set_option maxHeartbeats 4000000 in
set_option maxRecDepth 100000 in
theorem c_X0_multiplyRow (l : Launch) (D : va_G) {h a1 a2 a3 a4 : Nat} {cA : ClassId} {mR nC : Nat} {fA fB fW fP : Nat → Int32} {rd pv pp : Nat} {P : Nat} {M : Mat} (ro fc : Nat) (hP2 : 2 ≤ P) (hPl : P < 2 ^ 31) (hm : mR ≤ 10) (hn : nC ≤ 10) (h1 : ro < mR) (h2 : fc < P) (hB : bnd P M) (hM : Rp (nC + mR) mR fW M) : WrV (U := Nat → Int32) l yX0_multiplyRow wsX0_multiplyRow ({ frames := 0, cells := 0, slots := 0, locals := 0 }) [.ref h, .int (nI ro), .long (lN fc)] D (pbW h a1 a2 a3 a4 cA (nI P) mR nC fA fB fW fP rd pv pp) [(cA, .int)] (fun u => Rp (nC + mR) mR u (scl P M ro fc)) (fun u => pbW h a1 a2 a3 a4 cA (nI P) mR nC fA fB u fP rd pv pp) := by
  refine WrV.mk (cc := cX0_multiplyRow) (maxL := 6) (by decide) rfl (Nat.le_of_ble_eq_true rfl) ?_
  intro p e s mm args below meth c Q ls A S hK hP hD hA hS hl hret
  have hx := S.1
  have hb := S.2.1
  have hts := S.2.2.2.2
  have hown := S.2.2.2.1
  have hin : ∀ w ∈ wsX00, w ∈ wsX0_multiplyRow := fun w h => List.mem_cons_of_mem _ (List.mem_append_right _ h)
  have hl : lv_has ls 6 [(0, .ref h), (1, .int (nI ro)), (2, .long (lN fc))] := hl
  refine lv_iconst (v := nI 0) hx hb dX0_multiplyRow_0 (by decide +kernel) ?_
  refine lv_istore (lv' := [(4, .int (nI 0)), (0, .ref h), (1, .int (nI ro)), (2, .long (lN fc))]) hx hb dX0_multiplyRow_1 hl (by decide) rfl (fun ls hl => ?_)
  have L : ∀ (nL : Nat) (f : Nat → Int32) (i : Nat), (i ≤ nC + mR) → (Rp (nC + mR) mR f (col2 i (scl P M ro fc) M)) → (nC + mR + 1 ≤ i + nL) → ∀ (ls : Array Slot) (H : Heap) (locs : List Loc), lv_has ls 6 [(0, .ref h), (1, .int (nI ro)), (2, .long (lN fc)), (4, .int (nI i))] → va_P D vwCl (pbW h a1 a2 a3 a4 cA (nI P) mR nC fA fB f fP rd pv pp) H → va_D A (pbW h a1 a2 a3 a4 cA (nI P) mR nC fA fB f fP rd pv pp) → va_S A s.heap H locs → W p l e ({ frames := 0, cells := 0, slots := 0, locals := 0 }) s mm args below meth c H locs 0 0 Q (F0 mm 3 ls []) := by
    intro nL
    induction nL with
    | zero => intro f i hi hinv hfuel; exfalso; omega
    | succ nL ihL =>
      intro f i hi hinv hfuel ls H locs hl hP hD hS
      refine lv_iload hx hb dX0_multiplyRow_3 (lv_at hl 3 rfl) ?_
      refine lv_aload_n hx hb dX0_multiplyRow_5 rfl (lv_at hl 0 rfl) ?_
      refine x0_get S hin hK hP rfl 6 (by decide) rfl (by decide +kernel) (v := .int (nI (nC + mR))) rfl dX0_multiplyRow_6 ?_
      refine nv_icmp_ge (tgt := 53) hx hb dX0_multiplyRow_9 (by decide) (by omega) (by omega) (fun c_1 => ?_) (fun c_1 => ?_)
      · exact hret f 53 ls _ _ dX0_multiplyRow_53 hP hD hS (hinv.colw c_1)
      · have hbi : col2 i (scl P M ro fc) M ro i < P := bn_col2 (bn_scl (by omega) hB ro fc) hB i ro i
        refine lv_iload_n hx hb dX0_multiplyRow_12 rfl (lv_at hl 1 rfl) ?_
        refine lv_aload_n hx hb dX0_multiplyRow_13 rfl (lv_at hl 0 rfl) ?_
        refine x0_get S hin hK hP rfl 6 (by decide) rfl (by decide +kernel) (v := .int (nI (nC + mR))) rfl dX0_multiplyRow_14 ?_
        refine nv_imul hx hb dX0_multiplyRow_17 ?_
        refine lv_iload hx hb dX0_multiplyRow_18 (lv_at hl 3 rfl) ?_
        refine nv_iadd hx hb dX0_multiplyRow_20 ?_
        refine lv_istore (lv' := [(5, .int (nI ((ro * (nC + mR)) + i))), (0, .ref h), (1, .int (nI ro)), (2, .long (lN fc)), (4, .int (nI i))]) hx hb dX0_multiplyRow_21 hl (by decide) rfl (fun ls hl => ?_)
        refine lv_aload_n hx hb dX0_multiplyRow_23 rfl (lv_at hl 1 rfl) ?_
        refine x0_get S hin hK hP rfl 5 (by decide) rfl (by decide +kernel) (v := .ref a3) rfl dX0_multiplyRow_24 ?_
        refine lv_iload hx hb dX0_multiplyRow_27 (lv_at hl 0 rfl) ?_
        refine lv_aload_n hx hb dX0_multiplyRow_29 rfl (lv_at hl 1 rfl) ?_
        refine x0_get S hin hK hP rfl 5 (by decide) rfl (by decide +kernel) (v := .ref a3) rfl dX0_multiplyRow_30 ?_
        refine lv_iload hx hb dX0_multiplyRow_33 (lv_at hl 0 rfl) ?_
        refine nv_iald hx hb hK hP 3 0 rfl rfl (v := nI (col2 i (scl P M ro fc) M ro i)) (ix_lt h1 (by omega)) (bd3 hm hn) (hinv ro h1 i (by omega)) dX0_multiplyRow_35 ?_
        refine nv_i2l hx hb (by omega) dX0_multiplyRow_36 ?_
        refine lv_lload_n hx hb dX0_multiplyRow_37 rfl (lv_at hl 3 rfl) ?_
        refine nv_lmul hx hb dX0_multiplyRow_38 ?_
        refine lv_aload_n hx hb dX0_multiplyRow_39 rfl (lv_at hl 1 rfl) ?_
        refine x0_get S hin hK hP rfl 0 (by decide) rfl (by decide +kernel) (v := .int (nI P)) rfl dX0_multiplyRow_40 ?_
        refine nv_i2l hx hb (by omega) dX0_multiplyRow_43 ?_
        refine nv_lrem hx hb (mul_b (by omega) (by omega)) (by omega) (by omega) dX0_multiplyRow_44 ?_
        refine nv_l2i hx hb dX0_multiplyRow_45 ?_
        refine nv_iast hx hb hK hP hD hS 3 0 rfl rfl (ix_lt h1 (by omega)) (bd3 hm hn) dX0_multiplyRow_46 (fun H locs hP hD hS => ?_)
        have hP : va_P D vwCl (pbW h a1 a2 a3 a4 cA (nI P) mR nC fA fB (upd f ((ro * (nC + mR)) + i) (nI (((col2 i (scl P M ro fc) M ro i) * fc) % P))) fP rd pv pp) H := hP
        have hD : va_D A (pbW h a1 a2 a3 a4 cA (nI P) mR nC fA fB (upd f ((ro * (nC + mR)) + i) (nI (((col2 i (scl P M ro fc) M ro i) * fc) % P))) fP rd pv pp) := hD
        refine lv_iinc (v := nI (i + 1)) (lv' := [(4, .int (nI (i + 1))), (5, .int (nI ((ro * (nC + mR)) + i))), (0, .ref h), (1, .int (nI ro)), (2, .long (lN fc))]) hx hb dX0_multiplyRow_47 hl (k := 4) rfl (nv_inc i 1) (by decide) rfl (fun ls hl => ?_)
        refine lv_goto (tgt := 3) hx hb dX0_multiplyRow_50 (by decide) ?_
        exact ihL (upd f ((ro * (nC + mR)) + i) (nI (((col2 i (scl P M ro fc) M ro i) * fc) % P))) (i + 1) (by omega) (st_scl c_1 hinv) (by omega) ls _ _ (lv_sub hl [2, 3, 4, 0] rfl) hP hD hS
  exact L (nC + mR + 1) fW 0 (by omega) hM.col0 (by omega) ls _ _ (lv_sub hl [1, 2, 3, 0] rfl) hP hD hS
set_option maxHeartbeats 4000000 in
set_option maxRecDepth 100000 in
theorem c_X0_takeRow (l : Launch) (D : va_G) {h a1 a2 a3 a4 : Nat} {cA : ClassId} {mR nC : Nat} {fA fB fW fP : Nat → Int32} {rd pv pp : Nat} {P : Nat} {M : Mat} (tk tm fr : Nat) (hP2 : 2 ≤ P) (hPl : P < 2 ^ 31) (hm : mR ≤ 10) (hn : nC ≤ 10) (h1 : tk < mR) (h2 : tm < P) (h3 : fr < mR) (hB : bnd P M) (hM : Rp (nC + mR) mR fW M) : WrV (U := Nat → Int32) l yX0_takeRow wsX0_takeRow ({ frames := 1, cells := 0, slots := 0, locals := 22 }) [.ref h, .int (nI tk), .int (nI tm), .int (nI fr)] D (pbW h a1 a2 a3 a4 cA (nI P) mR nC fA fB fW fP rd pv pp) [(cA, .int)] (fun u => Rp (nC + mR) mR u (tkr P M tk fr (ng P tm))) (fun u => pbW h a1 a2 a3 a4 cA (nI P) mR nC fA fB u fP rd pv pp) := by
  refine WrV.mk (cc := cX0_takeRow) (maxL := 8) (by decide) rfl (Nat.le_of_ble_eq_true rfl) ?_
  intro p e s mm args below meth c Q ls A S hK hP hD hA hS hl hret
  have hx := S.1
  have hb := S.2.1
  have hts := S.2.2.2.2
  have hown := S.2.2.2.1
  have hin : ∀ w ∈ wsX00, w ∈ wsX0_takeRow := fun w h => List.mem_cons_of_mem _ (List.mem_append_right _ h)
  have hl : lv_has ls 8 [(0, .ref h), (1, .int (nI tk)), (2, .int (nI tm)), (3, .int (nI fr))] := hl
  refine lv_aload_n hx hb dX0_takeRow_0 rfl (lv_at hl 0 rfl) ?_
  refine lv_iload_n hx hb dX0_takeRow_1 rfl (lv_at hl 2 rfl) ?_
  refine nv_i2l hx hb (by omega) dX0_takeRow_2 ?_
  refine rdv_l S (c_X0_negative l D tm hPl h2) (cwV 1 hts gX0_takeRow_X0_negative rfl rfl rfl (by decide +kernel) ⟨Nat.le_of_ble_eq_true rfl, Nat.le_of_ble_eq_true rfl⟩) rfl hK hP (ci := 0) rfl rfl hl.1 (rest := []) rfl (Nat.le_of_ble_eq_true rfl) dX0_takeRow_3 ⟨Nat.zero_le _, Nat.zero_le _⟩ hP hS hA (fun r_1 H locs er_1 hP hS => ?_)
  subst er_1
  refine lv_lstore (lv' := [(4, .long (lN (ng P tm))), (0, .ref h), (1, .int (nI tk)), (2, .int (nI tm)), (3, .int (nI fr))]) hx hb dX0_takeRow_6 hl (by decide) rfl (fun ls hl => ?_)
  refine lv_iconst (v := nI 0) hx hb dX0_takeRow_8 (by decide +kernel) ?_
  refine lv_istore (lv' := [(6, .int (nI 0)), (4, .long (lN (ng P tm))), (0, .ref h), (1, .int (nI tk)), (2, .int (nI tm)), (3, .int (nI fr))]) hx hb dX0_takeRow_9 hl (by decide) rfl (fun ls hl => ?_)
  have L : ∀ (nL : Nat) (f : Nat → Int32) (i : Nat), (i ≤ nC + mR) → (Rp (nC + mR) mR f (col2 i (tkr P M tk fr (ng P tm)) M)) → (nC + mR + 1 ≤ i + nL) → ∀ (ls : Array Slot) (H : Heap) (locs : List Loc), lv_has ls 8 [(0, .ref h), (1, .int (nI tk)), (2, .int (nI tm)), (3, .int (nI fr)), (4, .long (lN (ng P tm))), (6, .int (nI i))] → va_P D vwCl (pbW h a1 a2 a3 a4 cA (nI P) mR nC fA fB f fP rd pv pp) H → va_D A (pbW h a1 a2 a3 a4 cA (nI P) mR nC fA fB f fP rd pv pp) → va_S A s.heap H locs → W p l e ({ frames := 1, cells := 0, slots := 0, locals := 22 }) s mm args below meth c H locs 0 0 Q (F0 mm 11 ls []) := by
    intro nL
    induction nL with
    | zero => intro f i hi hinv hfuel; exfalso; omega
    | succ nL ihL =>
      intro f i hi hinv hfuel ls H locs hl hP hD hS
      refine lv_iload hx hb dX0_takeRow_11 (lv_at hl 5 rfl) ?_
      refine lv_aload_n hx hb dX0_takeRow_13 rfl (lv_at hl 0 rfl) ?_
      refine x0_get S hin hK hP rfl 6 (by decide) rfl (by decide +kernel) (v := .int (nI (nC + mR))) rfl dX0_takeRow_14 ?_
      refine nv_icmp_ge (tgt := 78) hx hb dX0_takeRow_17 (by decide) (by omega) (by omega) (fun c_2 => ?_) (fun c_2 => ?_)
      · exact hret f 78 ls _ _ dX0_takeRow_78 hP hD hS (hinv.colw c_2)
      · have hbi : ∀ a b, col2 i (tkr P M tk fr (ng P tm)) M a b < P := bn_col2 (bn_tkr (by omega) hB tk fr (ng P tm)) hB i
        have hb1 := hbi fr i
        have hb2 := hbi tk i
        have hb3 : ng P tm < P := ng_lt (by omega)
        refine lv_iload_n hx hb dX0_takeRow_20 rfl (lv_at hl 3 rfl) ?_
        refine lv_aload_n hx hb dX0_takeRow_21 rfl (lv_at hl 0 rfl) ?_
        refine x0_get S hin hK hP rfl 6 (by decide) rfl (by decide +kernel) (v := .int (nI (nC + mR))) rfl dX0_takeRow_22 ?_
        refine nv_imul hx hb dX0_takeRow_25 ?_
        refine lv_iload hx hb dX0_takeRow_26 (lv_at hl 5 rfl) ?_
        refine nv_iadd hx hb dX0_takeRow_28 ?_
        refine lv_istore (lv' := [(7, .int (nI ((fr * (nC + mR)) + i))), (0, .ref h), (1, .int (nI tk)), (2, .int (nI tm)), (3, .int (nI fr)), (4, .long (lN (ng P tm))), (6, .int (nI i))]) hx hb dX0_takeRow_29 hl (by decide) rfl (fun ls hl => ?_)
        refine lv_aload_n hx hb dX0_takeRow_31 rfl (lv_at hl 1 rfl) ?_
        refine x0_get S hin hK hP rfl 5 (by decide) rfl (by decide +kernel) (v := .ref a3) rfl dX0_takeRow_32 ?_
        refine lv_iload hx hb dX0_takeRow_35 (lv_at hl 0 rfl) ?_
        refine lv_aload_n hx hb dX0_takeRow_37 rfl (lv_at hl 1 rfl) ?_
        refine x0_get S hin hK hP rfl 5 (by decide) rfl (by decide +kernel) (v := .ref a3) rfl dX0_takeRow_38 ?_
        refine lv_iload hx hb dX0_takeRow_41 (lv_at hl 0 rfl) ?_
        refine nv_iald hx hb hK hP 3 0 rfl rfl (v := nI (col2 i (tkr P M tk fr (ng P tm)) M fr i)) (ix_lt h3 (by omega)) (bd3 hm hn) (hinv fr h3 i (by omega)) dX0_takeRow_43 ?_
        refine nv_i2l hx hb (by omega) dX0_takeRow_44 ?_
        refine lv_lload hx hb dX0_takeRow_45 (lv_at hl 5 rfl) ?_
        refine lv_aload_n hx hb dX0_takeRow_47 rfl (lv_at hl 1 rfl) ?_
        refine x0_get S hin hK hP rfl 5 (by decide) rfl (by decide +kernel) (v := .ref a3) rfl dX0_takeRow_48 ?_
        refine lv_iload_n hx hb dX0_takeRow_51 rfl (lv_at hl 2 rfl) ?_
        refine lv_aload_n hx hb dX0_takeRow_52 rfl (lv_at hl 1 rfl) ?_
        refine x0_get S hin hK hP rfl 6 (by decide) rfl (by decide +kernel) (v := .int (nI (nC + mR))) rfl dX0_takeRow_53 ?_
        refine nv_imul hx hb dX0_takeRow_56 ?_
        refine lv_iload hx hb dX0_takeRow_57 (lv_at hl 6 rfl) ?_
        refine nv_iadd hx hb dX0_takeRow_59 ?_
        refine nv_iald hx hb hK hP 3 0 rfl rfl (v := nI (col2 i (tkr P M tk fr (ng P tm)) M tk i)) (ix_lt h1 (by omega)) (bd3 hm hn) (hinv tk h1 i (by omega)) dX0_takeRow_60 ?_
        refine nv_i2l hx hb (by omega) dX0_takeRow_61 ?_
        refine nv_lmul hx hb dX0_takeRow_62 ?_
        refine nv_ladd hx hb dX0_takeRow_63 ?_
        refine lv_aload_n hx hb dX0_takeRow_64 rfl (lv_at hl 1 rfl) ?_
        refine x0_get S hin hK hP rfl 0 (by decide) rfl (by decide +kernel) (v := .int (nI P)) rfl dX0_takeRow_65 ?_
        refine nv_i2l hx hb (by omega) dX0_takeRow_68 ?_
        refine nv_lrem hx hb (mul_b2 (by omega) (by omega) (by omega)) (by omega) (by omega) dX0_takeRow_69 ?_
        refine nv_l2i hx hb dX0_takeRow_70 ?_
        refine nv_iast hx hb hK hP hD hS 3 0 rfl rfl (ix_lt h3 (by omega)) (bd3 hm hn) dX0_takeRow_71 (fun H locs hP hD hS => ?_)
        have hP : va_P D vwCl (pbW h a1 a2 a3 a4 cA (nI P) mR nC fA fB (upd f ((fr * (nC + mR)) + i) (nI (((col2 i (tkr P M tk fr (ng P tm)) M fr i) + ((ng P tm) * (col2 i (tkr P M tk fr (ng P tm)) M tk i))) % P))) fP rd pv pp) H := hP
        have hD : va_D A (pbW h a1 a2 a3 a4 cA (nI P) mR nC fA fB (upd f ((fr * (nC + mR)) + i) (nI (((col2 i (tkr P M tk fr (ng P tm)) M fr i) + ((ng P tm) * (col2 i (tkr P M tk fr (ng P tm)) M tk i))) % P))) fP rd pv pp) := hD
        refine lv_iinc (v := nI (i + 1)) (lv' := [(6, .int (nI (i + 1))), (7, .int (nI ((fr * (nC + mR)) + i))), (0, .ref h), (1, .int (nI tk)), (2, .int (nI tm)), (3, .int (nI fr)), (4, .long (lN (ng P tm)))]) hx hb dX0_takeRow_72 hl (k := 6) rfl (nv_inc i 1) (by decide) rfl (fun ls hl => ?_)
        refine lv_goto (tgt := 11) hx hb dX0_takeRow_75 (by decide) ?_
        exact ihL (upd f ((fr * (nC + mR)) + i) (nI (((col2 i (tkr P M tk fr (ng P tm)) M fr i) + ((ng P tm) * (col2 i (tkr P M tk fr (ng P tm)) M tk i))) % P))) (i + 1) (by omega) (st_tkr c_2 hinv) (by omega) ls _ _ (lv_sub hl [2, 3, 4, 5, 6, 0] rfl) hP hD hS
  exact L (nC + mR + 1) fW 0 (by omega) hM.col0 (by omega) ls _ _ (lv_sub hl [2, 3, 4, 5, 1, 0] rfl) hP hD hS
set_option maxHeartbeats 4000000 in
set_option maxRecDepth 100000 in
theorem c_X0_changedRightSide (l : Launch) (D : va_G) {h a1 a2 a3 a4 : Nat} {cA : ClassId} {mR nC : Nat} {fA fB fW fP : Nat → Int32} {rd pv pp : Nat} {P : Nat} {M : Mat} {b : Nat → Nat} (ro : Nat) (hP2 : 2 ≤ P) (hPl : P < 2 ^ 31) (hm : mR ≤ 10) (hn : nC ≤ 10) (h1 : ro < mR) (hB : bnd P M) (hM : Rp (nC + mR) mR fW M) (hbb : ∀ i, b i < P) (hb1 : ∀ i, i < mR → fB i = nI (b i)) : RdI l yX0_changedRightSide wsX0_changedRightSide ({ frames := 1, cells := 0, slots := 0, locals := 22 }) [.ref h, .int (nI ro)] D (pbW h a1 a2 a3 a4 cA (nI P) mR nC fA fB fW fP rd pv pp) [(cA, .int)] (fun r => r = nI (chg P (fun k => M ro (nC + k)) b mR)) := by
  refine RdI.mk (cc := cX0_changedRightSide) (maxL := 5) (rt := .int) (by decide) rfl (Nat.le_of_ble_eq_true rfl) ?_
  intro p e s mm args below meth c Q ls A S hK hP hA hS hl hret
  have hx := S.1
  have hb := S.2.1
  have hts := S.2.2.2.2
  have hown := S.2.2.2.1
  have hin : ∀ w ∈ wsX00, w ∈ wsX0_changedRightSide := fun w h => List.mem_cons_of_mem _ (List.mem_append_right _ h)
  have hl : lv_has ls 5 [(0, .ref h), (1, .int (nI ro))] := hl
  refine lv_lconst (v := lN 0) hx hb dX0_changedRightSide_0 rfl ?_
  refine lv_lstore_n (lv' := [(2, .long (lN 0)), (0, .ref h), (1, .int (nI ro))]) hx hb dX0_changedRightSide_1 rfl hl (by decide) rfl (fun ls hl => ?_)
  refine lv_iconst (v := nI 0) hx hb dX0_changedRightSide_2 (by decide +kernel) ?_
  refine lv_istore (lv' := [(4, .int (nI 0)), (2, .long (lN 0)), (0, .ref h), (1, .int (nI ro))]) hx hb dX0_changedRightSide_3 hl (by decide) rfl (fun ls hl => ?_)
  have L : ∀ (nL : Nat) (i : Nat), (i ≤ mR) → (mR + 1 ≤ i + nL) → ∀ (ls : Array Slot) (H : Heap) (locs : List Loc), lv_has ls 5 [(0, .ref h), (1, .int (nI ro)), (2, .long (lN (chg P (fun k => M ro (nC + k)) b i))), (4, .int (nI i))] → va_P D vwCl (pbW h a1 a2 a3 a4 cA (nI P) mR nC fA fB fW fP rd pv pp) H → va_S A s.heap H locs → W p l e ({ frames := 1, cells := 0, slots := 0, locals := 22 }) s mm args below meth c H locs 0 0 Q (F0 mm 5 ls []) := by
    intro nL
    induction nL with
    | zero => intro i hi hfuel; exfalso; omega
    | succ nL ihL =>
      intro i hi hfuel ls H locs hl hP hS
      refine lv_iload hx hb dX0_changedRightSide_5 (lv_at hl 3 rfl) ?_
      refine lv_aload_n hx hb dX0_changedRightSide_7 rfl (lv_at hl 0 rfl) ?_
      refine x0_get S hin hK hP rfl 1 (by decide) rfl (by decide +kernel) (v := .int (nI mR)) rfl dX0_changedRightSide_8 ?_
      refine nv_icmp_ge (tgt := 46) hx hb dX0_changedRightSide_11 (by decide) (by omega) (by omega) (fun c_1 => ?_) (fun c_1 => ?_)
      · refine lv_lload_n hx hb dX0_changedRightSide_46 rfl (lv_at hl 2 rfl) ?_
        refine nv_l2i hx hb dX0_changedRightSide_47 ?_
        exact hret (nI (chg P (fun k => M ro (nC + k)) b i)) 48 ls _ _ dX0_changedRightSide_48 (rfl) hS (by rw [show i = mR by omega])
      · refine lv_lload_n hx hb dX0_changedRightSide_14 rfl (lv_at hl 2 rfl) ?_
        refine lv_aload_n hx hb dX0_changedRightSide_15 rfl (lv_at hl 0 rfl) ?_
        refine lv_iload_n hx hb dX0_changedRightSide_16 rfl (lv_at hl 1 rfl) ?_
        refine lv_iload hx hb dX0_changedRightSide_17 (lv_at hl 3 rfl) ?_
        refine rdv_i S (c_X0_transformNumber l D (M := M) ro i hm hn h1 c_1 hM) (cwV 2 hts gX0_changedRightSide_X0_transformNumber rfl rfl rfl (by decide +kernel) ⟨Nat.le_of_ble_eq_true rfl, Nat.le_of_ble_eq_true rfl⟩) rfl hK hP (ci := 0) rfl rfl hl.1 (rest := [.long (lN (chg P (fun k => M ro (nC + k)) b i))]) rfl (Nat.le_of_ble_eq_true rfl) dX0_changedRightSide_19 ⟨Nat.zero_le _, Nat.zero_le _⟩ hP hS hA (fun r_2 H locs er_2 hP hS => ?_)
        subst er_2
        have hb2 := hB ro (nC + i)
        have hb3 := hbb i
        have hb4 := chg_lt (show 0 < P by omega) (fun k => M ro (nC + k)) b i
        refine nv_i2l hx hb (by omega) dX0_changedRightSide_22 ?_
        refine lv_aload_n hx hb dX0_changedRightSide_23 rfl (lv_at hl 0 rfl) ?_
        refine x0_get S hin hK hP rfl 4 (by decide) rfl (by decide +kernel) (v := .ref a2) rfl dX0_changedRightSide_24 ?_
        refine lv_iload hx hb dX0_changedRightSide_27 (lv_at hl 3 rfl) ?_
        refine nv_iald hx hb hK hP 2 0 rfl rfl (v := nI (b i)) (by omega) (by omega) (hb1 i (by omega)) dX0_changedRightSide_29 ?_
        refine nv_i2l hx hb (by omega) dX0_changedRightSide_30 ?_
        refine nv_lmul hx hb dX0_changedRightSide_31 ?_
        refine nv_ladd hx hb dX0_changedRightSide_32 ?_
        refine lv_aload_n hx hb dX0_changedRightSide_33 rfl (lv_at hl 0 rfl) ?_
        refine x0_get S hin hK hP rfl 0 (by decide) rfl (by decide +kernel) (v := .int (nI P)) rfl dX0_changedRightSide_34 ?_
        refine nv_i2l hx hb (by omega) dX0_changedRightSide_37 ?_
        refine nv_lrem hx hb (mul_b2 (by omega) (by omega) (by omega)) (by omega) (by omega) dX0_changedRightSide_38 ?_
        refine lv_lstore_n (lv' := [(2, .long (lN (((chg P (fun k => M ro (nC + k)) b i) + ((M ro (nC + i)) * (b i))) % P))), (0, .ref h), (1, .int (nI ro)), (4, .int (nI i))]) hx hb dX0_changedRightSide_39 rfl hl (by decide) rfl (fun ls hl => ?_)
        refine lv_iinc (v := nI (i + 1)) (lv' := [(4, .int (nI (i + 1))), (2, .long (lN (((chg P (fun k => M ro (nC + k)) b i) + ((M ro (nC + i)) * (b i))) % P))), (0, .ref h), (1, .int (nI ro))]) hx hb dX0_changedRightSide_40 hl (k := 3) rfl (nv_inc i 1) (by decide) rfl (fun ls hl => ?_)
        refine lv_goto (tgt := 5) hx hb dX0_changedRightSide_43 (by decide) ?_
        exact ihL (i + 1) (by omega) (by omega) ls _ _ (lv_sub hl [2, 3, 1, 0] rfl) hP hS
  exact L (mR + 1) 0 (by omega) (by omega) ls _ _ (lv_sub hl [2, 3, 1, 0] rfl) hP hS
