set_option maxHeartbeats 4000000 in
set_option maxRecDepth 100000 in
theorem c_X1_isPrime (l : Launch) (D : va_G)  (i : Int32)  : RdI l yX1_isPrime wsX1_isPrime ({ frames := 0, cells := 0, slots := 0, locals := 0 }) [.int i] D ([]) [] (fun r => IsPr i r) := by
  refine RdI.mk (cc := cX1_isPrime) (maxL := 4) (rt := .boolean) (by decide) rfl (Nat.le_of_ble_eq_true rfl) ?_
  intro p e s mm args below meth c Q ls A S hK hP hA hS hl hret
  have hx := S.1
  have hb := S.2.1
  have hts := S.2.2.2.2
  have hown := S.2.2.2.1
  have hl : lv_has ls 4 [(0, .int i)] := hl
  refine lv_iload_n hx hb dX1_isPrime_0 rfl (lv_at hl 0 rfl) ?_
  refine lv_iconst (v := nI 1) hx hb dX1_isPrime_1 (by decide +kernel) ?_
  refine lv_icmp_le (tgt := 9) hx hb dX1_isPrime_2 (by decide) (fun c_1 => ?_) (fun c_1 => ?_)
  · refine lv_iconst (v := nI 0) hx hb dX1_isPrime_9 (by decide +kernel) ?_
    refine lv_istore_n (lv' := [(1, .int (nI 0)), (0, .int i)]) hx hb dX1_isPrime_10 rfl hl (by decide) rfl (fun ls hl => ?_)
    refine lv_ldc2 (v := lN 2) hx hb hown (hts (.constantLong RX1 48 (2)) (by decide +kernel)) dX1_isPrime_11 ?_
    refine lv_lstore_n (lv' := [(2, .long (lN 2)), (1, .int (nI 0)), (0, .int i)]) hx hb dX1_isPrime_14 rfl hl (by decide) rfl (fun ls hl => ?_)
    refine lv_iload_n hx hb dX1_isPrime_15 rfl (lv_at hl 1 rfl) ?_
    refine nv_if_eq (tgt := 50) hx hb dX1_isPrime_16 (by decide) (by decide) (fun _ => ?_) (fun q => absurd q (by decide))
    refine lv_iload_n hx hb dX1_isPrime_50 rfl (lv_at hl 1 rfl) ?_
    exact hret (nI 0) 51 ls _ _ dX1_isPrime_51 (by decide +kernel) hS (au_le c_1)
  · obtain ⟨v, hv2, hvl, rfl⟩ := au_gt c_1
    refine lv_iconst (v := nI 1) hx hb dX1_isPrime_5 (by decide +kernel) ?_
    refine lv_goto (tgt := 10) hx hb dX1_isPrime_6 (by decide) ?_
    refine lv_istore_n (lv' := [(1, .int (nI 1)), (0, .int (nI v))]) hx hb dX1_isPrime_10 rfl hl (by decide) rfl (fun ls hl => ?_)
    refine lv_ldc2 (v := lN 2) hx hb hown (hts (.constantLong RX1 48 (2)) (by decide +kernel)) dX1_isPrime_11 ?_
    refine lv_lstore_n (lv' := [(2, .long (lN 2)), (1, .int (nI 1)), (0, .int (nI v))]) hx hb dX1_isPrime_14 rfl hl (by decide) rfl (fun ls hl => ?_)
    have L : ∀ (nL : Nat) (d : Nat), (2 ≤ d) → (d ≤ 46343) → (AllUp v d) → (46344 ≤ d + nL) → ∀ (ls : Array Slot) (H : Heap) (locs : List Loc), lv_has ls 4 [(0, .int (nI v)), (1, .int (nI 1)), (2, .long (lN d))] → va_P D vwCl ([]) H → va_S A s.heap H locs → W p l e ({ frames := 0, cells := 0, slots := 0, locals := 0 }) s mm args below meth c H locs 0 0 Q (F0 mm 15 ls []) := by
      intro nL
      induction nL with
      | zero => intro d hd1 hd2 hinv hfuel; exfalso; omega
      | succ nL ihL =>
        intro d hd1 hd2 hinv hfuel ls H locs hl hP hS
        refine lv_iload_n hx hb dX1_isPrime_15 rfl (lv_at hl 1 rfl) ?_
        refine nv_if_eq (tgt := 50) hx hb dX1_isPrime_16 (by decide) (by decide) (fun q => absurd q (by decide)) (fun _ => ?_)
        refine lv_lload_n hx hb dX1_isPrime_19 rfl (lv_at hl 2 rfl) ?_
        refine lv_lload_n hx hb dX1_isPrime_20 rfl (lv_at hl 2 rfl) ?_
        refine nv_lmul hx hb dX1_isPrime_21 ?_
        refine lv_iload_n hx hb dX1_isPrime_22 rfl (lv_at hl 0 rfl) ?_
        refine nv_i2l hx hb (by omega) dX1_isPrime_23 ?_
        refine nv_lcmp_gt (tgt := 50) hx hb dX1_isPrime_24 dX1_isPrime_25 (by decide) (mul_b (by omega) (by omega)) (by omega) (fun c_4 => ?_) (fun c_4 => ?_)
        · refine lv_iload_n hx hb dX1_isPrime_50 rfl (lv_at hl 1 rfl) ?_
          exact hret (nI 1) 51 ls _ _ dX1_isPrime_51 (by decide +kernel) hS (au_yes hv2 hvl hinv c_4)
        · have hd3 := sq_lt hvl c_4
          refine lv_iload_n hx hb dX1_isPrime_28 rfl (lv_at hl 0 rfl) ?_
          refine nv_i2l hx hb (by omega) dX1_isPrime_29 ?_
          refine lv_lload_n hx hb dX1_isPrime_30 rfl (lv_at hl 2 rfl) ?_
          refine nv_lrem hx hb (by omega) (by omega) (by omega) dX1_isPrime_31 ?_
          refine lv_lconst (v := lN 0) hx hb dX1_isPrime_32 rfl ?_
          refine nv_lcmp_eq (tgt := 41) hx hb dX1_isPrime_33 dX1_isPrime_34 (by decide) (Nat.lt_of_lt_of_le (Nat.mod_lt _ (by omega)) (show d ≤ 2 ^ 63 by omega)) (by omega) (fun c_5 => ?_) (fun c_5 => ?_)
          · refine lv_iconst (v := nI 0) hx hb dX1_isPrime_41 (by decide +kernel) ?_
            refine lv_istore_n (lv' := [(1, .int (nI 0)), (0, .int (nI v)), (2, .long (lN d))]) hx hb dX1_isPrime_42 rfl hl (by decide) rfl (fun ls hl => ?_)
            refine lv_lload_n hx hb dX1_isPrime_43 rfl (lv_at hl 2 rfl) ?_
            refine lv_lconst (v := lN 1) hx hb dX1_isPrime_44 rfl ?_
            refine nv_ladd hx hb dX1_isPrime_45 ?_
            refine lv_lstore_n (lv' := [(2, .long (lN (d + 1))), (1, .int (nI 0)), (0, .int (nI v))]) hx hb dX1_isPrime_46 rfl hl (by decide) rfl (fun ls hl => ?_)
            refine lv_goto (tgt := 15) hx hb dX1_isPrime_47 (by decide) ?_
            refine lv_iload_n hx hb dX1_isPrime_15 rfl (lv_at hl 1 rfl) ?_
            refine nv_if_eq (tgt := 50) hx hb dX1_isPrime_16 (by decide) (by decide) (fun _ => ?_) (fun q => absurd q (by decide))
            refine lv_iload_n hx hb dX1_isPrime_50 rfl (lv_at hl 1 rfl) ?_
            exact hret (nI 0) 51 ls _ _ dX1_isPrime_51 (by decide +kernel) hS (pr_not hvl (fun hp => hp.2 d (by omega) c_4 c_5))
          · refine lv_iconst (v := nI 1) hx hb dX1_isPrime_37 (by decide +kernel) ?_
            refine lv_goto (tgt := 42) hx hb dX1_isPrime_38 (by decide) ?_
            refine lv_istore_n (lv' := [(1, .int (nI 1)), (0, .int (nI v)), (2, .long (lN d))]) hx hb dX1_isPrime_42 rfl hl (by decide) rfl (fun ls hl => ?_)
            refine lv_lload_n hx hb dX1_isPrime_43 rfl (lv_at hl 2 rfl) ?_
            refine lv_lconst (v := lN 1) hx hb dX1_isPrime_44 rfl ?_
            refine nv_ladd hx hb dX1_isPrime_45 ?_
            refine lv_lstore_n (lv' := [(2, .long (lN (d + 1))), (1, .int (nI 1)), (0, .int (nI v))]) hx hb dX1_isPrime_46 rfl hl (by decide) rfl (fun ls hl => ?_)
            refine lv_goto (tgt := 15) hx hb dX1_isPrime_47 (by decide) ?_
            exact ihL (d + 1) (by omega) (by omega) (au_step hinv c_5) (by omega) ls _ _ (lv_sub hl [2, 1, 0] rfl) hP hS
    exact L 46344 2 (by omega) (by omega) (fun e h1 h2 => by omega) (by omega) ls _ _ (lv_sub hl [2, 1, 0] rfl) hP hS
set_option maxHeartbeats 4000000 in
set_option maxRecDepth 100000 in
theorem c_X1_isPlace (l : Launch) (D : va_G) {h b1 b2 b3 b4 b5 : Nat} {cJ cI : ClassId} {gA gB : Nat → Int64} {rd rk : Nat} {gR : Nat → Int64} {gP : Nat → Int32} {gS : Nat → Int64} {pj : Int64} {mi ni : Int32} {vd P mR nC : Nat} (i j : Int32) (hvd : vd < 2) (hV : vd ≠ 0 → MdV pj mi ni P mR nC) (hI : vd = 0 → mR = 0 ∧ nC = 0) : RdI l yX1_isPlace wsX1_isPlace ({ frames := 0, cells := 0, slots := 0, locals := 0 }) [.ref h, .int i, .int j] D (mdW h b1 b2 b3 b4 b5 cJ cI pj mi ni vd gA gB rd rk gR gP gS) [(cJ, .long), (cI, .int)] (fun r => Isin2 mR nC i j (vd ≠ 0) r) := by
  refine RdI.mk (cc := cX1_isPlace) (maxL := 3) (rt := .boolean) (by decide) rfl (Nat.le_of_ble_eq_true rfl) ?_
  intro p e s mm args below meth c Q ls A S hK hP hA hS hl hret
  have hx := S.1
  have hb := S.2.1
  have hts := S.2.2.2.2
  have hown := S.2.2.2.1
  have hin : ∀ w ∈ wsX10, w ∈ wsX1_isPlace := fun w h => List.mem_cons_of_mem _ (List.mem_append_right _ h)
  have hl : lv_has ls 3 [(0, .ref h), (1, .int i), (2, .int j)] := hl
  refine lv_aload_n hx hb dX1_isPlace_0 rfl (lv_at hl 0 rfl) ?_
  refine x1_get S hin hK hP rfl 4 (by decide) rfl (by decide +kernel) (v := .int (nI vd)) rfl dX1_isPlace_1 ?_
  refine nv_if_eq (tgt := 35) hx hb dX1_isPlace_4 (by decide) (by omega) (fun c_1 => ?_) (fun c_1 => ?_)
  · refine lv_iconst (v := nI 0) hx hb dX1_isPlace_35 (by decide +kernel) ?_
    exact hret (nI 0) 36 ls _ _ dX1_isPlace_36 (by decide +kernel) hS (Or.inr ⟨fun z => by rw [(hI c_1).1, inb_0] at z; exact absurd z.1 (by decide), rfl⟩)
  · have hV0 : vd ≠ 0 := by omega
    obtain ⟨rfl, rfl, rfl, hP2, hPl, hm1, hm, hn1, hn⟩ := hV hV0
    refine lv_iload_n hx hb dX1_isPlace_7 rfl (lv_at hl 1 rfl) ?_
    refine lv_if_lt (tgt := 35) hx hb dX1_isPlace_8 (by decide) (fun c_2 => ?_) (fun c_2 => ?_)
    · refine lv_iconst (v := nI 0) hx hb dX1_isPlace_35 (by decide +kernel) ?_
      exact hret (nI 0) 36 ls _ _ dX1_isPlace_36 (by decide +kernel) hS (Or.inr ⟨fun z => by rw [inb_f (out_row (by omega) (Or.inl c_2)) (by omega)] at z; exact absurd z.1 (by decide), rfl⟩)
    · refine lv_iload_n hx hb dX1_isPlace_11 rfl (lv_at hl 1 rfl) ?_
      refine lv_aload_n hx hb dX1_isPlace_12 rfl (lv_at hl 0 rfl) ?_
      refine x1_get S hin hK hP rfl 2 (by decide) rfl (by decide +kernel) (v := .int (nI mR)) rfl dX1_isPlace_13 ?_
      refine lv_icmp_ge (tgt := 35) hx hb dX1_isPlace_16 (by decide) (fun c_3 => ?_) (fun c_3 => ?_)
      · refine lv_iconst (v := nI 0) hx hb dX1_isPlace_35 (by decide +kernel) ?_
        exact hret (nI 0) 36 ls _ _ dX1_isPlace_36 (by decide +kernel) hS (Or.inr ⟨fun z => by rw [inb_f (out_row (by omega) (Or.inr c_3)) (by omega)] at z; exact absurd z.1 (by decide), rfl⟩)
      · obtain ⟨k1, hk1, rfl⟩ := in_row (i := i) (m := mR) (by omega) c_2 c_3
        refine lv_iload_n hx hb dX1_isPlace_19 rfl (lv_at hl 2 rfl) ?_
        refine lv_if_lt (tgt := 35) hx hb dX1_isPlace_20 (by decide) (fun c_4 => ?_) (fun c_4 => ?_)
        · refine lv_iconst (v := nI 0) hx hb dX1_isPlace_35 (by decide +kernel) ?_
          exact hret (nI 0) 36 ls _ _ dX1_isPlace_36 (by decide +kernel) hS (Or.inr ⟨fun z => by rw [inb_f (m := nC) (out_row (by omega) (Or.inl c_4)) (by omega)] at z; exact absurd z.2 (by decide), rfl⟩)
        · refine lv_iload_n hx hb dX1_isPlace_23 rfl (lv_at hl 2 rfl) ?_
          refine lv_aload_n hx hb dX1_isPlace_24 rfl (lv_at hl 0 rfl) ?_
          refine x1_get S hin hK hP rfl 3 (by decide) rfl (by decide +kernel) (v := .int (nI nC)) rfl dX1_isPlace_25 ?_
          refine lv_icmp_ge (tgt := 35) hx hb dX1_isPlace_28 (by decide) (fun c_5 => ?_) (fun c_5 => ?_)
          · refine lv_iconst (v := nI 0) hx hb dX1_isPlace_35 (by decide +kernel) ?_
            exact hret (nI 0) 36 ls _ _ dX1_isPlace_36 (by decide +kernel) hS (Or.inr ⟨fun z => by rw [inb_f (m := nC) (out_row (by omega) (Or.inr c_5)) (by omega)] at z; exact absurd z.2 (by decide), rfl⟩)
          · obtain ⟨k2, hk2, rfl⟩ := in_row (i := j) (m := nC) (by omega) c_4 c_5
            refine lv_iconst (v := nI 1) hx hb dX1_isPlace_31 (by decide +kernel) ?_
            refine lv_goto (tgt := 36) hx hb dX1_isPlace_32 (by decide) ?_
            exact hret (nI 1) 36 ls _ _ dX1_isPlace_36 (by decide +kernel) hS (Or.inl ⟨k1, k2, hk1, hk2, rfl, rfl, hV0, rfl⟩)
set_option maxHeartbeats 4000000 in
set_option maxRecDepth 100000 in
theorem c_X1_isSquare (l : Launch) (D : va_G) {h b1 b2 b3 b4 b5 : Nat} {cJ cI : ClassId} {gA gB : Nat → Int64} {rd rk : Nat} {gR : Nat → Int64} {gP : Nat → Int32} {gS : Nat → Int64} {pj : Int64} {mi ni : Int32} {vd P mR nC : Nat} (i j : Int32) (hvd : vd < 2) (hV : vd ≠ 0 → MdV pj mi ni P mR nC) (hI : vd = 0 → mR = 0 ∧ nC = 0) : RdI l yX1_isSquare wsX1_isSquare ({ frames := 0, cells := 0, slots := 0, locals := 0 }) [.ref h, .int i, .int j] D (mdW h b1 b2 b3 b4 b5 cJ cI pj mi ni vd gA gB rd rk gR gP gS) [(cJ, .long), (cI, .int)] (fun r => Isin2 mR mR i j (vd ≠ 0) r) := by
  refine RdI.mk (cc := cX1_isSquare) (maxL := 3) (rt := .boolean) (by decide) rfl (Nat.le_of_ble_eq_true rfl) ?_
  intro p e s mm args below meth c Q ls A S hK hP hA hS hl hret
  have hx := S.1
  have hb := S.2.1
  have hts := S.2.2.2.2
  have hown := S.2.2.2.1
  have hin : ∀ w ∈ wsX10, w ∈ wsX1_isSquare := fun w h => List.mem_cons_of_mem _ (List.mem_append_right _ h)
  have hl : lv_has ls 3 [(0, .ref h), (1, .int i), (2, .int j)] := hl
  refine lv_aload_n hx hb dX1_isSquare_0 rfl (lv_at hl 0 rfl) ?_
  refine x1_get S hin hK hP rfl 4 (by decide) rfl (by decide +kernel) (v := .int (nI vd)) rfl dX1_isSquare_1 ?_
  refine nv_if_eq (tgt := 35) hx hb dX1_isSquare_4 (by decide) (by omega) (fun c_1 => ?_) (fun c_1 => ?_)
  · refine lv_iconst (v := nI 0) hx hb dX1_isSquare_35 (by decide +kernel) ?_
    exact hret (nI 0) 36 ls _ _ dX1_isSquare_36 (by decide +kernel) hS (Or.inr ⟨fun z => by rw [(hI c_1).1, inb_0] at z; exact absurd z.1 (by decide), rfl⟩)
  · have hV0 : vd ≠ 0 := by omega
    obtain ⟨rfl, rfl, rfl, hP2, hPl, hm1, hm, hn1, hn⟩ := hV hV0
    refine lv_iload_n hx hb dX1_isSquare_7 rfl (lv_at hl 1 rfl) ?_
    refine lv_if_lt (tgt := 35) hx hb dX1_isSquare_8 (by decide) (fun c_2 => ?_) (fun c_2 => ?_)
    · refine lv_iconst (v := nI 0) hx hb dX1_isSquare_35 (by decide +kernel) ?_
      exact hret (nI 0) 36 ls _ _ dX1_isSquare_36 (by decide +kernel) hS (Or.inr ⟨fun z => by rw [inb_f (out_row (by omega) (Or.inl c_2)) (by omega)] at z; exact absurd z.1 (by decide), rfl⟩)
    · refine lv_iload_n hx hb dX1_isSquare_11 rfl (lv_at hl 1 rfl) ?_
      refine lv_aload_n hx hb dX1_isSquare_12 rfl (lv_at hl 0 rfl) ?_
      refine x1_get S hin hK hP rfl 2 (by decide) rfl (by decide +kernel) (v := .int (nI mR)) rfl dX1_isSquare_13 ?_
      refine lv_icmp_ge (tgt := 35) hx hb dX1_isSquare_16 (by decide) (fun c_3 => ?_) (fun c_3 => ?_)
      · refine lv_iconst (v := nI 0) hx hb dX1_isSquare_35 (by decide +kernel) ?_
        exact hret (nI 0) 36 ls _ _ dX1_isSquare_36 (by decide +kernel) hS (Or.inr ⟨fun z => by rw [inb_f (out_row (by omega) (Or.inr c_3)) (by omega)] at z; exact absurd z.1 (by decide), rfl⟩)
      · obtain ⟨k1, hk1, rfl⟩ := in_row (i := i) (m := mR) (by omega) c_2 c_3
        refine lv_iload_n hx hb dX1_isSquare_19 rfl (lv_at hl 2 rfl) ?_
        refine lv_if_lt (tgt := 35) hx hb dX1_isSquare_20 (by decide) (fun c_4 => ?_) (fun c_4 => ?_)
        · refine lv_iconst (v := nI 0) hx hb dX1_isSquare_35 (by decide +kernel) ?_
          exact hret (nI 0) 36 ls _ _ dX1_isSquare_36 (by decide +kernel) hS (Or.inr ⟨fun z => by rw [inb_f (m := mR) (out_row (by omega) (Or.inl c_4)) (by omega)] at z; exact absurd z.2 (by decide), rfl⟩)
        · refine lv_iload_n hx hb dX1_isSquare_23 rfl (lv_at hl 2 rfl) ?_
          refine lv_aload_n hx hb dX1_isSquare_24 rfl (lv_at hl 0 rfl) ?_
          refine x1_get S hin hK hP rfl 2 (by decide) rfl (by decide +kernel) (v := .int (nI mR)) rfl dX1_isSquare_25 ?_
          refine lv_icmp_ge (tgt := 35) hx hb dX1_isSquare_28 (by decide) (fun c_5 => ?_) (fun c_5 => ?_)
          · refine lv_iconst (v := nI 0) hx hb dX1_isSquare_35 (by decide +kernel) ?_
            exact hret (nI 0) 36 ls _ _ dX1_isSquare_36 (by decide +kernel) hS (Or.inr ⟨fun z => by rw [inb_f (m := mR) (out_row (by omega) (Or.inr c_5)) (by omega)] at z; exact absurd z.2 (by decide), rfl⟩)
          · obtain ⟨k2, hk2, rfl⟩ := in_row (i := j) (m := mR) (by omega) c_4 c_5
            refine lv_iconst (v := nI 1) hx hb dX1_isSquare_31 (by decide +kernel) ?_
            refine lv_goto (tgt := 36) hx hb dX1_isSquare_32 (by decide) ?_
            exact hret (nI 1) 36 ls _ _ dX1_isSquare_36 (by decide +kernel) hS (Or.inl ⟨k1, k2, hk1, hk2, rfl, rfl, hV0, rfl⟩)
set_option maxHeartbeats 4000000 in
set_option maxRecDepth 100000 in
theorem c_X1_get (l : Launch) (D : va_G) {h b1 b2 b3 b4 b5 : Nat} {cJ cI : ClassId} {gA gB : Nat → Int64} {rd rk : Nat} {gR : Nat → Int64} {gP : Nat → Int32} {gS : Nat → Int64} {pj : Int64} {mi ni : Int32} {vd P mR nC : Nat} {A0 : Mat} (i j : Int32) (hvd : vd < 2) (hV : vd ≠ 0 → MdV pj mi ni P mR nC) (hI : vd = 0 → mR = 0 ∧ nC = 0) (hA0 : ∀ a, a < mR → ∀ k, k < nC → gA (10 * a + k) = lN (A0 a k)) : WrI (U := Unit) l yX1_get wsX1_get ({ frames := 1, cells := 0, slots := 0, locals := 22 }) [.ref h, .int i, .int j] D (mdW h b1 b2 b3 b4 b5 cJ cI pj mi ni vd gA gB rd rk gR gP gS) [(cJ, .long), (cI, .int)] (fun r _ => r = sGet mR nC A0 i j) (fun _ => mdW h b1 b2 b3 b4 b5 cJ cI pj mi ni vd gA gB rd rk gR gP gS) := by
  refine WrI.mk (cc := cX1_get) (maxL := 3) (rt := .int) (by decide) rfl (Nat.le_of_ble_eq_true rfl) ?_
  intro p e s mm args below meth c Q ls A S hK hP hD hA hS hl hret
  have hx := S.1
  have hb := S.2.1
  have hts := S.2.2.2.2
  have hown := S.2.2.2.1
  have hin : ∀ w ∈ wsX10, w ∈ wsX1_get := fun w h => List.mem_cons_of_mem _ (List.mem_append_right _ h)
  have hl : lv_has ls 3 [(0, .ref h), (1, .int i), (2, .int j)] := hl
  refine lv_aload_n hx hb dX1_get_0 rfl (lv_at hl 0 rfl) ?_
  refine lv_iconst (v := nI 0) hx hb dX1_get_1 (by decide +kernel) ?_
  refine x1_put S hin hK hP hD hS rfl 0 (by decide) rfl (by decide +kernel) rfl (ty := .int) (v := .int (nI 0)) rfl rfl rfl (Nat.le_of_ble_eq_true rfl) dX1_get_2 (fun H locs hP hD hS => ?_)
  have hP : va_P D vwCl (mdW h b1 b2 b3 b4 b5 cJ cI pj mi ni vd gA gB rd rk gR gP gS) H := hP
  have hD : va_D A (mdW h b1 b2 b3 b4 b5 cJ cI pj mi ni vd gA gB rd rk gR gP gS) := hD
  refine lv_aload_n hx hb dX1_get_5 rfl (lv_at hl 0 rfl) ?_
  refine lv_iload_n hx hb dX1_get_6 rfl (lv_at hl 1 rfl) ?_
  refine lv_iload_n hx hb dX1_get_7 rfl (lv_at hl 2 rfl) ?_
  refine rdv_i S (c_X1_isPlace l D i j hvd hV hI) (cwV 2 hts gX1_get_X1_isPlace rfl rfl rfl (by decide +kernel) ⟨Nat.le_of_ble_eq_true rfl, Nat.le_of_ble_eq_true rfl⟩) rfl hK hP (ci := 1) rfl rfl hl.1 (rest := []) rfl (Nat.le_of_ble_eq_true rfl) dX1_get_8 ⟨Nat.zero_le _, Nat.zero_le _⟩ hP hS hA (fun r_1 H locs er_1 hP hS => ?_)
  rcases er_1 with ⟨k1, k2, hk1, hk2, rfl, rfl, hV0, rfl⟩ | ⟨hno, rfl⟩
  · obtain ⟨rfl, rfl, rfl, hP2, hPl, hm1, hm, hn1, hn⟩ := hV hV0
    refine nv_if_eq (tgt := 29) hx hb dX1_get_11 (by decide) (by decide) (fun q => absurd q (by decide)) (fun _ => ?_)
    refine lv_aload_n hx hb dX1_get_14 rfl (lv_at hl 0 rfl) ?_
    refine x1_get S hin hK hP rfl 5 (by decide) rfl (by decide +kernel) (v := .ref b1) rfl dX1_get_15 ?_
    refine lv_bipush (v := nI 10) hx hb dX1_get_18 (by decide +kernel) ?_
    refine lv_iload_n hx hb dX1_get_20 rfl (lv_at hl 1 rfl) ?_
    refine nv_imul hx hb dX1_get_21 ?_
    refine lv_iload_n hx hb dX1_get_22 rfl (lv_at hl 2 rfl) ?_
    refine nv_iadd hx hb dX1_get_23 ?_
    refine nv_lald hx hb hK hP 1 0 rfl rfl (v := lN (A0 k1 k2)) (by omega) (by decide) (hA0 k1 hk1 k2 hk2) dX1_get_24 ?_
    refine nv_l2i hx hb dX1_get_25 ?_
    refine lv_goto (tgt := 30) hx hb dX1_get_26 (by decide) ?_
    exact hret (nI (A0 k1 k2)) () 30 ls _ _ dX1_get_30 (rfl) hP hD hS (by simp [sGet, inb_t hk1 (show mR < 2 ^ 31 by omega), inb_t hk2 (show nC < 2 ^ 31 by omega), ix_n (show k1 < 2 ^ 31 by omega), ix_n (show k2 < 2 ^ 31 by omega)])
  · refine nv_if_eq (tgt := 29) hx hb dX1_get_11 (by decide) (by decide) (fun _ => ?_) (fun q => absurd q (by decide))
    refine lv_iconst (v := (-1)) hx hb dX1_get_29 (by decide +kernel) ?_
    exact hret ((-1)) () 30 ls _ _ dX1_get_30 (rfl) hP hD hS (by
        unfold sGet
        rw [if_neg hno])
set_option maxHeartbeats 4000000 in
set_option maxRecDepth 100000 in
theorem c_X1_set (l : Launch) (D : va_G) {h b1 b2 b3 b4 b5 : Nat} {cJ cI : ClassId} {gA gB : Nat → Int64} {rd rk : Nat} {gR : Nat → Int64} {gP : Nat → Int32} {gS : Nat → Int64} {pj : Int64} {mi ni : Int32} {vd P mR nC : Nat} {A0 : Mat} (i j x : Int32) (hvd : vd < 2) (hV : vd ≠ 0 → MdV pj mi ni P mR nC) (hI : vd = 0 → mR = 0 ∧ nC = 0) (hA0 : ∀ a, a < mR → ∀ k, k < nC → gA (10 * a + k) = lN (A0 a k)) : WrI (U := (Nat → Int64) × Nat) l yX1_set wsX1_set ({ frames := 1, cells := 0, slots := 0, locals := 22 }) [.ref h, .int i, .int j, .int x] D (mdW h b1 b2 b3 b4 b5 cJ cI pj mi ni vd gA gB rd rk gR gP gS) [(cJ, .long), (cI, .int)] (fun r u => (okSet mR nC i j x ∧ r = nI 1 ∧ (∀ a, a < mR → ∀ k, k < nC → u.1 (10 * a + k) = lN (mu A0 (ix i) (ix j) (ix x % P) a k)) ∧ u.2 = 0) ∨ (¬ okSet mR nC i j x ∧ r = nI 0 ∧ u = (gA, rd))) (fun u => mdW h b1 b2 b3 b4 b5 cJ cI pj mi ni vd u.1 gB u.2 rk gR gP gS) := by
  refine WrI.mk (cc := cX1_set) (maxL := 4) (rt := .boolean) (by decide) rfl (Nat.le_of_ble_eq_true rfl) ?_
  intro p e s mm args below meth c Q ls A S hK hP hD hA hS hl hret
  have hx := S.1
  have hb := S.2.1
  have hts := S.2.2.2.2
  have hown := S.2.2.2.1
  have hin : ∀ w ∈ wsX10, w ∈ wsX1_set := fun w h => List.mem_cons_of_mem _ (List.mem_append_right _ h)
  have hl : lv_has ls 4 [(0, .ref h), (1, .int i), (2, .int j), (3, .int x)] := hl
  refine lv_aload_n hx hb dX1_set_0 rfl (lv_at hl 0 rfl) ?_
  refine lv_iconst (v := nI 0) hx hb dX1_set_1 (by decide +kernel) ?_
  refine x1_put S hin hK hP hD hS rfl 0 (by decide) rfl (by decide +kernel) rfl (ty := .int) (v := .int (nI 0)) rfl rfl rfl (Nat.le_of_ble_eq_true rfl) dX1_set_2 (fun H locs hP hD hS => ?_)
  have hP : va_P D vwCl (mdW h b1 b2 b3 b4 b5 cJ cI pj mi ni vd gA gB rd rk gR gP gS) H := hP
  have hD : va_D A (mdW h b1 b2 b3 b4 b5 cJ cI pj mi ni vd gA gB rd rk gR gP gS) := hD
  refine lv_aload_n hx hb dX1_set_5 rfl (lv_at hl 0 rfl) ?_
  refine lv_iload_n hx hb dX1_set_6 rfl (lv_at hl 1 rfl) ?_
  refine lv_iload_n hx hb dX1_set_7 rfl (lv_at hl 2 rfl) ?_
  refine rdv_i S (c_X1_isPlace l D i j hvd hV hI) (cwV 2 hts gX1_set_X1_isPlace rfl rfl rfl (by decide +kernel) ⟨Nat.le_of_ble_eq_true rfl, Nat.le_of_ble_eq_true rfl⟩) rfl hK hP (ci := 1) rfl rfl hl.1 (rest := []) rfl (Nat.le_of_ble_eq_true rfl) dX1_set_8 ⟨Nat.zero_le _, Nat.zero_le _⟩ hP hS hA (fun r_1 H locs er_1 hP hS => ?_)
  rcases er_1 with ⟨k1, k2, hk1, hk2, rfl, rfl, hV0, rfl⟩ | ⟨hno, rfl⟩
  · obtain ⟨rfl, rfl, rfl, hP2, hPl, hm1, hm, hn1, hn⟩ := hV hV0
    refine nv_if_eq (tgt := 18) hx hb dX1_set_11 (by decide) (by decide) (fun q => absurd q (by decide)) (fun _ => ?_)
    refine lv_iload_n hx hb dX1_set_14 rfl (lv_at hl 3 rfl) ?_
    refine lv_if_ge (tgt := 20) hx hb dX1_set_15 (by decide) (fun c_3 => ?_) (fun c_3 => ?_)
    · obtain ⟨xv, hxv, rfl⟩ := nn_of c_3
      refine lv_aload_n hx hb dX1_set_20 rfl (lv_at hl 0 rfl) ?_
      refine x1_get S hin hK hP rfl 5 (by decide) rfl (by decide +kernel) (v := .ref b1) rfl dX1_set_21 ?_
      refine lv_bipush (v := nI 10) hx hb dX1_set_24 (by decide +kernel) ?_
      refine lv_iload_n hx hb dX1_set_26 rfl (lv_at hl 1 rfl) ?_
      refine nv_imul hx hb dX1_set_27 ?_
      refine lv_iload_n hx hb dX1_set_28 rfl (lv_at hl 2 rfl) ?_
      refine nv_iadd hx hb dX1_set_29 ?_
      refine lv_iload_n hx hb dX1_set_30 rfl (lv_at hl 3 rfl) ?_
      refine nv_i2l hx hb (by omega) dX1_set_31 ?_
      refine lv_aload_n hx hb dX1_set_32 rfl (lv_at hl 0 rfl) ?_
      refine x1_get S hin hK hP rfl 1 (by decide) rfl (by decide +kernel) (v := .long (lN P)) rfl dX1_set_33 ?_
      refine nv_lrem hx hb (by omega) (by omega) (by omega) dX1_set_36 ?_
      refine nv_last hx hb hK hP hD hS 1 0 rfl rfl (by omega) (by decide) dX1_set_37 (fun H locs hP hD hS => ?_)
      have hP : va_P D vwCl (mdW h b1 b2 b3 b4 b5 cJ cI (lN P) (nI mR) (nI nC) vd (vp_updL gA ((10 * k1) + k2) (lN (xv % P))) gB rd rk gR gP gS) H := hP
      have hD : va_D A (mdW h b1 b2 b3 b4 b5 cJ cI (lN P) (nI mR) (nI nC) vd (vp_updL gA ((10 * k1) + k2) (lN (xv % P))) gB rd rk gR gP gS) := hD
      refine lv_aload_n hx hb dX1_set_38 rfl (lv_at hl 0 rfl) ?_
      refine lv_iconst (v := nI 0) hx hb dX1_set_39 (by decide +kernel) ?_
      refine x1_put S hin hK hP hD hS rfl 7 (by decide) rfl (by decide +kernel) rfl (ty := .boolean) (v := .int (nI 0)) rfl (by decide +kernel) rfl (Nat.le_of_ble_eq_true rfl) dX1_set_40 (fun H locs hP hD hS => ?_)
      have hP : va_P D vwCl (mdW h b1 b2 b3 b4 b5 cJ cI (lN P) (nI mR) (nI nC) vd (vp_updL gA ((10 * k1) + k2) (lN (xv % P))) gB 0 rk gR gP gS) H := hP
      have hD : va_D A (mdW h b1 b2 b3 b4 b5 cJ cI (lN P) (nI mR) (nI nC) vd (vp_updL gA ((10 * k1) + k2) (lN (xv % P))) gB 0 rk gR gP gS) := hD
      refine lv_iconst (v := nI 1) hx hb dX1_set_43 (by decide +kernel) ?_
      exact hret (nI 1) (vp_updL gA ((10 * k1) + k2) (lN (xv % P)), 0) 44 ls _ _ dX1_set_44 (by decide +kernel) hP hD hS (by
          refine Or.inl ⟨⟨inb_t hk1 (by omega), inb_t hk2 (by omega), nn_t hxv⟩, rfl, ?_, rfl⟩
          rw [ix_n (show k1 < 2 ^ 31 by omega), ix_n (show k2 < 2 ^ 31 by omega), ix_n hxv]
          intro a ha k hk
          show vp_updL gA (10 * k1 + k2) (lN (xv % P)) (10 * a + k) = _
          unfold vp_updL mu
          by_cases q : 10 * a + k = 10 * k1 + k2
          · obtain ⟨rfl, rfl⟩ : a = k1 ∧ k = k2 := by omega
            simp
          · rw [if_neg q, if_neg (fun z => q (by rw [z.1, z.2])), hA0 a ha k hk])
    · refine lv_iconst (v := nI 0) hx hb dX1_set_18 (by decide +kernel) ?_
      exact hret (nI 0) (gA, rd) 19 ls _ _ dX1_set_19 (by decide +kernel) hP hD hS (Or.inr ⟨by simp [okSet, nn_f c_3], rfl, rfl⟩)
  · refine nv_if_eq (tgt := 18) hx hb dX1_set_11 (by decide) (by decide) (fun _ => ?_) (fun q => absurd q (by decide))
    refine lv_iconst (v := nI 0) hx hb dX1_set_18 (by decide +kernel) ?_
    exact hret (nI 0) (gA, rd) 19 ls _ _ dX1_set_19 (by decide +kernel) hP hD hS (Or.inr ⟨fun z => hno ⟨z.1, z.2.1⟩, rfl, rfl⟩)
set_option maxHeartbeats 4000000 in
set_option maxRecDepth 100000 in
theorem c_X1_setRhs (l : Launch) (D : va_G) {h b1 b2 b3 b4 b5 : Nat} {cJ cI : ClassId} {gA gB : Nat → Int64} {rd rk : Nat} {gR : Nat → Int64} {gP : Nat → Int32} {gS : Nat → Int64} {pj : Int64} {mi ni : Int32} {vd P mR nC : Nat} {b : Nat → Nat} (i x : Int32) (hvd : vd < 2) (hV : vd ≠ 0 → MdV pj mi ni P mR nC) (hI : vd = 0 → mR = 0 ∧ nC = 0) (hb1 : ∀ a, a < mR → gB a = lN (b a)) : WrI (U := Nat → Int64) l yX1_setRhs wsX1_setRhs ({ frames := 1, cells := 0, slots := 0, locals := 22 }) [.ref h, .int i, .int x] D (mdW h b1 b2 b3 b4 b5 cJ cI pj mi ni vd gA gB rd rk gR gP gS) [(cJ, .long), (cI, .int)] (fun r u => (okRhs mR i x ∧ r = nI 1 ∧ ∀ a, a < mR → u a = lN (nb b (ix i) (ix x % P) a)) ∨ (¬ okRhs mR i x ∧ r = nI 0 ∧ u = gB)) (fun u => mdW h b1 b2 b3 b4 b5 cJ cI pj mi ni vd gA u rd rk gR gP gS) := by
  refine WrI.mk (cc := cX1_setRhs) (maxL := 3) (rt := .boolean) (by decide) rfl (Nat.le_of_ble_eq_true rfl) ?_
  intro p e s mm args below meth c Q ls A S hK hP hD hA hS hl hret
  have hx := S.1
  have hb := S.2.1
  have hts := S.2.2.2.2
  have hown := S.2.2.2.1
  have hin : ∀ w ∈ wsX10, w ∈ wsX1_setRhs := fun w h => List.mem_cons_of_mem _ (List.mem_append_right _ h)
  have hl : lv_has ls 3 [(0, .ref h), (1, .int i), (2, .int x)] := hl
  refine lv_aload_n hx hb dX1_setRhs_0 rfl (lv_at hl 0 rfl) ?_
  refine lv_iconst (v := nI 0) hx hb dX1_setRhs_1 (by decide +kernel) ?_
  refine x1_put S hin hK hP hD hS rfl 0 (by decide) rfl (by decide +kernel) rfl (ty := .int) (v := .int (nI 0)) rfl rfl rfl (Nat.le_of_ble_eq_true rfl) dX1_setRhs_2 (fun H locs hP hD hS => ?_)
  have hP : va_P D vwCl (mdW h b1 b2 b3 b4 b5 cJ cI pj mi ni vd gA gB rd rk gR gP gS) H := hP
  have hD : va_D A (mdW h b1 b2 b3 b4 b5 cJ cI pj mi ni vd gA gB rd rk gR gP gS) := hD
  refine lv_aload_n hx hb dX1_setRhs_5 rfl (lv_at hl 0 rfl) ?_
  refine lv_iload_n hx hb dX1_setRhs_6 rfl (lv_at hl 1 rfl) ?_
  refine lv_iconst (v := nI 0) hx hb dX1_setRhs_7 (by decide +kernel) ?_
  refine rdv_i S (c_X1_isPlace l D i (nI 0) hvd hV hI) (cwV 2 hts gX1_setRhs_X1_isPlace rfl rfl rfl (by decide +kernel) ⟨Nat.le_of_ble_eq_true rfl, Nat.le_of_ble_eq_true rfl⟩) rfl hK hP (ci := 1) rfl rfl hl.1 (rest := []) rfl (Nat.le_of_ble_eq_true rfl) dX1_setRhs_8 ⟨Nat.zero_le _, Nat.zero_le _⟩ hP hS hA (fun r_1 H locs er_1 hP hS => ?_)
  rcases er_1 with ⟨k1, k2, hk1, hk2, rfl, hj0, hV0, rfl⟩ | ⟨hno, rfl⟩
  · obtain ⟨rfl, rfl, rfl, hP2, hPl, hm1, hm, hn1, hn⟩ := hV hV0
    refine nv_if_eq (tgt := 18) hx hb dX1_setRhs_11 (by decide) (by decide) (fun q => absurd q (by decide)) (fun _ => ?_)
    refine lv_iload_n hx hb dX1_setRhs_14 rfl (lv_at hl 2 rfl) ?_
    refine lv_if_ge (tgt := 20) hx hb dX1_setRhs_15 (by decide) (fun c_3 => ?_) (fun c_3 => ?_)
    · obtain ⟨xv, hxv, rfl⟩ := nn_of c_3
      refine lv_aload_n hx hb dX1_setRhs_20 rfl (lv_at hl 0 rfl) ?_
      refine x1_get S hin hK hP rfl 6 (by decide) rfl (by decide +kernel) (v := .ref b2) rfl dX1_setRhs_21 ?_
      refine lv_iload_n hx hb dX1_setRhs_24 rfl (lv_at hl 1 rfl) ?_
      refine lv_iload_n hx hb dX1_setRhs_25 rfl (lv_at hl 2 rfl) ?_
      refine nv_i2l hx hb (by omega) dX1_setRhs_26 ?_
      refine lv_aload_n hx hb dX1_setRhs_27 rfl (lv_at hl 0 rfl) ?_
      refine x1_get S hin hK hP rfl 1 (by decide) rfl (by decide +kernel) (v := .long (lN P)) rfl dX1_setRhs_28 ?_
      refine nv_lrem hx hb (by omega) (by omega) (by omega) dX1_setRhs_31 ?_
      refine nv_last hx hb hK hP hD hS 2 0 rfl rfl (by omega) (by decide) dX1_setRhs_32 (fun H locs hP hD hS => ?_)
      have hP : va_P D vwCl (mdW h b1 b2 b3 b4 b5 cJ cI (lN P) (nI mR) (nI nC) vd gA (vp_updL gB k1 (lN (xv % P))) rd rk gR gP gS) H := hP
      have hD : va_D A (mdW h b1 b2 b3 b4 b5 cJ cI (lN P) (nI mR) (nI nC) vd gA (vp_updL gB k1 (lN (xv % P))) rd rk gR gP gS) := hD
      refine lv_iconst (v := nI 1) hx hb dX1_setRhs_33 (by decide +kernel) ?_
      exact hret (nI 1) (vp_updL gB k1 (lN (xv % P))) 34 ls _ _ dX1_setRhs_34 (by decide +kernel) hP hD hS (by
          refine Or.inl ⟨⟨inb_t hk1 (by omega), nn_t hxv⟩, rfl, ?_⟩
          rw [ix_n (show k1 < 2 ^ 31 by omega), ix_n hxv]
          intro a ha
          unfold vp_updL nb
          split
          · rfl
          · exact hb1 a ha)
    · refine lv_iconst (v := nI 0) hx hb dX1_setRhs_18 (by decide +kernel) ?_
      exact hret (nI 0) gB 19 ls _ _ dX1_setRhs_19 (by decide +kernel) hP hD hS (Or.inr ⟨by simp [okRhs, nn_f c_3], rfl, rfl⟩)
  · refine nv_if_eq (tgt := 18) hx hb dX1_setRhs_11 (by decide) (by decide) (fun _ => ?_) (fun q => absurd q (by decide))
    refine lv_iconst (v := nI 0) hx hb dX1_setRhs_18 (by decide +kernel) ?_
    exact hret (nI 0) gB 19 ls _ _ dX1_setRhs_19 (by decide +kernel) hP hD hS (Or.inr ⟨rhs_no hV hI hno, rfl, rfl⟩)
set_option maxHeartbeats 4000000 in
set_option maxRecDepth 100000 in
theorem c_X1_power (l : Launch) (D : va_G) {h b1 b2 b3 b4 b5 : Nat} {cJ cI : ClassId} {gA gB : Nat → Int64} {rd rk : Nat} {gR : Nat → Int64} {gP : Nat → Int32} {gS : Nat → Int64} {vd P mR nC : Nat} (x tm : Nat) (hP2 : 2 ≤ P) (hPl : P < 2 ^ 31) (hx1 : x < P) (htm : tm < 2 ^ 31) : RdL l yX1_power wsX1_power ({ frames := 0, cells := 0, slots := 0, locals := 0 }) [.ref h, .long (lN x), .long (lN tm)] D (mdW h b1 b2 b3 b4 b5 cJ cI (lN P) (nI mR) (nI nC) vd gA gB rd rk gR gP gS) [(cJ, .long), (cI, .int)] (fun r => r = lN (x ^ tm % P)) := by
  refine RdL.mk (cc := cX1_power) (maxL := 8) (by decide) rfl (Nat.le_of_ble_eq_true rfl) ?_
  intro p e s mm args below meth c Q ls A S hK hP hA hS hl hret
  have hx := S.1
  have hb := S.2.1
  have hts := S.2.2.2.2
  have hown := S.2.2.2.1
  have hin : ∀ w ∈ wsX10, w ∈ wsX1_power := fun w h => List.mem_cons_of_mem _ (List.mem_append_right _ h)
  have hl : lv_has ls 8 [(0, .ref h), (1, .long (lN x)), (3, .long (lN tm))] := hl
  refine lv_lconst (v := lN 1) hx hb dX1_power_0 rfl ?_
  refine lv_aload_n hx hb dX1_power_1 rfl (lv_at hl 0 rfl) ?_
  refine x1_get S hin hK hP rfl 1 (by decide) rfl (by decide +kernel) (v := .long (lN P)) rfl dX1_power_2 ?_
  refine nv_lrem hx hb (by decide) (by omega) (by omega) dX1_power_5 ?_
  refine lv_lstore (lv' := [(5, .long (lN (1 % P))), (0, .ref h), (1, .long (lN x)), (3, .long (lN tm))]) hx hb dX1_power_6 hl (by decide) rfl (fun ls hl => ?_)
  refine lv_bipush (v := nI 30) hx hb dX1_power_8 (by decide +kernel) ?_
  refine lv_istore (lv' := [(7, .int (nI 30)), (5, .long (lN (1 % P))), (0, .ref h), (1, .long (lN x)), (3, .long (lN tm))]) hx hb dX1_power_10 hl (by decide) rfl (fun ls hl => ?_)
  have L : ∀ (nL : Nat) (j : Nat), (j ≤ 31) → (j < nL) → ∀ (ls : Array Slot) (H : Heap) (locs : List Loc), lv_has ls 8 [(0, .ref h), (1, .long (lN x)), (3, .long (lN tm)), (5, .long (lN (x ^ (tm / 2 ^ j) % P))), (7, .int (dn j))] → va_P D vwCl (mdW h b1 b2 b3 b4 b5 cJ cI (lN P) (nI mR) (nI nC) vd gA gB rd rk gR gP gS) H → va_S A s.heap H locs → W p l e ({ frames := 0, cells := 0, slots := 0, locals := 0 }) s mm args below meth c H locs 0 0 Q (F0 mm 12 ls []) := by
    intro nL
    induction nL with
    | zero => intro j hj hfuel; exfalso; omega
    | succ nL ihL =>
      intro j hj hfuel ls H locs hl hP hS
      refine lv_iload hx hb dX1_power_12 (lv_at hl 4 rfl) ?_
      refine lv_if_lt (tgt := 62) hx hb dX1_power_14 (by decide) (fun c_1 => ?_) (fun c_1 => ?_)
      · have hj0 := dn_lt (by omega) c_1
        subst hj0
        refine lv_lload hx hb dX1_power_62 (lv_at hl 3 rfl) ?_
        exact hret (lN (x ^ (tm / 2 ^ 0) % P)) 64 ls _ _ dX1_power_64 hS (by rw [Nat.pow_zero, Nat.div_one])
      · obtain ⟨k, rfl⟩ := dn_ge c_1
        rw [dn_s k] at hl
        have hpl := Nat.mod_lt (x ^ (tm / 2 ^ (k + 1))) (show 0 < P by omega)
        refine lv_lload hx hb dX1_power_17 (lv_at hl 3 rfl) ?_
        refine lv_lload hx hb dX1_power_19 (lv_at hl 3 rfl) ?_
        refine nv_lmul hx hb dX1_power_21 ?_
        refine lv_aload_n hx hb dX1_power_22 rfl (lv_at hl 0 rfl) ?_
        refine x1_get S hin hK hP rfl 1 (by decide) rfl (by decide +kernel) (v := .long (lN P)) rfl dX1_power_23 ?_
        refine nv_lrem hx hb (mul_b (by omega) (by omega)) (by omega) (by omega) dX1_power_26 ?_
        rw [pt_step]
        have hpl2 := Nat.mod_lt (x ^ (2 * (tm / 2 ^ (k + 1)))) (show 0 < P by omega)
        refine lv_lstore (lv' := [(5, .long (lN (x ^ (2 * (tm / 2 ^ (k + 1))) % P))), (0, .ref h), (1, .long (lN x)), (3, .long (lN tm)), (7, .int (nI k))]) hx hb dX1_power_27 hl (by decide) rfl (fun ls hl => ?_)
        refine lv_lload_n hx hb dX1_power_29 rfl (lv_at hl 3 rfl) ?_
        refine lv_iload hx hb dX1_power_30 (lv_at hl 4 rfl) ?_
        refine nv_lshr hx hb (by omega) (by omega) dX1_power_32 ?_
        refine lv_lconst (v := lN 1) hx hb dX1_power_33 rfl ?_
        refine nv_land1 hx hb dX1_power_34 ?_
        refine lv_lconst (v := lN 1) hx hb dX1_power_35 rfl ?_
        refine nv_lcmp_ne (tgt := 52) hx hb dX1_power_36 dX1_power_37 (by decide) (by omega) (by decide) (fun c_2 => ?_) (fun c_2 => ?_)
        · refine lv_lload hx hb dX1_power_52 (lv_at hl 0 rfl) ?_
          rw [pt_0 c_2]
          refine lv_lstore (lv' := [(5, .long (lN (x ^ (tm / 2 ^ k) % P))), (0, .ref h), (1, .long (lN x)), (3, .long (lN tm)), (7, .int (nI k))]) hx hb dX1_power_54 hl (by decide) rfl (fun ls hl => ?_)
          refine lv_iinc (v := dn k) (lv' := [(7, .int (dn k)), (5, .long (lN (x ^ (tm / 2 ^ k) % P))), (0, .ref h), (1, .long (lN x)), (3, .long (lN tm))]) hx hb dX1_power_56 hl (k := 4) rfl rfl (by decide) rfl (fun ls hl => ?_)
          refine lv_goto (tgt := 12) hx hb dX1_power_59 (by decide) ?_
          exact ihL k (by omega) (by omega) ls _ _ (lv_sub hl [2, 3, 4, 1, 0] rfl) hP hS
        · refine lv_lload hx hb dX1_power_40 (lv_at hl 0 rfl) ?_
          refine lv_lload_n hx hb dX1_power_42 rfl (lv_at hl 2 rfl) ?_
          refine nv_lmul hx hb dX1_power_43 ?_
          refine lv_aload_n hx hb dX1_power_44 rfl (lv_at hl 1 rfl) ?_
          refine x1_get S hin hK hP rfl 1 (by decide) rfl (by decide +kernel) (v := .long (lN P)) rfl dX1_power_45 ?_
          refine nv_lrem hx hb (mul_b (by omega) (by omega)) (by omega) (by omega) dX1_power_48 ?_
          refine lv_goto (tgt := 54) hx hb dX1_power_49 (by decide) ?_
          rw [pt_1 c_2]
          refine lv_lstore (lv' := [(5, .long (lN (x ^ (tm / 2 ^ k) % P))), (0, .ref h), (1, .long (lN x)), (3, .long (lN tm)), (7, .int (nI k))]) hx hb dX1_power_54 hl (by decide) rfl (fun ls hl => ?_)
          refine lv_iinc (v := dn k) (lv' := [(7, .int (dn k)), (5, .long (lN (x ^ (tm / 2 ^ k) % P))), (0, .ref h), (1, .long (lN x)), (3, .long (lN tm))]) hx hb dX1_power_56 hl (k := 4) rfl rfl (by decide) rfl (fun ls hl => ?_)
          refine lv_goto (tgt := 12) hx hb dX1_power_59 (by decide) ?_
          exact ihL k (by omega) (by omega) ls _ _ (lv_sub hl [2, 3, 4, 1, 0] rfl) hP hS
  have e31 : 1 % P = x ^ (tm / 2 ^ 31) % P := by rw [Nat.div_eq_of_lt htm, Nat.pow_zero]
  rw [e31] at hl
  have hl : lv_has ls 8 [(7, .int (dn 31)), (5, .long (lN (x ^ (tm / 2 ^ 31) % P))), (0, .ref h), (1, .long (lN x)), (3, .long (lN tm))] := hl
  exact L 32 31 (by omega) (by omega) ls _ _ (lv_sub hl [2, 3, 4, 1, 0] rfl) hP hS
set_option maxHeartbeats 4000000 in
set_option maxRecDepth 100000 in
theorem c_X1_swap (l : Launch) (D : va_G) {h b1 b2 b3 b4 b5 : Nat} {cJ cI : ClassId} {gA gB : Nat → Int64} {rd rk : Nat} {gR : Nat → Int64} {gP : Nat → Int32} {gS : Nat → Int64} {vd P mR nC : Nat} {M : Mat} (o1 o2 : Nat) (hm : mR ≤ 10) (h1 : o1 < mR) (h2 : o2 < mR) (hM : Rq mR gR M) : WrV (U := Nat → Int64) l yX1_swap wsX1_swap ({ frames := 0, cells := 0, slots := 0, locals := 0 }) [.ref h, .int (nI o1), .int (nI o2)] D (mdW h b1 b2 b3 b4 b5 cJ cI (lN P) (nI mR) (nI nC) vd gA gB rd rk gR gP gS) [(cJ, .long), (cI, .int)] (fun u => Rq mR u (swp M o1 o2)) (fun u => mdW h b1 b2 b3 b4 b5 cJ cI (lN P) (nI mR) (nI nC) vd gA gB rd rk u gP gS) := by
  refine WrV.mk (cc := cX1_swap) (maxL := 6) (by decide) rfl (Nat.le_of_ble_eq_true rfl) ?_
  intro p e s mm args below meth c Q ls A S hK hP hD hA hS hl hret
  have hx := S.1
  have hb := S.2.1
  have hts := S.2.2.2.2
  have hown := S.2.2.2.1
  have hin : ∀ w ∈ wsX10, w ∈ wsX1_swap := fun w h => List.mem_cons_of_mem _ (List.mem_append_right _ h)
  have hl : lv_has ls 6 [(0, .ref h), (1, .int (nI o1)), (2, .int (nI o2))] := hl
  refine lv_iconst (v := nI 0) hx hb dX1_swap_0 (by decide +kernel) ?_
  refine lv_istore_n (lv' := [(3, .int (nI 0)), (0, .ref h), (1, .int (nI o1)), (2, .int (nI o2))]) hx hb dX1_swap_1 rfl hl (by decide) rfl (fun ls hl => ?_)
  have L : ∀ (nL : Nat) (f : Nat → Int64) (i : Nat), (i ≤ 20) → (Rq mR f (col2 i (swp M o1 o2) M)) → (21 ≤ i + nL) → ∀ (ls : Array Slot) (H : Heap) (locs : List Loc), lv_has ls 6 [(0, .ref h), (1, .int (nI o1)), (2, .int (nI o2)), (3, .int (nI i))] → va_P D vwCl (mdW h b1 b2 b3 b4 b5 cJ cI (lN P) (nI mR) (nI nC) vd gA gB rd rk f gP gS) H → va_D A (mdW h b1 b2 b3 b4 b5 cJ cI (lN P) (nI mR) (nI nC) vd gA gB rd rk f gP gS) → va_S A s.heap H locs → W p l e ({ frames := 0, cells := 0, slots := 0, locals := 0 }) s mm args below meth c H locs 0 0 Q (F0 mm 2 ls []) := by
    intro nL
    induction nL with
    | zero => intro f i hi hinv hfuel; exfalso; omega
    | succ nL ihL =>
      intro f i hi hinv hfuel ls H locs hl hP hD hS
      refine lv_iload_n hx hb dX1_swap_2 rfl (lv_at hl 3 rfl) ?_
      refine lv_bipush (v := nI 20) hx hb dX1_swap_3 (by decide +kernel) ?_
      refine nv_icmp_ge (tgt := 62) hx hb dX1_swap_5 (by decide) (by omega) (by omega) (fun c_1 => ?_) (fun c_1 => ?_)
      · exact hret f 62 ls _ _ dX1_swap_62 hP hD hS (hinv.colw c_1)
      · refine lv_aload_n hx hb dX1_swap_8 rfl (lv_at hl 0 rfl) ?_
        refine x1_get S hin hK hP rfl 9 (by decide) rfl (by decide +kernel) (v := .ref b3) rfl dX1_swap_9 ?_
        refine lv_bipush (v := nI 20) hx hb dX1_swap_12 (by decide +kernel) ?_
        refine lv_iload_n hx hb dX1_swap_14 rfl (lv_at hl 1 rfl) ?_
        refine nv_imul hx hb dX1_swap_15 ?_
        refine lv_iload_n hx hb dX1_swap_16 rfl (lv_at hl 3 rfl) ?_
        refine nv_iadd hx hb dX1_swap_17 ?_
        refine nv_lald hx hb hK hP 3 0 rfl rfl (v := lN (col2 i (swp M o1 o2) M o1 i)) (by omega) (by decide) (hinv o1 h1 i (by omega)) dX1_swap_18 ?_
        refine lv_lstore (lv' := [(4, .long (lN (col2 i (swp M o1 o2) M o1 i))), (0, .ref h), (1, .int (nI o1)), (2, .int (nI o2)), (3, .int (nI i))]) hx hb dX1_swap_19 hl (by decide) rfl (fun ls hl => ?_)
        refine lv_aload_n hx hb dX1_swap_21 rfl (lv_at hl 1 rfl) ?_
        refine x1_get S hin hK hP rfl 9 (by decide) rfl (by decide +kernel) (v := .ref b3) rfl dX1_swap_22 ?_
        refine lv_bipush (v := nI 20) hx hb dX1_swap_25 (by decide +kernel) ?_
        refine lv_iload_n hx hb dX1_swap_27 rfl (lv_at hl 2 rfl) ?_
        refine nv_imul hx hb dX1_swap_28 ?_
        refine lv_iload_n hx hb dX1_swap_29 rfl (lv_at hl 4 rfl) ?_
        refine nv_iadd hx hb dX1_swap_30 ?_
        refine lv_aload_n hx hb dX1_swap_31 rfl (lv_at hl 1 rfl) ?_
        refine x1_get S hin hK hP rfl 9 (by decide) rfl (by decide +kernel) (v := .ref b3) rfl dX1_swap_32 ?_
        refine lv_bipush (v := nI 20) hx hb dX1_swap_35 (by decide +kernel) ?_
        refine lv_iload_n hx hb dX1_swap_37 rfl (lv_at hl 3 rfl) ?_
        refine nv_imul hx hb dX1_swap_38 ?_
        refine lv_iload_n hx hb dX1_swap_39 rfl (lv_at hl 4 rfl) ?_
        refine nv_iadd hx hb dX1_swap_40 ?_
        refine nv_lald hx hb hK hP 3 0 rfl rfl (v := lN (col2 i (swp M o1 o2) M o2 i)) (by omega) (by decide) (hinv o2 h2 i (by omega)) dX1_swap_41 ?_
        refine nv_last hx hb hK hP hD hS 3 0 rfl rfl (by omega) (by decide) dX1_swap_42 (fun H locs hP hD hS => ?_)
        have hP : va_P D vwCl (mdW h b1 b2 b3 b4 b5 cJ cI (lN P) (nI mR) (nI nC) vd gA gB rd rk (vp_updL f ((20 * o1) + i) (lN (col2 i (swp M o1 o2) M o2 i))) gP gS) H := hP
        have hD : va_D A (mdW h b1 b2 b3 b4 b5 cJ cI (lN P) (nI mR) (nI nC) vd gA gB rd rk (vp_updL f ((20 * o1) + i) (lN (col2 i (swp M o1 o2) M o2 i))) gP gS) := hD
        refine lv_aload_n hx hb dX1_swap_43 rfl (lv_at hl 1 rfl) ?_
        refine x1_get S hin hK hP rfl 9 (by decide) rfl (by decide +kernel) (v := .ref b3) rfl dX1_swap_44 ?_
        refine lv_bipush (v := nI 20) hx hb dX1_swap_47 (by decide +kernel) ?_
        refine lv_iload_n hx hb dX1_swap_49 rfl (lv_at hl 3 rfl) ?_
        refine nv_imul hx hb dX1_swap_50 ?_
        refine lv_iload_n hx hb dX1_swap_51 rfl (lv_at hl 4 rfl) ?_
        refine nv_iadd hx hb dX1_swap_52 ?_
        refine lv_lload hx hb dX1_swap_53 (lv_at hl 0 rfl) ?_
        refine nv_last hx hb hK hP hD hS 3 0 rfl rfl (by omega) (by decide) dX1_swap_55 (fun H locs hP hD hS => ?_)
        have hP : va_P D vwCl (mdW h b1 b2 b3 b4 b5 cJ cI (lN P) (nI mR) (nI nC) vd gA gB rd rk (vp_updL (vp_updL f ((20 * o1) + i) (lN (col2 i (swp M o1 o2) M o2 i))) ((20 * o2) + i) (lN (col2 i (swp M o1 o2) M o1 i))) gP gS) H := hP
        have hD : va_D A (mdW h b1 b2 b3 b4 b5 cJ cI (lN P) (nI mR) (nI nC) vd gA gB rd rk (vp_updL (vp_updL f ((20 * o1) + i) (lN (col2 i (swp M o1 o2) M o2 i))) ((20 * o2) + i) (lN (col2 i (swp M o1 o2) M o1 i))) gP gS) := hD
        refine lv_iinc (v := nI (i + 1)) (lv' := [(3, .int (nI (i + 1))), (4, .long (lN (col2 i (swp M o1 o2) M o1 i))), (0, .ref h), (1, .int (nI o1)), (2, .int (nI o2))]) hx hb dX1_swap_56 hl (k := 4) rfl (nv_inc i 1) (by decide) rfl (fun ls hl => ?_)
        refine lv_goto (tgt := 2) hx hb dX1_swap_59 (by decide) ?_
        exact ihL (vp_updL (vp_updL f ((20 * o1) + i) (lN (col2 i (swp M o1 o2) M o2 i))) ((20 * o2) + i) (lN (col2 i (swp M o1 o2) M o1 i))) (i + 1) (by omega) (sq_swp c_1 hinv) (by omega) ls _ _ (lv_sub hl [2, 3, 4, 0] rfl) hP hD hS
  exact L 21 gR 0 (by omega) hM.col0 (by omega) ls _ _ (lv_sub hl [1, 2, 3, 0] rfl) hP hD hS
set_option maxHeartbeats 4000000 in
set_option maxRecDepth 100000 in
theorem c_X1_firstWith (l : Launch) (D : va_G) {h b1 b2 b3 b4 b5 : Nat} {cJ cI : ClassId} {gA gB : Nat → Int64} {rd rk : Nat} {gR : Nat → Int64} {gP : Nat → Int32} {gS : Nat → Int64} {vd P mR nC : Nat} {M : Mat} (cc : Nat) (hP2 : 2 ≤ P) (hPl : P < 2 ^ 31) (hm : mR ≤ 10) (hn : nC ≤ 10) (hcc : cc < nC) (hrk : rk ≤ mR) (hB : bnd P M) (hM : Rq mR gR M) : RdI l yX1_firstWith wsX1_firstWith ({ frames := 0, cells := 0, slots := 0, locals := 0 }) [.ref h, .int (nI cc)] D (mdW h b1 b2 b3 b4 b5 cJ cI (lN P) (nI mR) (nI nC) vd gA gB rd rk gR gP gS) [(cJ, .long), (cI, .int)] (fun r => r = nI (fnd M cc (mR - rk) rk)) := by
  refine RdI.mk (cc := cX1_firstWith) (maxL := 3) (rt := .int) (by decide) rfl (Nat.le_of_ble_eq_true rfl) ?_
  intro p e s mm args below meth c Q ls A S hK hP hA hS hl hret
  have hx := S.1
  have hb := S.2.1
  have hts := S.2.2.2.2
  have hown := S.2.2.2.1
  have hin : ∀ w ∈ wsX10, w ∈ wsX1_firstWith := fun w h => List.mem_cons_of_mem _ (List.mem_append_right _ h)
  have hl : lv_has ls 3 [(0, .ref h), (1, .int (nI cc))] := hl
  refine lv_aload_n hx hb dX1_firstWith_0 rfl (lv_at hl 0 rfl) ?_
  refine x1_get S hin hK hP rfl 8 (by decide) rfl (by decide +kernel) (v := .int (nI rk)) rfl dX1_firstWith_1 ?_
  refine lv_istore_n (lv' := [(2, .int (nI rk)), (0, .ref h), (1, .int (nI cc))]) hx hb dX1_firstWith_4 rfl hl (by decide) rfl (fun ls hl => ?_)
  have L : ∀ (nL : Nat) (i : Nat), (i ≤ mR) → (fnd M cc (mR - i) i = fnd M cc (mR - rk) rk) → (mR + 1 ≤ i + nL) → ∀ (ls : Array Slot) (H : Heap) (locs : List Loc), lv_has ls 3 [(0, .ref h), (1, .int (nI cc)), (2, .int (nI i))] → va_P D vwCl (mdW h b1 b2 b3 b4 b5 cJ cI (lN P) (nI mR) (nI nC) vd gA gB rd rk gR gP gS) H → va_S A s.heap H locs → W p l e ({ frames := 0, cells := 0, slots := 0, locals := 0 }) s mm args below meth c H locs 0 0 Q (F0 mm 5 ls []) := by
    intro nL
    induction nL with
    | zero => intro i hi hinv hfuel; exfalso; omega
    | succ nL ihL =>
      intro i hi hinv hfuel ls H locs hl hP hS
      refine lv_iload_n hx hb dX1_firstWith_5 rfl (lv_at hl 2 rfl) ?_
      refine lv_aload_n hx hb dX1_firstWith_6 rfl (lv_at hl 0 rfl) ?_
      refine x1_get S hin hK hP rfl 2 (by decide) rfl (by decide +kernel) (v := .int (nI mR)) rfl dX1_firstWith_7 ?_
      refine nv_icmp_ge (tgt := 35) hx hb dX1_firstWith_10 (by decide) (by omega) (by omega) (fun c_1 => ?_) (fun c_1 => ?_)
      · refine lv_iload_n hx hb dX1_firstWith_35 rfl (lv_at hl 2 rfl) ?_
        exact hret (nI i) 36 ls _ _ dX1_firstWith_36 (rfl) hS (by rw [← hinv, fnd_e c_1])
      · refine lv_aload_n hx hb dX1_firstWith_13 rfl (lv_at hl 0 rfl) ?_
        refine x1_get S hin hK hP rfl 9 (by decide) rfl (by decide +kernel) (v := .ref b3) rfl dX1_firstWith_14 ?_
        refine lv_bipush (v := nI 20) hx hb dX1_firstWith_17 (by decide +kernel) ?_
        refine lv_iload_n hx hb dX1_firstWith_19 rfl (lv_at hl 2 rfl) ?_
        refine nv_imul hx hb dX1_firstWith_20 ?_
        refine lv_iload_n hx hb dX1_firstWith_21 rfl (lv_at hl 1 rfl) ?_
        refine nv_iadd hx hb dX1_firstWith_22 ?_
        refine nv_lald hx hb hK hP 3 0 rfl rfl (v := lN (M i cc)) (by omega) (by decide) (hM i (by omega) cc (by omega)) dX1_firstWith_23 ?_
        refine lv_lconst (v := lN 0) hx hb dX1_firstWith_24 rfl ?_
        refine nv_lcmp_ne (tgt := 35) hx hb dX1_firstWith_25 dX1_firstWith_26 (by decide) (Nat.lt_trans (hB i cc) (by omega)) (by decide) (fun c_2 => ?_) (fun c_2 => ?_)
        · refine lv_iload_n hx hb dX1_firstWith_35 rfl (lv_at hl 2 rfl) ?_
          exact hret (nI i) 36 ls _ _ dX1_firstWith_36 (rfl) hS (by rw [← hinv, fnd_n c_1 c_2])
        · refine lv_iinc (v := nI (i + 1)) (lv' := [(2, .int (nI (i + 1))), (0, .ref h), (1, .int (nI cc))]) hx hb dX1_firstWith_29 hl (k := 2) rfl (nv_inc i 1) (by decide) rfl (fun ls hl => ?_)
          refine lv_goto (tgt := 5) hx hb dX1_firstWith_32 (by decide) ?_
          exact ihL (i + 1) (by omega) (by rw [← hinv, fnd_z (by omega) c_2]) (by omega) ls _ _ (lv_sub hl [1, 2, 0] rfl) hP hS
  exact L (mR + 1) rk hrk rfl (by omega) ls _ _ (lv_sub hl [1, 2, 0] rfl) hP hS
set_option maxHeartbeats 4000000 in
set_option maxRecDepth 100000 in
theorem c_X1_clear (l : Launch) (D : va_G) {h b1 b2 b3 b4 b5 : Nat} {cJ cI : ClassId} {gA gB : Nat → Int64} {rd rk : Nat} {gR : Nat → Int64} {gP : Nat → Int32} {gS : Nat → Int64} {vd P mR nC : Nat} {M : Mat} (cc : Nat) (hP2 : 2 ≤ P) (hPl : P < 2 ^ 31) (hm : mR ≤ 10) (hn : nC ≤ 10) (hcc : cc < nC) (hrk : rk < mR) (hB : bnd P M) (hM : Rq mR gR M) : WrV (U := Nat → Int64) l yX1_clear wsX1_clear ({ frames := 1, cells := 0, slots := 0, locals := 27 }) [.ref h, .int (nI cc)] D (mdW h b1 b2 b3 b4 b5 cJ cI (lN P) (nI mR) (nI nC) vd gA gB rd rk gR gP gS) [(cJ, .long), (cI, .int)] (fun u => Rq mR u (clr P (scl P M rk (M rk cc ^ (P - 2) % P)) rk cc)) (fun u => mdW h b1 b2 b3 b4 b5 cJ cI (lN P) (nI mR) (nI nC) vd gA gB rd rk u gP gS) := by
  refine WrV.mk (cc := cX1_clear) (maxL := 8) (by decide) rfl (Nat.le_of_ble_eq_true rfl) ?_
  intro p e s mm args below meth c Q ls A S hK hP hD hA hS hl hret
  have hx := S.1
  have hb := S.2.1
  have hts := S.2.2.2.2
  have hown := S.2.2.2.1
  have hin : ∀ w ∈ wsX10, w ∈ wsX1_clear := fun w h => List.mem_cons_of_mem _ (List.mem_append_right _ h)
  have hl : lv_has ls 8 [(0, .ref h), (1, .int (nI cc))] := hl
  refine lv_aload_n hx hb dX1_clear_0 rfl (lv_at hl 0 rfl) ?_
  refine lv_aload_n hx hb dX1_clear_1 rfl (lv_at hl 0 rfl) ?_
  refine x1_get S hin hK hP rfl 9 (by decide) rfl (by decide +kernel) (v := .ref b3) rfl dX1_clear_2 ?_
  refine lv_bipush (v := nI 20) hx hb dX1_clear_5 (by decide +kernel) ?_
  refine lv_aload_n hx hb dX1_clear_7 rfl (lv_at hl 0 rfl) ?_
  refine x1_get S hin hK hP rfl 8 (by decide) rfl (by decide +kernel) (v := .int (nI rk)) rfl dX1_clear_8 ?_
  refine nv_imul hx hb dX1_clear_11 ?_
  refine lv_iload_n hx hb dX1_clear_12 rfl (lv_at hl 1 rfl) ?_
  refine nv_iadd hx hb dX1_clear_13 ?_
  refine nv_lald hx hb hK hP 3 0 rfl rfl (v := lN (M rk cc)) (by omega) (by decide) (hM rk hrk cc (by omega)) dX1_clear_14 ?_
  refine lv_aload_n hx hb dX1_clear_15 rfl (lv_at hl 0 rfl) ?_
  refine x1_get S hin hK hP rfl 1 (by decide) rfl (by decide +kernel) (v := .long (lN P)) rfl dX1_clear_16 ?_
  refine lv_ldc2 (v := lN 2) hx hb hown (hts (.constantLong RX1 48 (2)) (by decide +kernel)) dX1_clear_19 ?_
  refine nv_lsub hx hb (by omega) dX1_clear_22 ?_
  refine rdv_l S (c_X1_power l D (M rk cc) (P - 2) hP2 hPl (hB rk cc) (by omega)) (cwV 2 hts gX1_clear_X1_power rfl rfl rfl (by decide +kernel) ⟨Nat.le_of_ble_eq_true rfl, Nat.le_of_ble_eq_true rfl⟩) rfl hK hP (ci := 1) rfl rfl hl.1 (rest := []) rfl (Nat.le_of_ble_eq_true rfl) dX1_clear_23 ⟨Nat.zero_le _, Nat.zero_le _⟩ hP hS hA (fun r_1 H locs er_1 hP hS => ?_)
  subst er_1
  have hY := Nat.mod_lt (M rk cc ^ (P - 2)) (show 0 < P by omega)
  generalize hYe : M rk cc ^ (P - 2) % P = Y at hY hret ⊢
  refine lv_lstore_n (lv' := [(2, .long (lN Y)), (0, .ref h), (1, .int (nI cc))]) hx hb dX1_clear_26 rfl hl (by decide) rfl (fun ls hl => ?_)
  refine lv_iconst (v := nI 0) hx hb dX1_clear_27 (by decide +kernel) ?_
  refine lv_istore (lv' := [(4, .int (nI 0)), (2, .long (lN Y)), (0, .ref h), (1, .int (nI cc))]) hx hb dX1_clear_28 hl (by decide) rfl (fun ls hl => ?_)
  have L : ∀ (nL : Nat) (f : Nat → Int64) (i : Nat), (i ≤ 20) → (Rq mR f (col2 i (scl P M rk Y) M)) → (21 ≤ i + nL) → ∀ (ls : Array Slot) (H : Heap) (locs : List Loc), lv_has ls 8 [(0, .ref h), (1, .int (nI cc)), (2, .long (lN Y)), (4, .int (nI i))] → va_P D vwCl (mdW h b1 b2 b3 b4 b5 cJ cI (lN P) (nI mR) (nI nC) vd gA gB rd rk f gP gS) H → va_D A (mdW h b1 b2 b3 b4 b5 cJ cI (lN P) (nI mR) (nI nC) vd gA gB rd rk f gP gS) → va_S A s.heap H locs → W p l e ({ frames := 1, cells := 0, slots := 0, locals := 27 }) s mm args below meth c H locs 0 0 Q (F0 mm 30 ls []) := by
    intro nL
    induction nL with
    | zero => intro f i hi hinv hfuel; exfalso; omega
    | succ nL ihL =>
      intro f i hi hinv hfuel ls H locs hl hP hD hS
      refine lv_iload hx hb dX1_clear_30 (lv_at hl 3 rfl) ?_
      refine lv_bipush (v := nI 20) hx hb dX1_clear_32 (by decide +kernel) ?_
      refine nv_icmp_ge (tgt := 80) hx hb dX1_clear_34 (by decide) (by omega) (by omega) (fun c_2 => ?_) (fun c_2 => ?_)
      · have hr2 := hinv.colw c_2
        have hB2 := bn_scl (show 0 < P by omega) hB rk Y
        generalize hM2 : scl P M rk Y = M2 at hr2 hB2 hret
        refine lv_iconst (v := nI 0) hx hb dX1_clear_80 (by decide +kernel) ?_
        refine lv_istore (lv' := [(4, .int (nI 0)), (0, .ref h), (1, .int (nI cc)), (2, .long (lN Y))]) hx hb dX1_clear_81 hl (by decide) rfl (fun ls hl => ?_)
        have L2 : ∀ (nL2 : Nat) (f1 : Nat → Int64) (i : Nat), (i ≤ mR) → (Rq mR f1 (row2 i (clr P M2 rk cc) M2)) → (mR + 1 ≤ i + nL2) → ∀ (ls : Array Slot) (H : Heap) (locs : List Loc), lv_has ls 8 [(0, .ref h), (1, .int (nI cc)), (2, .long (lN Y)), (4, .int (nI i))] → va_P D vwCl (mdW h b1 b2 b3 b4 b5 cJ cI (lN P) (nI mR) (nI nC) vd gA gB rd rk f1 gP gS) H → va_D A (mdW h b1 b2 b3 b4 b5 cJ cI (lN P) (nI mR) (nI nC) vd gA gB rd rk f1 gP gS) → va_S A s.heap H locs → W p l e ({ frames := 1, cells := 0, slots := 0, locals := 27 }) s mm args below meth c H locs 0 0 Q (F0 mm 83 ls []) := by
          intro nL2
          induction nL2 with
          | zero => intro f1 i hi2 hinv2 hfuel; exfalso; omega
          | succ nL2 ihL2 =>
            intro f1 i hi2 hinv2 hfuel ls H locs hl hP hD hS
            refine lv_iload hx hb dX1_clear_83 (lv_at hl 3 rfl) ?_
            refine lv_aload_n hx hb dX1_clear_85 rfl (lv_at hl 0 rfl) ?_
            refine x1_get S hin hK hP rfl 2 (by decide) rfl (by decide +kernel) (v := .int (nI mR)) rfl dX1_clear_86 ?_
            refine nv_icmp_ge (tgt := 196) hx hb dX1_clear_89 (by decide) (by omega) (by omega) (fun c_3 => ?_) (fun c_3 => ?_)
            · exact hret f1 196 ls _ _ dX1_clear_196 hP hD hS (hinv2.rowm c_3)
            · have hBi := bn_row2 (bn_clr (show 0 < P by omega) hB2 rk cc) hB2 i
              obtain ⟨Mi, hMi⟩ : ∃ z : Mat, z = row2 i (clr P M2 rk cc) M2 := ⟨_, rfl⟩
              rw [← hMi] at hinv2 hBi
              refine lv_iload hx hb dX1_clear_92 (lv_at hl 3 rfl) ?_
              refine lv_aload_n hx hb dX1_clear_94 rfl (lv_at hl 0 rfl) ?_
              refine x1_get S hin hK hP rfl 8 (by decide) rfl (by decide +kernel) (v := .int (nI rk)) rfl dX1_clear_95 ?_
              refine nv_icmp_ne (tgt := 105) hx hb dX1_clear_98 (by decide) (by omega) (by omega) (fun c_4 => ?_) (fun c_4 => ?_)
              · refine lv_aload_n hx hb dX1_clear_105 rfl (lv_at hl 0 rfl) ?_
                refine x1_get S hin hK hP rfl 9 (by decide) rfl (by decide +kernel) (v := .ref b3) rfl dX1_clear_106 ?_
                refine lv_bipush (v := nI 20) hx hb dX1_clear_109 (by decide +kernel) ?_
                refine lv_iload hx hb dX1_clear_111 (lv_at hl 3 rfl) ?_
                refine nv_imul hx hb dX1_clear_113 ?_
                refine lv_iload_n hx hb dX1_clear_114 rfl (lv_at hl 1 rfl) ?_
                refine nv_iadd hx hb dX1_clear_115 ?_
                refine nv_lald hx hb hK hP 3 0 rfl rfl (v := lN (Mi i cc)) (by omega) (by decide) (hinv2 i (by omega) cc (by omega)) dX1_clear_116 ?_
                have ht : Mi i cc = if i = rk then 0 else Mi i cc := by rw [if_neg c_4]
                have htP : Mi i cc < P := by first | omega | exact hBi i cc
                refine lv_lstore (lv' := [(5, .long (lN (Mi i cc))), (0, .ref h), (1, .int (nI cc)), (2, .long (lN Y)), (4, .int (nI i))]) hx hb dX1_clear_117 hl (by decide) rfl (fun ls hl => ?_)
                refine lv_iconst (v := nI 0) hx hb dX1_clear_119 (by decide +kernel) ?_
                refine lv_istore (lv' := [(7, .int (nI 0)), (5, .long (lN (Mi i cc))), (0, .ref h), (1, .int (nI cc)), (2, .long (lN Y)), (4, .int (nI i))]) hx hb dX1_clear_120 hl (by decide) rfl (fun ls hl => ?_)
                have L3 : ∀ (nL3 : Nat) (f2 : Nat → Int64) (k : Nat), (k ≤ 20) → (Rq mR f2 (col2 k (tkr P Mi rk i (P - (Mi i cc))) Mi)) → (21 ≤ k + nL3) → ∀ (ls : Array Slot) (H : Heap) (locs : List Loc), lv_has ls 8 [(0, .ref h), (1, .int (nI cc)), (2, .long (lN Y)), (4, .int (nI i)), (5, .long (lN (Mi i cc))), (7, .int (nI k))] → va_P D vwCl (mdW h b1 b2 b3 b4 b5 cJ cI (lN P) (nI mR) (nI nC) vd gA gB rd rk f2 gP gS) H → va_D A (mdW h b1 b2 b3 b4 b5 cJ cI (lN P) (nI mR) (nI nC) vd gA gB rd rk f2 gP gS) → va_S A s.heap H locs → W p l e ({ frames := 1, cells := 0, slots := 0, locals := 27 }) s mm args below meth c H locs 0 0 Q (F0 mm 122 ls []) := by
                  intro nL3
                  induction nL3 with
                  | zero => intro f2 k hk3 hinv3 hfuel; exfalso; omega
                  | succ nL3 ihL3 =>
                    intro f2 k hk3 hinv3 hfuel ls H locs hl hP hD hS
                    refine lv_iload hx hb dX1_clear_122 (lv_at hl 5 rfl) ?_
                    refine lv_bipush (v := nI 20) hx hb dX1_clear_124 (by decide +kernel) ?_
                    refine nv_icmp_ge (tgt := 190) hx hb dX1_clear_126 (by decide) (by omega) (by omega) (fun c_5 => ?_) (fun c_5 => ?_)
                    · have hr3 := hinv3.colw c_5
                      rw [hMi] at hr3 ht
                      refine lv_iinc (v := nI (i + 1)) (lv' := [(4, .int (nI (i + 1))), (0, .ref h), (1, .int (nI cc)), (2, .long (lN Y)), (5, .long (lN (Mi i cc))), (7, .int (nI k))]) hx hb dX1_clear_190 hl (k := 3) rfl (nv_inc i 1) (by decide) rfl (fun ls hl => ?_)
                      refine lv_goto (tgt := 83) hx hb dX1_clear_193 (by decide) ?_
                      exact ihL2 f2 (i + 1) (by omega) (sq_clr hB2 ht hr3) (by omega) ls _ _ (lv_sub hl [1, 2, 3, 0] rfl) hP hD hS
                    · have hbk : ∀ a b, col2 k (tkr P Mi rk i (P - (Mi i cc))) Mi a b < P := bn_col2 (bn_tkr (by omega) hBi rk i _) hBi k
                      have hb1 := hbk i k
                      have hb2 := hbk rk k
                      refine lv_aload_n hx hb dX1_clear_129 rfl (lv_at hl 0 rfl) ?_
                      refine x1_get S hin hK hP rfl 9 (by decide) rfl (by decide +kernel) (v := .ref b3) rfl dX1_clear_130 ?_
                      refine lv_bipush (v := nI 20) hx hb dX1_clear_133 (by decide +kernel) ?_
                      refine lv_iload hx hb dX1_clear_135 (lv_at hl 3 rfl) ?_
                      refine nv_imul hx hb dX1_clear_137 ?_
                      refine lv_iload hx hb dX1_clear_138 (lv_at hl 5 rfl) ?_
                      refine nv_iadd hx hb dX1_clear_140 ?_
                      refine lv_aload_n hx hb dX1_clear_141 rfl (lv_at hl 0 rfl) ?_
                      refine x1_get S hin hK hP rfl 9 (by decide) rfl (by decide +kernel) (v := .ref b3) rfl dX1_clear_142 ?_
                      refine lv_bipush (v := nI 20) hx hb dX1_clear_145 (by decide +kernel) ?_
                      refine lv_iload hx hb dX1_clear_147 (lv_at hl 3 rfl) ?_
                      refine nv_imul hx hb dX1_clear_149 ?_
                      refine lv_iload hx hb dX1_clear_150 (lv_at hl 5 rfl) ?_
                      refine nv_iadd hx hb dX1_clear_152 ?_
                      refine nv_lald hx hb hK hP 3 0 rfl rfl (v := lN (col2 k (tkr P Mi rk i (P - (Mi i cc))) Mi i k)) (by omega) (by decide) (hinv3 i (by omega) k (by omega)) dX1_clear_153 ?_
                      refine lv_aload_n hx hb dX1_clear_154 rfl (lv_at hl 0 rfl) ?_
                      refine x1_get S hin hK hP rfl 1 (by decide) rfl (by decide +kernel) (v := .long (lN P)) rfl dX1_clear_155 ?_
                      refine lv_lload hx hb dX1_clear_158 (lv_at hl 4 rfl) ?_
                      refine nv_lsub hx hb (by omega) dX1_clear_160 ?_
                      refine lv_aload_n hx hb dX1_clear_161 rfl (lv_at hl 0 rfl) ?_
                      refine x1_get S hin hK hP rfl 9 (by decide) rfl (by decide +kernel) (v := .ref b3) rfl dX1_clear_162 ?_
                      refine lv_bipush (v := nI 20) hx hb dX1_clear_165 (by decide +kernel) ?_
                      refine lv_aload_n hx hb dX1_clear_167 rfl (lv_at hl 0 rfl) ?_
                      refine x1_get S hin hK hP rfl 8 (by decide) rfl (by decide +kernel) (v := .int (nI rk)) rfl dX1_clear_168 ?_
                      refine nv_imul hx hb dX1_clear_171 ?_
                      refine lv_iload hx hb dX1_clear_172 (lv_at hl 5 rfl) ?_
                      refine nv_iadd hx hb dX1_clear_174 ?_
                      refine nv_lald hx hb hK hP 3 0 rfl rfl (v := lN (col2 k (tkr P Mi rk i (P - (Mi i cc))) Mi rk k)) (by omega) (by decide) (hinv3 rk hrk k (by omega)) dX1_clear_175 ?_
                      refine nv_lmul hx hb dX1_clear_176 ?_
                      refine nv_ladd hx hb dX1_clear_177 ?_
                      refine lv_aload_n hx hb dX1_clear_178 rfl (lv_at hl 0 rfl) ?_
                      refine x1_get S hin hK hP rfl 1 (by decide) rfl (by decide +kernel) (v := .long (lN P)) rfl dX1_clear_179 ?_
                      refine nv_lrem hx hb (mul_b2 (by omega) (by omega) (by omega)) (by omega) (by omega) dX1_clear_182 ?_
                      refine nv_last hx hb hK hP hD hS 3 0 rfl rfl (by omega) (by decide) dX1_clear_183 (fun H locs hP hD hS => ?_)
                      have hP : va_P D vwCl (mdW h b1 b2 b3 b4 b5 cJ cI (lN P) (nI mR) (nI nC) vd gA gB rd rk (vp_updL f2 ((20 * i) + k) (lN (((col2 k (tkr P Mi rk i (P - (Mi i cc))) Mi i k) + ((P - (Mi i cc)) * (col2 k (tkr P Mi rk i (P - (Mi i cc))) Mi rk k))) % P))) gP gS) H := hP
                      have hD : va_D A (mdW h b1 b2 b3 b4 b5 cJ cI (lN P) (nI mR) (nI nC) vd gA gB rd rk (vp_updL f2 ((20 * i) + k) (lN (((col2 k (tkr P Mi rk i (P - (Mi i cc))) Mi i k) + ((P - (Mi i cc)) * (col2 k (tkr P Mi rk i (P - (Mi i cc))) Mi rk k))) % P))) gP gS) := hD
                      refine lv_iinc (v := nI (k + 1)) (lv' := [(7, .int (nI (k + 1))), (0, .ref h), (1, .int (nI cc)), (2, .long (lN Y)), (4, .int (nI i)), (5, .long (lN (Mi i cc)))]) hx hb dX1_clear_184 hl (k := 5) rfl (nv_inc k 1) (by decide) rfl (fun ls hl => ?_)
                      refine lv_goto (tgt := 122) hx hb dX1_clear_187 (by decide) ?_
                      exact ihL3 (vp_updL f2 ((20 * i) + k) (lN (((col2 k (tkr P Mi rk i (P - (Mi i cc))) Mi i k) + ((P - (Mi i cc)) * (col2 k (tkr P Mi rk i (P - (Mi i cc))) Mi rk k))) % P))) (k + 1) (by omega) (sq_tkr c_5 hinv3) (by omega) ls _ _ (lv_sub hl [1, 2, 3, 4, 5, 0] rfl) hP hD hS
                exact L3 21 f1 0 (by omega) hinv2.col0 (by omega) ls _ _ (lv_sub hl [2, 3, 4, 5, 1, 0] rfl) hP hD hS
              · refine lv_lconst (v := lN 0) hx hb dX1_clear_101 rfl ?_
                refine lv_goto (tgt := 117) hx hb dX1_clear_102 (by decide) ?_
                have ht : 0 = if i = rk then 0 else Mi i cc := by rw [if_pos c_4]
                have htP : 0 < P := by first | omega | exact hBi i cc
                refine lv_lstore (lv' := [(5, .long (lN 0)), (0, .ref h), (1, .int (nI cc)), (2, .long (lN Y)), (4, .int (nI i))]) hx hb dX1_clear_117 hl (by decide) rfl (fun ls hl => ?_)
                refine lv_iconst (v := nI 0) hx hb dX1_clear_119 (by decide +kernel) ?_
                refine lv_istore (lv' := [(7, .int (nI 0)), (5, .long (lN 0)), (0, .ref h), (1, .int (nI cc)), (2, .long (lN Y)), (4, .int (nI i))]) hx hb dX1_clear_120 hl (by decide) rfl (fun ls hl => ?_)
                have L3 : ∀ (nL3 : Nat) (f2 : Nat → Int64) (k : Nat), (k ≤ 20) → (Rq mR f2 (col2 k (tkr P Mi rk i (P - 0)) Mi)) → (21 ≤ k + nL3) → ∀ (ls : Array Slot) (H : Heap) (locs : List Loc), lv_has ls 8 [(0, .ref h), (1, .int (nI cc)), (2, .long (lN Y)), (4, .int (nI i)), (5, .long (lN 0)), (7, .int (nI k))] → va_P D vwCl (mdW h b1 b2 b3 b4 b5 cJ cI (lN P) (nI mR) (nI nC) vd gA gB rd rk f2 gP gS) H → va_D A (mdW h b1 b2 b3 b4 b5 cJ cI (lN P) (nI mR) (nI nC) vd gA gB rd rk f2 gP gS) → va_S A s.heap H locs → W p l e ({ frames := 1, cells := 0, slots := 0, locals := 27 }) s mm args below meth c H locs 0 0 Q (F0 mm 122 ls []) := by
                  intro nL3
                  induction nL3 with
                  | zero => intro f2 k hk3 hinv3 hfuel; exfalso; omega
                  | succ nL3 ihL3 =>
                    intro f2 k hk3 hinv3 hfuel ls H locs hl hP hD hS
                    refine lv_iload hx hb dX1_clear_122 (lv_at hl 5 rfl) ?_
                    refine lv_bipush (v := nI 20) hx hb dX1_clear_124 (by decide +kernel) ?_
                    refine nv_icmp_ge (tgt := 190) hx hb dX1_clear_126 (by decide) (by omega) (by omega) (fun c_6 => ?_) (fun c_6 => ?_)
                    · have hr3 := hinv3.colw c_6
                      rw [hMi] at hr3 ht
                      refine lv_iinc (v := nI (i + 1)) (lv' := [(4, .int (nI (i + 1))), (0, .ref h), (1, .int (nI cc)), (2, .long (lN Y)), (5, .long (lN 0)), (7, .int (nI k))]) hx hb dX1_clear_190 hl (k := 3) rfl (nv_inc i 1) (by decide) rfl (fun ls hl => ?_)
                      refine lv_goto (tgt := 83) hx hb dX1_clear_193 (by decide) ?_
                      exact ihL2 f2 (i + 1) (by omega) (sq_clr hB2 ht hr3) (by omega) ls _ _ (lv_sub hl [1, 2, 3, 0] rfl) hP hD hS
                    · have hbk : ∀ a b, col2 k (tkr P Mi rk i (P - 0)) Mi a b < P := bn_col2 (bn_tkr (by omega) hBi rk i _) hBi k
                      have hb1 := hbk i k
                      have hb2 := hbk rk k
                      refine lv_aload_n hx hb dX1_clear_129 rfl (lv_at hl 0 rfl) ?_
                      refine x1_get S hin hK hP rfl 9 (by decide) rfl (by decide +kernel) (v := .ref b3) rfl dX1_clear_130 ?_
                      refine lv_bipush (v := nI 20) hx hb dX1_clear_133 (by decide +kernel) ?_
                      refine lv_iload hx hb dX1_clear_135 (lv_at hl 3 rfl) ?_
                      refine nv_imul hx hb dX1_clear_137 ?_
                      refine lv_iload hx hb dX1_clear_138 (lv_at hl 5 rfl) ?_
                      refine nv_iadd hx hb dX1_clear_140 ?_
                      refine lv_aload_n hx hb dX1_clear_141 rfl (lv_at hl 0 rfl) ?_
                      refine x1_get S hin hK hP rfl 9 (by decide) rfl (by decide +kernel) (v := .ref b3) rfl dX1_clear_142 ?_
                      refine lv_bipush (v := nI 20) hx hb dX1_clear_145 (by decide +kernel) ?_
                      refine lv_iload hx hb dX1_clear_147 (lv_at hl 3 rfl) ?_
                      refine nv_imul hx hb dX1_clear_149 ?_
                      refine lv_iload hx hb dX1_clear_150 (lv_at hl 5 rfl) ?_
                      refine nv_iadd hx hb dX1_clear_152 ?_
                      refine nv_lald hx hb hK hP 3 0 rfl rfl (v := lN (col2 k (tkr P Mi rk i (P - 0)) Mi i k)) (by omega) (by decide) (hinv3 i (by omega) k (by omega)) dX1_clear_153 ?_
                      refine lv_aload_n hx hb dX1_clear_154 rfl (lv_at hl 0 rfl) ?_
                      refine x1_get S hin hK hP rfl 1 (by decide) rfl (by decide +kernel) (v := .long (lN P)) rfl dX1_clear_155 ?_
                      refine lv_lload hx hb dX1_clear_158 (lv_at hl 4 rfl) ?_
                      refine nv_lsub hx hb (by omega) dX1_clear_160 ?_
                      refine lv_aload_n hx hb dX1_clear_161 rfl (lv_at hl 0 rfl) ?_
                      refine x1_get S hin hK hP rfl 9 (by decide) rfl (by decide +kernel) (v := .ref b3) rfl dX1_clear_162 ?_
                      refine lv_bipush (v := nI 20) hx hb dX1_clear_165 (by decide +kernel) ?_
                      refine lv_aload_n hx hb dX1_clear_167 rfl (lv_at hl 0 rfl) ?_
                      refine x1_get S hin hK hP rfl 8 (by decide) rfl (by decide +kernel) (v := .int (nI rk)) rfl dX1_clear_168 ?_
                      refine nv_imul hx hb dX1_clear_171 ?_
                      refine lv_iload hx hb dX1_clear_172 (lv_at hl 5 rfl) ?_
                      refine nv_iadd hx hb dX1_clear_174 ?_
                      refine nv_lald hx hb hK hP 3 0 rfl rfl (v := lN (col2 k (tkr P Mi rk i (P - 0)) Mi rk k)) (by omega) (by decide) (hinv3 rk hrk k (by omega)) dX1_clear_175 ?_
                      refine nv_lmul hx hb dX1_clear_176 ?_
                      refine nv_ladd hx hb dX1_clear_177 ?_
                      refine lv_aload_n hx hb dX1_clear_178 rfl (lv_at hl 0 rfl) ?_
                      refine x1_get S hin hK hP rfl 1 (by decide) rfl (by decide +kernel) (v := .long (lN P)) rfl dX1_clear_179 ?_
                      refine nv_lrem hx hb (mul_b2 (by omega) (by omega) (by omega)) (by omega) (by omega) dX1_clear_182 ?_
                      refine nv_last hx hb hK hP hD hS 3 0 rfl rfl (by omega) (by decide) dX1_clear_183 (fun H locs hP hD hS => ?_)
                      have hP : va_P D vwCl (mdW h b1 b2 b3 b4 b5 cJ cI (lN P) (nI mR) (nI nC) vd gA gB rd rk (vp_updL f2 ((20 * i) + k) (lN (((col2 k (tkr P Mi rk i (P - 0)) Mi i k) + ((P - 0) * (col2 k (tkr P Mi rk i (P - 0)) Mi rk k))) % P))) gP gS) H := hP
                      have hD : va_D A (mdW h b1 b2 b3 b4 b5 cJ cI (lN P) (nI mR) (nI nC) vd gA gB rd rk (vp_updL f2 ((20 * i) + k) (lN (((col2 k (tkr P Mi rk i (P - 0)) Mi i k) + ((P - 0) * (col2 k (tkr P Mi rk i (P - 0)) Mi rk k))) % P))) gP gS) := hD
                      refine lv_iinc (v := nI (k + 1)) (lv' := [(7, .int (nI (k + 1))), (0, .ref h), (1, .int (nI cc)), (2, .long (lN Y)), (4, .int (nI i)), (5, .long (lN 0))]) hx hb dX1_clear_184 hl (k := 5) rfl (nv_inc k 1) (by decide) rfl (fun ls hl => ?_)
                      refine lv_goto (tgt := 122) hx hb dX1_clear_187 (by decide) ?_
                      exact ihL3 (vp_updL f2 ((20 * i) + k) (lN (((col2 k (tkr P Mi rk i (P - 0)) Mi i k) + ((P - 0) * (col2 k (tkr P Mi rk i (P - 0)) Mi rk k))) % P))) (k + 1) (by omega) (sq_tkr c_6 hinv3) (by omega) ls _ _ (lv_sub hl [1, 2, 3, 4, 5, 0] rfl) hP hD hS
                exact L3 21 f1 0 (by omega) hinv2.col0 (by omega) ls _ _ (lv_sub hl [2, 3, 4, 5, 1, 0] rfl) hP hD hS
        exact L2 (mR + 1) f 0 (by omega) (Rq.row0 hr2) (by omega) ls _ _ (lv_sub hl [1, 2, 3, 0] rfl) hP hD hS
      · have hbi : col2 i (scl P M rk Y) M rk i < P := bn_col2 (bn_scl (by omega) hB rk Y) hB i rk i
        refine lv_aload_n hx hb dX1_clear_37 rfl (lv_at hl 0 rfl) ?_
        refine x1_get S hin hK hP rfl 9 (by decide) rfl (by decide +kernel) (v := .ref b3) rfl dX1_clear_38 ?_
        refine lv_bipush (v := nI 20) hx hb dX1_clear_41 (by decide +kernel) ?_
        refine lv_aload_n hx hb dX1_clear_43 rfl (lv_at hl 0 rfl) ?_
        refine x1_get S hin hK hP rfl 8 (by decide) rfl (by decide +kernel) (v := .int (nI rk)) rfl dX1_clear_44 ?_
        refine nv_imul hx hb dX1_clear_47 ?_
        refine lv_iload hx hb dX1_clear_48 (lv_at hl 3 rfl) ?_
        refine nv_iadd hx hb dX1_clear_50 ?_
        refine lv_aload_n hx hb dX1_clear_51 rfl (lv_at hl 0 rfl) ?_
        refine x1_get S hin hK hP rfl 9 (by decide) rfl (by decide +kernel) (v := .ref b3) rfl dX1_clear_52 ?_
        refine lv_bipush (v := nI 20) hx hb dX1_clear_55 (by decide +kernel) ?_
        refine lv_aload_n hx hb dX1_clear_57 rfl (lv_at hl 0 rfl) ?_
        refine x1_get S hin hK hP rfl 8 (by decide) rfl (by decide +kernel) (v := .int (nI rk)) rfl dX1_clear_58 ?_
        refine nv_imul hx hb dX1_clear_61 ?_
        refine lv_iload hx hb dX1_clear_62 (lv_at hl 3 rfl) ?_
        refine nv_iadd hx hb dX1_clear_64 ?_
        refine nv_lald hx hb hK hP 3 0 rfl rfl (v := lN (col2 i (scl P M rk Y) M rk i)) (by omega) (by decide) (hinv rk hrk i (by omega)) dX1_clear_65 ?_
        refine lv_lload_n hx hb dX1_clear_66 rfl (lv_at hl 2 rfl) ?_
        refine nv_lmul hx hb dX1_clear_67 ?_
        refine lv_aload_n hx hb dX1_clear_68 rfl (lv_at hl 0 rfl) ?_
        refine x1_get S hin hK hP rfl 1 (by decide) rfl (by decide +kernel) (v := .long (lN P)) rfl dX1_clear_69 ?_
        refine nv_lrem hx hb (mul_b (by omega) (by omega)) (by omega) (by omega) dX1_clear_72 ?_
        refine nv_last hx hb hK hP hD hS 3 0 rfl rfl (by omega) (by decide) dX1_clear_73 (fun H locs hP hD hS => ?_)
        have hP : va_P D vwCl (mdW h b1 b2 b3 b4 b5 cJ cI (lN P) (nI mR) (nI nC) vd gA gB rd rk (vp_updL f ((20 * rk) + i) (lN (((col2 i (scl P M rk Y) M rk i) * Y) % P))) gP gS) H := hP
        have hD : va_D A (mdW h b1 b2 b3 b4 b5 cJ cI (lN P) (nI mR) (nI nC) vd gA gB rd rk (vp_updL f ((20 * rk) + i) (lN (((col2 i (scl P M rk Y) M rk i) * Y) % P))) gP gS) := hD
        refine lv_iinc (v := nI (i + 1)) (lv' := [(4, .int (nI (i + 1))), (0, .ref h), (1, .int (nI cc)), (2, .long (lN Y))]) hx hb dX1_clear_74 hl (k := 3) rfl (nv_inc i 1) (by decide) rfl (fun ls hl => ?_)
        refine lv_goto (tgt := 30) hx hb dX1_clear_77 (by decide) ?_
        exact ihL (vp_updL f ((20 * rk) + i) (lN (((col2 i (scl P M rk Y) M rk i) * Y) % P))) (i + 1) (by omega) (sq_scl c_2 hinv) (by omega) ls _ _ (lv_sub hl [1, 2, 3, 0] rfl) hP hD hS
  exact L 21 gR 0 (by omega) hM.col0 (by omega) ls _ _ (lv_sub hl [2, 3, 1, 0] rfl) hP hD hS
