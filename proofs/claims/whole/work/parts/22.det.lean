set_option maxHeartbeats 4000000 in
set_option maxRecDepth 100000 in
theorem c_X1_det (l : Launch) (D : va_G) {h b1 b2 b3 b4 b5 : Nat} {cJ cI : ClassId} {gA gB : Nat → Int64} {rd rk : Nat} {gR : Nat → Int64} {gP : Nat → Int32} {gS : Nat → Int64} {pj : Int64} {mi ni : Int32} {vd P mR nC : Nat} {M : Mat} {pc : Nat → Nat} {A0 : Mat} (hvd : vd < 2) (hV : vd ≠ 0 → MdV pj mi ni P mR nC) (hI : vd = 0 → mR = 0 ∧ nC = 0) (hrd : rd < 2) (hQ : rd ≠ 0 → vd ≠ 0 ∧ MdQ P mR nC rk gR gP M pc) (hAb : vd ≠ 0 → bnd P A0) (hA0 : ∀ a, a < mR → ∀ k, k < nC → gA (10 * a + k) = lN (A0 a k)) : WrI (U := Nat → Int64) l yX1_det wsX1_det ({ frames := 0, cells := 0, slots := 0, locals := 0 }) [.ref h] D (mdW h b1 b2 b3 b4 b5 cJ cI pj mi ni vd gA gB rd rk gR gP gS) [(cJ, .long), (cI, .int)] (fun r _ => r = if rd ≠ 0 ∧ mR = nC then nI (EE P nC A0 (1 * 2 ^ nC - 1)) else -1) (fun u => mdW h b1 b2 b3 b4 b5 cJ cI pj mi ni vd gA gB rd rk gR gP u) := by
  refine WrI.mk (cc := cX1_det) (maxL := 9) (rt := .int) (by decide) rfl (Nat.le_of_ble_eq_true rfl) ?_
  intro p e s mm args below meth c Q ls A S hK hP hD hA hS hl hret
  have hx := S.1
  have hb := S.2.1
  have hts := S.2.2.2.2
  have hown := S.2.2.2.1
  have hin : ∀ w ∈ wsX10, w ∈ wsX1_det := fun w h => List.mem_cons_of_mem _ (List.mem_append_right _ h)
  have hl : lv_has ls 9 [(0, .ref h)] := hl
  refine lv_aload_n hx hb dX1_det_0 rfl (lv_at hl 0 rfl) ?_
  refine lv_iconst (v := nI 0) hx hb dX1_det_1 (by decide +kernel) ?_
  refine x1_put S hin hK hP hD hS rfl 0 (by decide) rfl (by decide +kernel) rfl (ty := .int) (v := .int (nI 0)) rfl rfl rfl (Nat.le_of_ble_eq_true rfl) dX1_det_2 (fun H locs hP hD hS => ?_)
  have hP : va_P D vwCl (mdW h b1 b2 b3 b4 b5 cJ cI pj mi ni vd gA gB rd rk gR gP gS) H := hP
  have hD : va_D A (mdW h b1 b2 b3 b4 b5 cJ cI pj mi ni vd gA gB rd rk gR gP gS) := hD
  refine lv_aload_n hx hb dX1_det_5 rfl (lv_at hl 0 rfl) ?_
  refine x1_get S hin hK hP rfl 7 (by decide) rfl (by decide +kernel) (v := .int (nI rd)) rfl dX1_det_6 ?_
  refine nv_if_eq (tgt := 23) hx hb dX1_det_9 (by decide) (by omega) (fun c_1 => ?_) (fun c_1 => ?_)
  · refine lv_iconst (v := (-1)) hx hb dX1_det_23 (by decide +kernel) ?_
    exact hret ((-1)) gS 24 ls _ _ dX1_det_24 (rfl) hP hD hS (by
        rw [if_neg]
        simp [c_1])
  · have hrd0 : rd ≠ 0 := by omega
    obtain ⟨hV0, hM, hB, hrm, hrn, hg, hpc, hcnt⟩ := hQ hrd0
    have hV9 := hV hV0
    obtain ⟨rfl, rfl, rfl, hP2, hPl, hm1, hm, hn1, hn⟩ := hV9
    refine lv_aload_n hx hb dX1_det_12 rfl (lv_at hl 0 rfl) ?_
    refine x1_get S hin hK hP rfl 2 (by decide) rfl (by decide +kernel) (v := .int (nI mR)) rfl dX1_det_13 ?_
    refine lv_aload_n hx hb dX1_det_16 rfl (lv_at hl 0 rfl) ?_
    refine x1_get S hin hK hP rfl 3 (by decide) rfl (by decide +kernel) (v := .int (nI nC)) rfl dX1_det_17 ?_
    refine nv_icmp_eq (tgt := 25) hx hb dX1_det_20 (by decide) (by omega) (by omega) (fun c_2 => ?_) (fun c_2 => ?_)
    · refine lv_aload_n hx hb dX1_det_25 rfl (lv_at hl 0 rfl) ?_
      refine x1_get S hin hK hP rfl 11 (by decide) rfl (by decide +kernel) (v := .ref b5) rfl dX1_det_26 ?_
      refine lv_iconst (v := nI 0) hx hb dX1_det_29 (by decide +kernel) ?_
      refine lv_lconst (v := lN 1) hx hb dX1_det_30 rfl ?_
      refine nv_last hx hb hK hP hD hS 5 0 rfl rfl (by omega) (by decide) dX1_det_31 (fun H locs hP hD hS => ?_)
      have hP : va_P D vwCl (mdW h b1 b2 b3 b4 b5 cJ cI (lN P) (nI mR) (nI nC) vd gA gB rd rk gR gP (vp_updL gS 0 (lN 1))) H := hP
      have hD : va_D A (mdW h b1 b2 b3 b4 b5 cJ cI (lN P) (nI mR) (nI nC) vd gA gB rd rk gR gP (vp_updL gS 0 (lN 1))) := hD
      refine lv_iconst (v := nI 1) hx hb dX1_det_32 (by decide +kernel) ?_
      refine lv_istore_n (lv' := [(1, .int (nI 1)), (0, .ref h)]) hx hb dX1_det_33 rfl hl (by decide) rfl (fun ls hl => ?_)
      have hp2 := p2_le hn
      have hp0 := p2_pos nC
      have hP0 : 0 < P := by omega
      have hAb1 := hAb hV0
      have L : ∀ (nL : Nat) (g : Nat → Int64) (t : Nat), (1 ≤ t) → (t ≤ 2 ^ nC) → (∀ q, q < t → g q = lN (EE P nC A0 q)) → (2 ^ nC + 1 ≤ t + nL) → ∀ (ls : Array Slot) (H : Heap) (locs : List Loc), lv_has ls 9 [(0, .ref h), (1, .int (nI t))] → va_P D vwCl (mdW h b1 b2 b3 b4 b5 cJ cI (lN P) (nI mR) (nI nC) vd gA gB rd rk gR gP g) H → va_D A (mdW h b1 b2 b3 b4 b5 cJ cI (lN P) (nI mR) (nI nC) vd gA gB rd rk gR gP g) → va_S A s.heap H locs → W p l e ({ frames := 0, cells := 0, slots := 0, locals := 0 }) s mm args below meth c H locs 0 0 Q (F0 mm 34 ls []) := by
        intro nL
        induction nL with
        | zero => intro g t ht0 ht1 hs1 hfuel; exfalso; omega
        | succ nL ihL =>
          intro g t ht0 ht1 hs1 hfuel ls H locs hl hP hD hS
          refine lv_iload_n hx hb dX1_det_34 rfl (lv_at hl 1 rfl) ?_
          refine lv_iconst (v := nI 1) hx hb dX1_det_35 (by decide +kernel) ?_
          refine lv_aload_n hx hb dX1_det_36 rfl (lv_at hl 0 rfl) ?_
          refine x1_get S hin hK hP rfl 3 (by decide) rfl (by decide +kernel) (v := .int (nI nC)) rfl dX1_det_37 ?_
          refine nv_ishl hx hb (by omega) (by omega) dX1_det_40 ?_
          refine nv_icmp_ge (tgt := 182) hx hb dX1_det_41 (by decide) (by omega) (by omega) (fun c_3 => ?_) (fun c_3 => ?_)
          · refine lv_aload_n hx hb dX1_det_182 rfl (lv_at hl 0 rfl) ?_
            refine x1_get S hin hK hP rfl 11 (by decide) rfl (by decide +kernel) (v := .ref b5) rfl dX1_det_183 ?_
            refine lv_iconst (v := nI 1) hx hb dX1_det_186 (by decide +kernel) ?_
            refine lv_aload_n hx hb dX1_det_187 rfl (lv_at hl 0 rfl) ?_
            refine x1_get S hin hK hP rfl 3 (by decide) rfl (by decide +kernel) (v := .int (nI nC)) rfl dX1_det_188 ?_
            refine nv_ishl hx hb (by omega) (by omega) dX1_det_191 ?_
            refine lv_iconst (v := nI 1) hx hb dX1_det_192 (by decide +kernel) ?_
            refine nv_isub hx hb (by omega) dX1_det_193 ?_
            refine nv_lald hx hb hK hP 5 0 rfl rfl (v := lN (EE P nC A0 (1 * 2 ^ nC - 1))) (by omega) (by decide) (hs1 _ (by omega)) dX1_det_194 ?_
            refine lv_aload_n hx hb dX1_det_195 rfl (lv_at hl 0 rfl) ?_
            refine x1_get S hin hK hP rfl 1 (by decide) rfl (by decide +kernel) (v := .long (lN P)) rfl dX1_det_196 ?_
            refine nv_lrem hx hb (Nat.lt_trans (EE_lt hP0 A0 _) (by omega)) (by omega) (by omega) dX1_det_199 ?_
            refine nv_l2i hx hb dX1_det_200 ?_
            exact hret (nI ((EE P nC A0 (1 * 2 ^ nC - 1)) % P)) g 201 ls _ _ dX1_det_201 (rfl) hP hD hS (by
                rw [if_pos ⟨hrd0, c_2⟩, Nat.mod_eq_of_lt (EE_lt hP0 A0 _)])
          · refine lv_iconst (v := nI 0) hx hb dX1_det_44 (by decide +kernel) ?_
            refine lv_istore_n (lv' := [(2, .int (nI 0)), (0, .ref h), (1, .int (nI t))]) hx hb dX1_det_45 rfl hl (by decide) rfl (fun ls hl => ?_)
            refine lv_iconst (v := nI 0) hx hb dX1_det_46 (by decide +kernel) ?_
            refine lv_istore_n (lv' := [(3, .int (nI 0)), (2, .int (nI 0)), (0, .ref h), (1, .int (nI t))]) hx hb dX1_det_47 rfl hl (by decide) rfl (fun ls hl => ?_)
            have L1 : ∀ (nL1 : Nat) (rw1 : Nat) (k : Nat), (k ≤ nC) → (rw1 = cu (tb t) k 0) → (nC + 1 ≤ k + nL1) → ∀ (ls : Array Slot) (H : Heap) (locs : List Loc), lv_has ls 9 [(0, .ref h), (1, .int (nI t)), (2, .int (nI rw1)), (3, .int (nI k))] → va_P D vwCl (mdW h b1 b2 b3 b4 b5 cJ cI (lN P) (nI mR) (nI nC) vd gA gB rd rk gR gP g) H → va_D A (mdW h b1 b2 b3 b4 b5 cJ cI (lN P) (nI mR) (nI nC) vd gA gB rd rk gR gP g) → va_S A s.heap H locs → W p l e ({ frames := 0, cells := 0, slots := 0, locals := 0 }) s mm args below meth c H locs 0 0 Q (F0 mm 48 ls []) := by
              intro nL1
              induction nL1 with
              | zero => intro rw1 k hk hrw hfuel; exfalso; omega
              | succ nL1 ihL1 =>
                intro rw1 k hk hrw hfuel ls H locs hl hP hD hS
                refine lv_iload_n hx hb dX1_det_48 rfl (lv_at hl 3 rfl) ?_
                refine lv_aload_n hx hb dX1_det_49 rfl (lv_at hl 0 rfl) ?_
                refine x1_get S hin hK hP rfl 3 (by decide) rfl (by decide +kernel) (v := .int (nI nC)) rfl dX1_det_50 ?_
                refine nv_icmp_ge (tgt := 70) hx hb dX1_det_53 (by decide) (by omega) (by omega) (fun c_4 => ?_) (fun c_4 => ?_)
                · have hrw2 : rw1 = cu (tb t) nC 0 := by rw [hrw, show k = nC by omega]
                  refine lv_lconst (v := lN 0) hx hb dX1_det_70 rfl ?_
                  refine lv_lstore_n (lv' := [(3, .long (lN 0)), (0, .ref h), (1, .int (nI t)), (2, .int (nI rw1))]) hx hb dX1_det_71 rfl hl (by decide) rfl (fun ls hl => ?_)
                  refine lv_iconst (v := nI 0) hx hb dX1_det_72 (by decide +kernel) ?_
                  refine lv_istore (lv' := [(5, .int (nI 0)), (3, .long (lN 0)), (0, .ref h), (1, .int (nI t)), (2, .int (nI rw1))]) hx hb dX1_det_73 hl (by decide) rfl (fun ls hl => ?_)
                  refine lv_aload_n hx hb dX1_det_75 rfl (lv_at hl 2 rfl) ?_
                  refine x1_get S hin hK hP rfl 3 (by decide) rfl (by decide +kernel) (v := .int (nI nC)) rfl dX1_det_76 ?_
                  refine lv_iconst (v := nI 1) hx hb dX1_det_79 (by decide +kernel) ?_
                  refine nv_isub hx hb (by omega) dX1_det_80 ?_
                  refine lv_istore (lv' := [(6, .int (nI (nC - 1))), (5, .int (nI 0)), (3, .long (lN 0)), (0, .ref h), (1, .int (nI t)), (2, .int (nI rw1))]) hx hb dX1_det_81 hl (by decide) rfl (fun ls hl => ?_)
                  rw [dn_p (by omega)] at hl
                  have hrl := cu_le (tb t) 0 nC
                  have L2 : ∀ (nL2 : Nat) (sm1 : Nat) (bh : Nat) (j : Nat), (j ≤ nC) → (sm1 < P) → ((sm1 : Int) = su nC (FF nC A0 t) j % (P : Int)) → (bh = cu (tb t) nC j) → (j < nL2) → ∀ (ls : Array Slot) (H : Heap) (locs : List Loc), lv_has ls 9 [(0, .ref h), (1, .int (nI t)), (2, .int (nI rw1)), (3, .long (lN sm1)), (5, .int (nI bh)), (6, .int (dn j))] → va_P D vwCl (mdW h b1 b2 b3 b4 b5 cJ cI (lN P) (nI mR) (nI nC) vd gA gB rd rk gR gP g) H → va_D A (mdW h b1 b2 b3 b4 b5 cJ cI (lN P) (nI mR) (nI nC) vd gA gB rd rk gR gP g) → va_S A s.heap H locs → W p l e ({ frames := 0, cells := 0, slots := 0, locals := 0 }) s mm args below meth c H locs 0 0 Q (F0 mm 83 ls []) := by
                    intro nL2
                    induction nL2 with
                    | zero => intro sm1 bh j hj hsP hsum hbh hfuel; exfalso; omega
                    | succ nL2 ihL2 =>
                      intro sm1 bh j hj hsP hsum hbh hfuel ls H locs hl hP hD hS
                      refine lv_iload hx hb dX1_det_83 (lv_at hl 5 rfl) ?_
                      refine lv_if_lt (tgt := 169) hx hb dX1_det_85 (by decide) (fun c_5 => ?_) (fun c_5 => ?_)
                      · have hj0 := dn_lt (by omega) c_5
                        subst hj0
                        have hE := EE_s hP0 (by omega) (by omega) hsum
                        refine lv_aload_n hx hb dX1_det_169 rfl (lv_at hl 0 rfl) ?_
                        refine x1_get S hin hK hP rfl 11 (by decide) rfl (by decide +kernel) (v := .ref b5) rfl dX1_det_170 ?_
                        refine lv_iload_n hx hb dX1_det_173 rfl (lv_at hl 1 rfl) ?_
                        refine lv_lload_n hx hb dX1_det_174 rfl (lv_at hl 3 rfl) ?_
                        refine nv_last hx hb hK hP hD hS 5 0 rfl rfl (by omega) (by decide) dX1_det_175 (fun H locs hP hD hS => ?_)
                        have hP : va_P D vwCl (mdW h b1 b2 b3 b4 b5 cJ cI (lN P) (nI mR) (nI nC) vd gA gB rd rk gR gP (vp_updL g t (lN sm1))) H := hP
                        have hD : va_D A (mdW h b1 b2 b3 b4 b5 cJ cI (lN P) (nI mR) (nI nC) vd gA gB rd rk gR gP (vp_updL g t (lN sm1))) := hD
                        refine lv_iinc (v := nI (t + 1)) (lv' := [(1, .int (nI (t + 1))), (0, .ref h), (2, .int (nI rw1)), (3, .long (lN sm1)), (5, .int (nI bh)), (6, .int (dn 0))]) hx hb dX1_det_176 hl (k := 1) rfl (nv_inc t 1) (by decide) rfl (fun ls hl => ?_)
                        refine lv_goto (tgt := 34) hx hb dX1_det_179 (by decide) ?_
                        exact ihL (vp_updL g t (lN sm1)) (t + 1) (by omega) (by omega) (fun q hq => by unfold vp_updL; split; rename_i e; rw [e, hE]; exact hs1 q (by omega)) (by omega) ls _ _ (lv_sub hl [1, 0] rfl) hP hD hS
                      · obtain ⟨k, rfl⟩ := dn_ge c_5
                        rw [dn_s k] at hl
                        have hk2 := p2_le (show k ≤ 10 by omega)
                        have hbl := cu_le (tb t) (k + 1) nC
                        refine lv_iload_n hx hb dX1_det_88 rfl (lv_at hl 1 rfl) ?_
                        refine lv_iload hx hb dX1_det_89 (lv_at hl 5 rfl) ?_
                        refine nv_ishr hx hb (by omega) (by omega) dX1_det_91 ?_
                        refine lv_iconst (v := nI 1) hx hb dX1_det_92 (by decide +kernel) ?_
                        refine nv_iand1 hx hb (Nat.lt_of_le_of_lt (Nat.div_le_self _ _) (by omega)) dX1_det_93 ?_
                        refine lv_iconst (v := nI 1) hx hb dX1_det_94 (by decide +kernel) ?_
                        refine nv_icmp_ne (tgt := 163) hx hb dX1_det_95 (by decide) (by omega) (by decide) (fun c_6 => ?_) (fun c_6 => ?_)
                        · refine lv_iinc (v := dn k) (lv' := [(6, .int (dn k)), (0, .ref h), (1, .int (nI t)), (2, .int (nI rw1)), (3, .long (lN sm1)), (5, .int (nI bh))]) hx hb dX1_det_163 hl (k := 5) rfl rfl (by decide) rfl (fun ls hl => ?_)
                          refine lv_goto (tgt := 83) hx hb dX1_det_166 (by decide) ?_
                          exact ihL2 sm1 bh k (by omega) hsP (by rw [(dp_no (by omega) c_6).1]; exact hsum) (by rw [(dp_no (A := A0) (by omega) c_6).2]; exact hbh) (by omega) ls _ _ (lv_sub hl [1, 2, 3, 4, 5, 0] rfl) hP hD hS
                        · have hb2 := tb_t c_6
                          have hx1 := xor_lt c_6
                          have hcp := cu_pos (show k < nC by omega) hb2
                          subst hrw2
                          have hE1 := EE_lt hP0 A0 (n := nC) (t ^^^ (1 * 2 ^ k))
                          have hA1 := hAb1 (cu (tb t) nC 0 - 1) k
                          have hpl := Nat.mod_lt (A0 (cu (tb t) nC 0 - 1) k * EE P nC A0 (t ^^^ (1 * 2 ^ k))) hP0
                          refine lv_aload_n hx hb dX1_det_98 rfl (lv_at hl 0 rfl) ?_
                          refine x1_get S hin hK hP rfl 5 (by decide) rfl (by decide +kernel) (v := .ref b1) rfl dX1_det_99 ?_
                          refine lv_bipush (v := nI 10) hx hb dX1_det_102 (by decide +kernel) ?_
                          refine lv_iload_n hx hb dX1_det_104 rfl (lv_at hl 2 rfl) ?_
                          refine lv_iconst (v := nI 1) hx hb dX1_det_105 (by decide +kernel) ?_
                          refine nv_isub hx hb (by omega) dX1_det_106 ?_
                          refine nv_imul hx hb dX1_det_107 ?_
                          refine lv_iload hx hb dX1_det_108 (lv_at hl 5 rfl) ?_
                          refine nv_iadd hx hb dX1_det_110 ?_
                          refine nv_lald hx hb hK hP 1 0 rfl rfl (v := lN (A0 (cu (tb t) nC 0 - 1) k)) (by omega) (by decide) (hA0 _ (by omega) k (by omega)) dX1_det_111 ?_
                          refine lv_aload_n hx hb dX1_det_112 rfl (lv_at hl 0 rfl) ?_
                          refine x1_get S hin hK hP rfl 11 (by decide) rfl (by decide +kernel) (v := .ref b5) rfl dX1_det_113 ?_
                          refine lv_iload_n hx hb dX1_det_116 rfl (lv_at hl 1 rfl) ?_
                          refine lv_iconst (v := nI 1) hx hb dX1_det_117 (by decide +kernel) ?_
                          refine lv_iload hx hb dX1_det_118 (lv_at hl 5 rfl) ?_
                          refine nv_ishl hx hb (by omega) (by omega) dX1_det_120 ?_
                          refine nv_ixor hx hb dX1_det_121 ?_
                          refine nv_lald hx hb hK hP 5 0 rfl rfl (v := lN (EE P nC A0 (t ^^^ (1 * 2 ^ k)))) (by omega) (by decide) (hs1 _ hx1) dX1_det_122 ?_
                          refine nv_lmul hx hb dX1_det_123 ?_
                          refine lv_aload_n hx hb dX1_det_124 rfl (lv_at hl 0 rfl) ?_
                          refine x1_get S hin hK hP rfl 1 (by decide) rfl (by decide +kernel) (v := .long (lN P)) rfl dX1_det_125 ?_
                          refine nv_lrem hx hb (mul_b (by omega) (by omega)) (by omega) (by omega) dX1_det_128 ?_
                          refine lv_lstore (lv' := [(7, .long (lN (((A0 (cu (tb t) nC 0 - 1) k) * (EE P nC A0 (t ^^^ (1 * 2 ^ k)))) % P))), (0, .ref h), (1, .int (nI t)), (2, .int (nI (cu (tb t) nC 0))), (3, .long (lN sm1)), (5, .int (nI bh)), (6, .int (nI k))]) hx hb dX1_det_129 hl (by decide) rfl (fun ls hl => ?_)
                          refine lv_iload hx hb dX1_det_131 (lv_at hl 5 rfl) ?_
                          refine lv_iconst (v := nI 2) hx hb dX1_det_133 (by decide +kernel) ?_
                          refine nv_irem hx hb (by omega) (by decide) (by decide) dX1_det_134 ?_
                          refine nv_if_ne (tgt := 145) hx hb dX1_det_135 (by decide) (by omega) (fun c_7 => ?_) (fun c_7 => ?_)
                          · refine lv_lload_n hx hb dX1_det_145 rfl (lv_at hl 4 rfl) ?_
                            refine lv_aload_n hx hb dX1_det_146 rfl (lv_at hl 1 rfl) ?_
                            refine x1_get S hin hK hP rfl 1 (by decide) rfl (by decide +kernel) (v := .long (lN P)) rfl dX1_det_147 ?_
                            refine nv_ladd hx hb dX1_det_150 ?_
                            refine lv_lload hx hb dX1_det_151 (lv_at hl 0 rfl) ?_
                            refine nv_lsub hx hb (by omega) dX1_det_153 ?_
                            refine lv_aload_n hx hb dX1_det_154 rfl (lv_at hl 1 rfl) ?_
                            refine x1_get S hin hK hP rfl 1 (by decide) rfl (by decide +kernel) (v := .long (lN P)) rfl dX1_det_155 ?_
                            refine nv_lrem hx hb (by omega) (by omega) (by omega) dX1_det_158 ?_
                            refine lv_lstore_n (lv' := [(3, .long (lN (((sm1 + P) - (((A0 (cu (tb t) nC 0 - 1) k) * (EE P nC A0 (t ^^^ (1 * 2 ^ k)))) % P)) % P))), (7, .long (lN (((A0 (cu (tb t) nC 0 - 1) k) * (EE P nC A0 (t ^^^ (1 * 2 ^ k)))) % P))), (0, .ref h), (1, .int (nI t)), (2, .int (nI (cu (tb t) nC 0))), (5, .int (nI bh)), (6, .int (nI k))]) hx hb dX1_det_159 rfl hl (by decide) rfl (fun ls hl => ?_)
                            refine lv_iinc (v := nI (bh + 1)) (lv' := [(5, .int (nI (bh + 1))), (3, .long (lN (((sm1 + P) - (((A0 (cu (tb t) nC 0 - 1) k) * (EE P nC A0 (t ^^^ (1 * 2 ^ k)))) % P)) % P))), (7, .long (lN (((A0 (cu (tb t) nC 0 - 1) k) * (EE P nC A0 (t ^^^ (1 * 2 ^ k)))) % P))), (0, .ref h), (1, .int (nI t)), (2, .int (nI (cu (tb t) nC 0))), (6, .int (nI k))]) hx hb dX1_det_160 hl (k := 5) rfl (nv_inc bh 1) (by decide) rfl (fun ls hl => ?_)
                            refine lv_iinc (v := dn k) (lv' := [(6, .int (dn k)), (5, .int (nI (bh + 1))), (3, .long (lN (((sm1 + P) - (((A0 (cu (tb t) nC 0 - 1) k) * (EE P nC A0 (t ^^^ (1 * 2 ^ k)))) % P)) % P))), (7, .long (lN (((A0 (cu (tb t) nC 0 - 1) k) * (EE P nC A0 (t ^^^ (1 * 2 ^ k)))) % P))), (0, .ref h), (1, .int (nI t)), (2, .int (nI (cu (tb t) nC 0)))]) hx hb dX1_det_163 hl (k := 6) rfl rfl (by decide) rfl (fun ls hl => ?_)
                            refine lv_goto (tgt := 83) hx hb dX1_det_166 (by decide) ?_
                            exact ihL2 ((sm1 + P - A0 (cu (tb t) nC 0 - 1) k * EE P nC A0 (t ^^^ (1 * 2 ^ k)) % P) % P) (bh + 1) k (by omega) (Nat.mod_lt _ hP0) (dp_odd hP0 (by omega) c_6 hsum (by rw [← hbh]; exact c_7)) (by rw [dp_cu (by omega) c_6, hbh]) (by omega) ls _ _ (lv_sub hl [4, 5, 6, 2, 1, 0] rfl) hP hD hS
                          · refine lv_lload_n hx hb dX1_det_138 rfl (lv_at hl 4 rfl) ?_
                            refine lv_lload hx hb dX1_det_139 (lv_at hl 0 rfl) ?_
                            refine nv_ladd hx hb dX1_det_141 ?_
                            refine lv_goto (tgt := 154) hx hb dX1_det_142 (by decide) ?_
                            refine lv_aload_n hx hb dX1_det_154 rfl (lv_at hl 1 rfl) ?_
                            refine x1_get S hin hK hP rfl 1 (by decide) rfl (by decide +kernel) (v := .long (lN P)) rfl dX1_det_155 ?_
                            refine nv_lrem hx hb (by omega) (by omega) (by omega) dX1_det_158 ?_
                            refine lv_lstore_n (lv' := [(3, .long (lN ((sm1 + (((A0 (cu (tb t) nC 0 - 1) k) * (EE P nC A0 (t ^^^ (1 * 2 ^ k)))) % P)) % P))), (7, .long (lN (((A0 (cu (tb t) nC 0 - 1) k) * (EE P nC A0 (t ^^^ (1 * 2 ^ k)))) % P))), (0, .ref h), (1, .int (nI t)), (2, .int (nI (cu (tb t) nC 0))), (5, .int (nI bh)), (6, .int (nI k))]) hx hb dX1_det_159 rfl hl (by decide) rfl (fun ls hl => ?_)
                            refine lv_iinc (v := nI (bh + 1)) (lv' := [(5, .int (nI (bh + 1))), (3, .long (lN ((sm1 + (((A0 (cu (tb t) nC 0 - 1) k) * (EE P nC A0 (t ^^^ (1 * 2 ^ k)))) % P)) % P))), (7, .long (lN (((A0 (cu (tb t) nC 0 - 1) k) * (EE P nC A0 (t ^^^ (1 * 2 ^ k)))) % P))), (0, .ref h), (1, .int (nI t)), (2, .int (nI (cu (tb t) nC 0))), (6, .int (nI k))]) hx hb dX1_det_160 hl (k := 5) rfl (nv_inc bh 1) (by decide) rfl (fun ls hl => ?_)
                            refine lv_iinc (v := dn k) (lv' := [(6, .int (dn k)), (5, .int (nI (bh + 1))), (3, .long (lN ((sm1 + (((A0 (cu (tb t) nC 0 - 1) k) * (EE P nC A0 (t ^^^ (1 * 2 ^ k)))) % P)) % P))), (7, .long (lN (((A0 (cu (tb t) nC 0 - 1) k) * (EE P nC A0 (t ^^^ (1 * 2 ^ k)))) % P))), (0, .ref h), (1, .int (nI t)), (2, .int (nI (cu (tb t) nC 0)))]) hx hb dX1_det_163 hl (k := 6) rfl rfl (by decide) rfl (fun ls hl => ?_)
                            refine lv_goto (tgt := 83) hx hb dX1_det_166 (by decide) ?_
                            exact ihL2 ((sm1 + A0 (cu (tb t) nC 0 - 1) k * EE P nC A0 (t ^^^ (1 * 2 ^ k)) % P) % P) (bh + 1) k (by omega) (Nat.mod_lt _ hP0) (dp_even hP0 (by omega) c_6 hsum (by rw [← hbh]; exact c_7)) (by rw [dp_cu (by omega) c_6, hbh]) (by omega) ls _ _ (lv_sub hl [4, 5, 6, 2, 1, 0] rfl) hP hD hS
                  exact L2 (nC + 1) 0 0 nC (by omega) (by omega) (by rw [su_n _ (Nat.le_refl _)]; simp) (by rw [cu_n _ _ (Nat.le_refl _)]) (by omega) ls _ _ (lv_sub hl [3, 4, 5, 2, 1, 0] rfl) hP hD hS
                · refine lv_iload_n hx hb dX1_det_56 rfl (lv_at hl 2 rfl) ?_
                  refine lv_iload_n hx hb dX1_det_57 rfl (lv_at hl 1 rfl) ?_
                  refine lv_iload_n hx hb dX1_det_58 rfl (lv_at hl 3 rfl) ?_
                  refine nv_ishr hx hb (by omega) (by omega) dX1_det_59 ?_
                  refine lv_iconst (v := nI 1) hx hb dX1_det_60 (by decide +kernel) ?_
                  refine nv_iand1 hx hb (Nat.lt_of_le_of_lt (Nat.div_le_self _ _) (by omega)) dX1_det_61 ?_
                  refine nv_iadd hx hb dX1_det_62 ?_
                  refine lv_istore_n (lv' := [(2, .int (nI (rw1 + ((t / 2 ^ k) % 2)))), (0, .ref h), (1, .int (nI t)), (3, .int (nI k))]) hx hb dX1_det_63 rfl hl (by decide) rfl (fun ls hl => ?_)
                  refine lv_iinc (v := nI (k + 1)) (lv' := [(3, .int (nI (k + 1))), (2, .int (nI (rw1 + ((t / 2 ^ k) % 2)))), (0, .ref h), (1, .int (nI t))]) hx hb dX1_det_64 hl (k := 3) rfl (nv_inc k 1) (by decide) rfl (fun ls hl => ?_)
                  refine lv_goto (tgt := 48) hx hb dX1_det_67 (by decide) ?_
                  exact ihL1 (rw1 + t / 2 ^ k % 2) (k + 1) (by omega) (by rw [hrw]; exact cu_tb t k) (by omega) ls _ _ (lv_sub hl [2, 3, 1, 0] rfl) hP hD hS
            exact L1 (nC + 1) 0 0 (by omega) rfl (by omega) ls _ _ (lv_sub hl [2, 3, 1, 0] rfl) hP hD hS
      exact L (2 ^ nC + 1) (vp_updL gS 0 (lN 1)) 1 (by omega) (by omega) (fun q hq => by rw [show q = 0 by omega, EE_0 hP2]; exact pk_uLs) (by omega) ls _ _ (lv_sub hl [1, 0] rfl) hP hD hS
    · refine lv_iconst (v := (-1)) hx hb dX1_det_23 (by decide +kernel) ?_
      exact hret ((-1)) gS 24 ls _ _ dX1_det_24 (rfl) hP hD hS (by
          rw [if_neg]
          simp [c_2])
