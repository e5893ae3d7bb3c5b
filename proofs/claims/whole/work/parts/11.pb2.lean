set_option maxHeartbeats 4000000 in
set_option maxRecDepth 100000 in
theorem c_X0_freeColumn (l : Launch) (D : va_G) {h a1 a2 a3 a4 : Nat} {cA : ClassId} {mR nC : Nat} {fA fB fW fP : Nat → Int32} {rd pv pp : Nat} {pr : Int32} {po : Nat → Option Nat} (k : Int32) (hm : mR ≤ 10) (hn : nC ≤ 10) (hpo : ∀ j i, po j = some i → i < mR) (hfP : ∀ j, j < nC → fP j = opt (po j)) : RdI l yX0_freeColumn wsX0_freeColumn ({ frames := 0, cells := 0, slots := 0, locals := 0 }) [.ref h, .int k] D (pbW h a1 a2 a3 a4 cA pr mR nC fA fB fW fP rd pv pp) [(cA, .int)] (fun r => r = opt (kth po k nC 0)) := by
  refine RdI.mk (cc := cX0_freeColumn) (maxL := 4) (rt := .int) (by decide) rfl (Nat.le_of_ble_eq_true rfl) ?_
  intro p e s mm args below meth c Q ls A S hK hP hA hS hl hret
  have hx := S.1
  have hb := S.2.1
  have hts := S.2.2.2.2
  have hown := S.2.2.2.1
  have hin : ∀ w ∈ wsX00, w ∈ wsX0_freeColumn := fun w h => List.mem_cons_of_mem _ (List.mem_append_right _ h)
  have hl : lv_has ls 4 [(0, .ref h), (1, .int k)] := hl
  refine lv_iconst (v := nI 0) hx hb dX0_freeColumn_0 (by decide +kernel) ?_
  refine lv_istore_n (lv' := [(2, .int (nI 0)), (0, .ref h), (1, .int k)]) hx hb dX0_freeColumn_1 rfl hl (by decide) rfl (fun ls hl => ?_)
  refine lv_iconst (v := nI 0) hx hb dX0_freeColumn_2 (by decide +kernel) ?_
  refine lv_istore_n (lv' := [(3, .int (nI 0)), (2, .int (nI 0)), (0, .ref h), (1, .int k)]) hx hb dX0_freeColumn_3 rfl hl (by decide) rfl (fun ls hl => ?_)
  have L : ∀ (nL : Nat) (s1 : Nat) (i : Nat), (i ≤ nC) → (s1 = cnt po i) → (kth po k (nC - i) i = kth po k nC 0) → (nC + 1 ≤ i + nL) → ∀ (ls : Array Slot) (H : Heap) (locs : List Loc), lv_has ls 4 [(0, .ref h), (1, .int k), (2, .int (nI s1)), (3, .int (nI i))] → va_P D vwCl (pbW h a1 a2 a3 a4 cA pr mR nC fA fB fW fP rd pv pp) H → va_S A s.heap H locs → W p l e ({ frames := 0, cells := 0, slots := 0, locals := 0 }) s mm args below meth c H locs 0 0 Q (F0 mm 4 ls []) := by
    intro nL
    induction nL with
    | zero => intro s1 i hi hs hinv hfuel; exfalso; omega
    | succ nL ihL =>
      intro s1 i hi hs hinv hfuel ls H locs hl hP hS
      refine lv_iload_n hx hb dX0_freeColumn_4 rfl (lv_at hl 3 rfl) ?_
      refine lv_aload_n hx hb dX0_freeColumn_5 rfl (lv_at hl 0 rfl) ?_
      refine x0_get S hin hK hP rfl 2 (by decide) rfl (by decide +kernel) (v := .int (nI nC)) rfl dX0_freeColumn_6 ?_
      refine nv_icmp_ge (tgt := 38) hx hb dX0_freeColumn_9 (by decide) (by omega) (by omega) (fun c_1 => ?_) (fun c_1 => ?_)
      · refine lv_iconst (v := (-1)) hx hb dX0_freeColumn_38 (by decide +kernel) ?_
        exact hret ((-1)) 39 ls _ _ dX0_freeColumn_39 (rfl) hS (by
            rw [← hinv, kth_e c_1]
            rfl)
      · refine lv_aload_n hx hb dX0_freeColumn_12 rfl (lv_at hl 0 rfl) ?_
        refine x0_get S hin hK hP rfl 7 (by decide) rfl (by decide +kernel) (v := .ref a4) rfl dX0_freeColumn_13 ?_
        refine lv_iload_n hx hb dX0_freeColumn_16 rfl (lv_at hl 3 rfl) ?_
        refine nv_iald hx hb hK hP 4 0 rfl rfl (v := opt (po i)) (by omega) (by omega) (hfP i (by omega)) dX0_freeColumn_17 ?_
        refine lv_iconst (v := (-1)) hx hb dX0_freeColumn_18 (by decide +kernel) ?_
        refine lv_icmp_ne (tgt := 32) hx hb dX0_freeColumn_19 (by decide) (fun c_2 => ?_) (fun c_2 => ?_)
        · have n_3 : ¬ po i = none := fun q => c_2 (by rw [q]; rfl)
          refine lv_iinc (v := nI (i + 1)) (lv' := [(3, .int (nI (i + 1))), (0, .ref h), (1, .int k), (2, .int (nI s1))]) hx hb dX0_freeColumn_32 hl (k := 3) rfl (nv_inc i 1) (by decide) rfl (fun ls hl => ?_)
          refine lv_goto (tgt := 4) hx hb dX0_freeColumn_35 (by decide) ?_
          exact ihL s1 (i + 1) (by omega) (by rw [hs]; simp [cnt, n_3]) (by rw [← hinv, kth_n c_1 (fun q => n_3 q.1)]) (by omega) ls _ _ (lv_sub hl [1, 2, 3, 0] rfl) hP hS
        · have n_4 : po i = none := (opt_m1 (fun a q => by have := hpo i a q; omega)).mp c_2
          subst hs
          refine lv_iload_n hx hb dX0_freeColumn_22 rfl (lv_at hl 2 rfl) ?_
          refine lv_iload_n hx hb dX0_freeColumn_23 rfl (lv_at hl 1 rfl) ?_
          refine lv_icmp_ne (tgt := 29) hx hb dX0_freeColumn_24 (by decide) (fun c_5 => ?_) (fun c_5 => ?_)
          · refine lv_iinc (v := nI (cnt po i + 1)) (lv' := [(2, .int (nI (cnt po i + 1))), (0, .ref h), (1, .int k), (3, .int (nI i))]) hx hb dX0_freeColumn_29 hl (k := 2) rfl (nv_inc (cnt po i) 1) (by decide) rfl (fun ls hl => ?_)
            refine lv_iinc (v := nI (i + 1)) (lv' := [(3, .int (nI (i + 1))), (2, .int (nI (cnt po i + 1))), (0, .ref h), (1, .int k)]) hx hb dX0_freeColumn_32 hl (k := 3) rfl (nv_inc i 1) (by decide) rfl (fun ls hl => ?_)
            refine lv_goto (tgt := 4) hx hb dX0_freeColumn_35 (by decide) ?_
            exact ihL (cnt po i + 1) (i + 1) (by omega) (by simp [cnt, n_4]) (by rw [← hinv, kth_n c_1 (fun q => c_5 q.2)]) (by omega) ls _ _ (lv_sub hl [2, 3, 1, 0] rfl) hP hS
          · refine lv_iload_n hx hb dX0_freeColumn_27 rfl (lv_at hl 3 rfl) ?_
            exact hret (nI i) 28 ls _ _ dX0_freeColumn_28 (rfl) hS (by
                rw [← hinv, kth_y c_1 n_4 c_5]
                rfl)
  exact L (nC + 1) 0 0 (by omega) rfl rfl (by omega) ls _ _ (lv_sub hl [2, 3, 1, 0] rfl) hP hS
set_option maxHeartbeats 4000000 in
set_option maxRecDepth 100000 in
theorem c_X0_startWork (l : Launch) (D : va_G) {h a1 a2 a3 a4 : Nat} {cA : ClassId} {mR nC : Nat} {fA fB fW fP : Nat → Int32} {rd pv pp : Nat} {pr : Int32} {A0 : Mat} (hm : mR ≤ 10) (hn : nC ≤ 10) (hA0 : Rp nC mR fA A0) : WrV (U := (Nat → Int32) × (Nat → Int32)) l yX0_startWork wsX0_startWork ({ frames := 0, cells := 0, slots := 0, locals := 0 }) [.ref h] D (pbW h a1 a2 a3 a4 cA pr mR nC fA fB fW fP rd pv pp) [(cA, .int)] (fun u => Rp (nC + mR) mR u.1 (lm nC (G0 nC A0)) ∧ ∀ j, j < nC → u.2 j = -1) (fun u => pbW h a1 a2 a3 a4 cA pr mR nC fA fB u.1 u.2 rd 0 1) := by
  refine WrV.mk (cc := cX0_startWork) (maxL := 3) (by decide) rfl (Nat.le_of_ble_eq_true rfl) ?_
  intro p e s mm args below meth c Q ls A S hK hP hD hA hS hl hret
  have hx := S.1
  have hb := S.2.1
  have hts := S.2.2.2.2
  have hown := S.2.2.2.1
  have hin : ∀ w ∈ wsX00, w ∈ wsX0_startWork := fun w h => List.mem_cons_of_mem _ (List.mem_append_right _ h)
  have hl : lv_has ls 3 [(0, .ref h)] := hl
  refine lv_iconst (v := nI 0) hx hb dX0_startWork_0 (by decide +kernel) ?_
  refine lv_istore_n (lv' := [(1, .int (nI 0)), (0, .ref h)]) hx hb dX0_startWork_1 rfl hl (by decide) rfl (fun ls hl => ?_)
  have L1 : ∀ (nL1 : Nat) (f : Nat → Int32) (i : Nat), (i ≤ mR) → (Rpp (nC + mR) i 0 f (lm nC (G0 nC A0))) → (mR + 1 ≤ i + nL1) → ∀ (ls : Array Slot) (H : Heap) (locs : List Loc), lv_has ls 3 [(0, .ref h), (1, .int (nI i))] → va_P D vwCl (pbW h a1 a2 a3 a4 cA pr mR nC fA fB f fP rd pv pp) H → va_D A (pbW h a1 a2 a3 a4 cA pr mR nC fA fB f fP rd pv pp) → va_S A s.heap H locs → W p l e ({ frames := 0, cells := 0, slots := 0, locals := 0 }) s mm args below meth c H locs 0 0 Q (F0 mm 2 ls []) := by
    intro nL1
    induction nL1 with
    | zero => intro f i hi hinv hfuel; exfalso; omega
    | succ nL1 ihL1 =>
      intro f i hi hinv hfuel ls H locs hl hP hD hS
      refine lv_iload_n hx hb dX0_startWork_2 rfl (lv_at hl 1 rfl) ?_
      refine lv_aload_n hx hb dX0_startWork_3 rfl (lv_at hl 0 rfl) ?_
      refine x0_get S hin hK hP rfl 1 (by decide) rfl (by decide +kernel) (v := .int (nI mR)) rfl dX0_startWork_4 ?_
      refine nv_icmp_ge (tgt := 102) hx hb dX0_startWork_7 (by decide) (by omega) (by omega) (fun c_1 => ?_) (fun c_1 => ?_)
      · have hall := hinv.all c_1
        refine lv_iconst (v := nI 0) hx hb dX0_startWork_102 (by decide +kernel) ?_
        refine lv_istore_n (lv' := [(1, .int (nI 0)), (0, .ref h)]) hx hb dX0_startWork_103 rfl hl (by decide) rfl (fun ls hl => ?_)
        have L3 : ∀ (nL3 : Nat) (g : Nat → Int32) (i : Nat), (i ≤ nC) → (∀ j, j < i → g j = -1) → (nC + 1 ≤ i + nL3) → ∀ (ls : Array Slot) (H : Heap) (locs : List Loc), lv_has ls 3 [(0, .ref h), (1, .int (nI i))] → va_P D vwCl (pbW h a1 a2 a3 a4 cA pr mR nC fA fB f g rd pv pp) H → va_D A (pbW h a1 a2 a3 a4 cA pr mR nC fA fB f g rd pv pp) → va_S A s.heap H locs → W p l e ({ frames := 0, cells := 0, slots := 0, locals := 0 }) s mm args below meth c H locs 0 0 Q (F0 mm 104 ls []) := by
          intro nL3
          induction nL3 with
          | zero => intro g i hi hinv hfuel; exfalso; omega
          | succ nL3 ihL3 =>
            intro g i hi hinv hfuel ls H locs hl hP hD hS
            refine lv_iload_n hx hb dX0_startWork_104 rfl (lv_at hl 1 rfl) ?_
            refine lv_aload_n hx hb dX0_startWork_105 rfl (lv_at hl 0 rfl) ?_
            refine x0_get S hin hK hP rfl 2 (by decide) rfl (by decide +kernel) (v := .int (nI nC)) rfl dX0_startWork_106 ?_
            refine nv_icmp_ge (tgt := 125) hx hb dX0_startWork_109 (by decide) (by omega) (by omega) (fun c_2 => ?_) (fun c_2 => ?_)
            · refine lv_aload_n hx hb dX0_startWork_125 rfl (lv_at hl 0 rfl) ?_
              refine lv_iconst (v := nI 0) hx hb dX0_startWork_126 (by decide +kernel) ?_
              refine x0_put S hin hK hP hD hS rfl 9 (by decide) rfl (by decide +kernel) rfl (ty := .int) (v := .int (nI 0)) rfl rfl rfl (Nat.le_of_ble_eq_true rfl) dX0_startWork_127 (fun H locs hP hD hS => ?_)
              have hP : va_P D vwCl (pbW h a1 a2 a3 a4 cA pr mR nC fA fB f g rd 0 pp) H := hP
              have hD : va_D A (pbW h a1 a2 a3 a4 cA pr mR nC fA fB f g rd 0 pp) := hD
              refine lv_aload_n hx hb dX0_startWork_130 rfl (lv_at hl 0 rfl) ?_
              refine lv_lconst (v := lN 1) hx hb dX0_startWork_131 rfl ?_
              refine x0_put S hin hK hP hD hS rfl 10 (by decide) rfl (by decide +kernel) rfl (ty := .long) (v := .long (lN 1)) rfl rfl rfl (Nat.le_of_ble_eq_true rfl) dX0_startWork_132 (fun H locs hP hD hS => ?_)
              have hP : va_P D vwCl (pbW h a1 a2 a3 a4 cA pr mR nC fA fB f g rd 0 1) H := hP
              have hD : va_D A (pbW h a1 a2 a3 a4 cA pr mR nC fA fB f g rd 0 1) := hD
              exact hret (f, g) 135 ls _ _ dX0_startWork_135 hP hD hS (⟨hall, fun j hj => hinv j (by omega)⟩)
            · refine lv_aload_n hx hb dX0_startWork_112 rfl (lv_at hl 0 rfl) ?_
              refine x0_get S hin hK hP rfl 7 (by decide) rfl (by decide +kernel) (v := .ref a4) rfl dX0_startWork_113 ?_
              refine lv_iload_n hx hb dX0_startWork_116 rfl (lv_at hl 1 rfl) ?_
              refine lv_iconst (v := (-1)) hx hb dX0_startWork_117 (by decide +kernel) ?_
              refine nv_iast hx hb hK hP hD hS 4 0 rfl rfl (by omega) (by omega) dX0_startWork_118 (fun H locs hP hD hS => ?_)
              have hP : va_P D vwCl (pbW h a1 a2 a3 a4 cA pr mR nC fA fB f (upd g i (-1)) rd pv pp) H := hP
              have hD : va_D A (pbW h a1 a2 a3 a4 cA pr mR nC fA fB f (upd g i (-1)) rd pv pp) := hD
              refine lv_iinc (v := nI (i + 1)) (lv' := [(1, .int (nI (i + 1))), (0, .ref h)]) hx hb dX0_startWork_119 hl (k := 1) rfl (nv_inc i 1) (by decide) rfl (fun ls hl => ?_)
              refine lv_goto (tgt := 104) hx hb dX0_startWork_122 (by decide) ?_
              exact ihL3 (upd g i (-1)) (i + 1) (by omega) (fun j hj => by unfold upd; split; rfl; exact hinv j (by omega)) (by omega) ls _ _ (lv_sub hl [1, 0] rfl) hP hD hS
        exact L3 (nC + 1) fP 0 (by omega) (fun j hj => absurd hj (Nat.not_lt_zero j)) (by omega) ls _ _ (lv_sub hl [1, 0] rfl) hP hD hS
      · refine lv_iconst (v := nI 0) hx hb dX0_startWork_10 (by decide +kernel) ?_
        refine lv_istore_n (lv' := [(2, .int (nI 0)), (0, .ref h), (1, .int (nI i))]) hx hb dX0_startWork_11 rfl hl (by decide) rfl (fun ls hl => ?_)
        have L0 : ∀ (nL0 : Nat) (f : Nat → Int32) (j : Nat), (j ≤ nC) → (Rpp (nC + mR) i j f (lm nC (G0 nC A0))) → (nC + 1 ≤ j + nL0) → ∀ (ls : Array Slot) (H : Heap) (locs : List Loc), lv_has ls 3 [(0, .ref h), (1, .int (nI i)), (2, .int (nI j))] → va_P D vwCl (pbW h a1 a2 a3 a4 cA pr mR nC fA fB f fP rd pv pp) H → va_D A (pbW h a1 a2 a3 a4 cA pr mR nC fA fB f fP rd pv pp) → va_S A s.heap H locs → W p l e ({ frames := 0, cells := 0, slots := 0, locals := 0 }) s mm args below meth c H locs 0 0 Q (F0 mm 12 ls []) := by
          intro nL0
          induction nL0 with
          | zero => intro f j hj hinv1 hfuel; exfalso; omega
          | succ nL0 ihL0 =>
            intro f j hj hinv1 hfuel ls H locs hl hP hD hS
            refine lv_iload_n hx hb dX0_startWork_12 rfl (lv_at hl 2 rfl) ?_
            refine lv_aload_n hx hb dX0_startWork_13 rfl (lv_at hl 0 rfl) ?_
            refine x0_get S hin hK hP rfl 2 (by decide) rfl (by decide +kernel) (v := .int (nI nC)) rfl dX0_startWork_14 ?_
            refine nv_icmp_ge (tgt := 52) hx hb dX0_startWork_17 (by decide) (by omega) (by omega) (fun c_3 => ?_) (fun c_3 => ?_)
            · refine lv_iconst (v := nI 0) hx hb dX0_startWork_52 (by decide +kernel) ?_
              refine lv_istore_n (lv' := [(2, .int (nI 0)), (0, .ref h), (1, .int (nI i))]) hx hb dX0_startWork_53 rfl hl (by decide) rfl (fun ls hl => ?_)
              have L2 : ∀ (nL2 : Nat) (f : Nat → Int32) (j : Nat), (j ≤ mR) → (Rpp (nC + mR) i (nC + j) f (lm nC (G0 nC A0))) → (mR + 1 ≤ j + nL2) → ∀ (ls : Array Slot) (H : Heap) (locs : List Loc), lv_has ls 3 [(0, .ref h), (1, .int (nI i)), (2, .int (nI j))] → va_P D vwCl (pbW h a1 a2 a3 a4 cA pr mR nC fA fB f fP rd pv pp) H → va_D A (pbW h a1 a2 a3 a4 cA pr mR nC fA fB f fP rd pv pp) → va_S A s.heap H locs → W p l e ({ frames := 0, cells := 0, slots := 0, locals := 0 }) s mm args below meth c H locs 0 0 Q (F0 mm 54 ls []) := by
                intro nL2
                induction nL2 with
                | zero => intro f j hj hinv2 hfuel; exfalso; omega
                | succ nL2 ihL2 =>
                  intro f j hj hinv2 hfuel ls H locs hl hP hD hS
                  refine lv_iload_n hx hb dX0_startWork_54 rfl (lv_at hl 2 rfl) ?_
                  refine lv_aload_n hx hb dX0_startWork_55 rfl (lv_at hl 0 rfl) ?_
                  refine x0_get S hin hK hP rfl 1 (by decide) rfl (by decide +kernel) (v := .int (nI mR)) rfl dX0_startWork_56 ?_
                  refine nv_icmp_ge (tgt := 96) hx hb dX0_startWork_59 (by decide) (by omega) (by omega) (fun c_4 => ?_) (fun c_4 => ?_)
                  · refine lv_iinc (v := nI (i + 1)) (lv' := [(1, .int (nI (i + 1))), (0, .ref h), (2, .int (nI j))]) hx hb dX0_startWork_96 hl (k := 1) rfl (nv_inc i 1) (by decide) rfl (fun ls hl => ?_)
                    refine lv_goto (tgt := 2) hx hb dX0_startWork_99 (by decide) ?_
                    have hinv3 := hinv2.next (show nC + j = nC + mR by omega)
                    exact ihL1 f (i + 1) (by omega) hinv3 (by omega) ls _ _ (lv_sub hl [1, 0] rfl) hP hD hS
                  · refine lv_aload_n hx hb dX0_startWork_62 rfl (lv_at hl 0 rfl) ?_
                    refine x0_get S hin hK hP rfl 5 (by decide) rfl (by decide +kernel) (v := .ref a3) rfl dX0_startWork_63 ?_
                    refine lv_iload_n hx hb dX0_startWork_66 rfl (lv_at hl 1 rfl) ?_
                    refine lv_aload_n hx hb dX0_startWork_67 rfl (lv_at hl 0 rfl) ?_
                    refine x0_get S hin hK hP rfl 6 (by decide) rfl (by decide +kernel) (v := .int (nI (nC + mR))) rfl dX0_startWork_68 ?_
                    refine nv_imul hx hb dX0_startWork_71 ?_
                    refine lv_aload_n hx hb dX0_startWork_72 rfl (lv_at hl 0 rfl) ?_
                    refine x0_get S hin hK hP rfl 2 (by decide) rfl (by decide +kernel) (v := .int (nI nC)) rfl dX0_startWork_73 ?_
                    refine nv_iadd hx hb dX0_startWork_76 ?_
                    refine lv_iload_n hx hb dX0_startWork_77 rfl (lv_at hl 2 rfl) ?_
                    refine nv_iadd hx hb dX0_startWork_78 ?_
                    refine lv_iload_n hx hb dX0_startWork_79 rfl (lv_at hl 1 rfl) ?_
                    refine lv_iload_n hx hb dX0_startWork_80 rfl (lv_at hl 2 rfl) ?_
                    refine nv_icmp_ne (tgt := 88) hx hb dX0_startWork_81 (by decide) (by omega) (by omega) (fun c_5 => ?_) (fun c_5 => ?_)
                    · refine lv_iconst (v := nI 0) hx hb dX0_startWork_88 (by decide +kernel) ?_
                      refine nv_iast hx hb hK hP hD hS 3 0 rfl rfl (by rw [Nat.add_assoc]; exact ix_lt (by omega) (by omega)) (bd3 hm hn) dX0_startWork_89 (fun H locs hP hD hS => ?_)
                      have hP : va_P D vwCl (pbW h a1 a2 a3 a4 cA pr mR nC fA fB (upd f (((i * (nC + mR)) + nC) + j) (nI 0)) fP rd pv pp) H := hP
                      have hD : va_D A (pbW h a1 a2 a3 a4 cA pr mR nC fA fB (upd f (((i * (nC + mR)) + nC) + j) (nI 0)) fP rd pv pp) := hD
                      refine lv_iinc (v := nI (j + 1)) (lv' := [(2, .int (nI (j + 1))), (0, .ref h), (1, .int (nI i))]) hx hb dX0_startWork_90 hl (k := 2) rfl (nv_inc j 1) (by decide) rfl (fun ls hl => ?_)
                      refine lv_goto (tgt := 54) hx hb dX0_startWork_93 (by decide) ?_
                      exact ihL2 (upd f (((i * (nC + mR)) + nC) + j) (nI 0)) (j + 1) (by omega) (by have e9 := hinv2.put (x := 0) (by omega) (show i * (nC + mR) + nC + j = i * (nC + mR) + (nC + j) by omega) (by show _ = G0 nC A0 i (lay nC (nC + j)); rw [lay_T, G0_T, if_neg (fun z => c_5 z.symm)]); rw [show nC + j + 1 = nC + (j + 1) by omega] at e9; exact e9) (by omega) ls _ _ (lv_sub hl [1, 2, 0] rfl) hP hD hS
                    · refine lv_iconst (v := nI 1) hx hb dX0_startWork_84 (by decide +kernel) ?_
                      refine lv_goto (tgt := 89) hx hb dX0_startWork_85 (by decide) ?_
                      refine nv_iast hx hb hK hP hD hS 3 0 rfl rfl (by rw [Nat.add_assoc]; exact ix_lt (by omega) (by omega)) (bd3 hm hn) dX0_startWork_89 (fun H locs hP hD hS => ?_)
                      have hP : va_P D vwCl (pbW h a1 a2 a3 a4 cA pr mR nC fA fB (upd f (((i * (nC + mR)) + nC) + j) (nI 1)) fP rd pv pp) H := hP
                      have hD : va_D A (pbW h a1 a2 a3 a4 cA pr mR nC fA fB (upd f (((i * (nC + mR)) + nC) + j) (nI 1)) fP rd pv pp) := hD
                      refine lv_iinc (v := nI (j + 1)) (lv' := [(2, .int (nI (j + 1))), (0, .ref h), (1, .int (nI i))]) hx hb dX0_startWork_90 hl (k := 2) rfl (nv_inc j 1) (by decide) rfl (fun ls hl => ?_)
                      refine lv_goto (tgt := 54) hx hb dX0_startWork_93 (by decide) ?_
                      exact ihL2 (upd f (((i * (nC + mR)) + nC) + j) (nI 1)) (j + 1) (by omega) (by have e9 := hinv2.put (x := 1) (by omega) (show i * (nC + mR) + nC + j = i * (nC + mR) + (nC + j) by omega) (by show _ = G0 nC A0 i (lay nC (nC + j)); rw [lay_T, G0_T, if_pos c_5.symm]); rw [show nC + j + 1 = nC + (j + 1) by omega] at e9; exact e9) (by omega) ls _ _ (lv_sub hl [1, 2, 0] rfl) hP hD hS
              exact L2 (mR + 1) f 0 (by omega) (by rw [show nC + 0 = j by omega]; exact hinv1) (by omega) ls _ _ (lv_sub hl [1, 2, 0] rfl) hP hD hS
            · refine lv_aload_n hx hb dX0_startWork_20 rfl (lv_at hl 0 rfl) ?_
              refine x0_get S hin hK hP rfl 5 (by decide) rfl (by decide +kernel) (v := .ref a3) rfl dX0_startWork_21 ?_
              refine lv_iload_n hx hb dX0_startWork_24 rfl (lv_at hl 1 rfl) ?_
              refine lv_aload_n hx hb dX0_startWork_25 rfl (lv_at hl 0 rfl) ?_
              refine x0_get S hin hK hP rfl 6 (by decide) rfl (by decide +kernel) (v := .int (nI (nC + mR))) rfl dX0_startWork_26 ?_
              refine nv_imul hx hb dX0_startWork_29 ?_
              refine lv_iload_n hx hb dX0_startWork_30 rfl (lv_at hl 2 rfl) ?_
              refine nv_iadd hx hb dX0_startWork_31 ?_
              refine lv_aload_n hx hb dX0_startWork_32 rfl (lv_at hl 0 rfl) ?_
              refine x0_get S hin hK hP rfl 3 (by decide) rfl (by decide +kernel) (v := .ref a1) rfl dX0_startWork_33 ?_
              refine lv_iload_n hx hb dX0_startWork_36 rfl (lv_at hl 1 rfl) ?_
              refine lv_aload_n hx hb dX0_startWork_37 rfl (lv_at hl 0 rfl) ?_
              refine x0_get S hin hK hP rfl 2 (by decide) rfl (by decide +kernel) (v := .int (nI nC)) rfl dX0_startWork_38 ?_
              refine nv_imul hx hb dX0_startWork_41 ?_
              refine lv_iload_n hx hb dX0_startWork_42 rfl (lv_at hl 2 rfl) ?_
              refine nv_iadd hx hb dX0_startWork_43 ?_
              refine nv_iald hx hb hK hP 1 0 rfl rfl (v := nI (A0 i j)) (ix_lt (by omega) (by omega)) (bd1 hm hn) (hA0 i (by omega) j (by omega)) dX0_startWork_44 ?_
              refine nv_iast hx hb hK hP hD hS 3 0 rfl rfl (ix_lt (by omega) (by omega)) (bd3 hm hn) dX0_startWork_45 (fun H locs hP hD hS => ?_)
              have hP : va_P D vwCl (pbW h a1 a2 a3 a4 cA pr mR nC fA fB (upd f ((i * (nC + mR)) + j) (nI (A0 i j))) fP rd pv pp) H := hP
              have hD : va_D A (pbW h a1 a2 a3 a4 cA pr mR nC fA fB (upd f ((i * (nC + mR)) + j) (nI (A0 i j))) fP rd pv pp) := hD
              refine lv_iinc (v := nI (j + 1)) (lv' := [(2, .int (nI (j + 1))), (0, .ref h), (1, .int (nI i))]) hx hb dX0_startWork_46 hl (k := 2) rfl (nv_inc j 1) (by decide) rfl (fun ls hl => ?_)
              refine lv_goto (tgt := 12) hx hb dX0_startWork_49 (by decide) ?_
              exact ihL0 (upd f ((i * (nC + mR)) + j) (nI (A0 i j))) (j + 1) (by omega) (hinv1.put (by omega) rfl (by simp [lm, G0, lay, c_3, show j < 10 by omega])) (by omega) ls _ _ (lv_sub hl [1, 2, 0] rfl) hP hD hS
        exact L0 (nC + 1) f 0 (by omega) hinv (by omega) ls _ _ (lv_sub hl [1, 2, 0] rfl) hP hD hS
  exact L1 (mR + 1) fW 0 (by omega) (fun a b _ q => by omega) (by omega) ls _ _ (lv_sub hl [1, 0] rfl) hP hD hS
set_option maxHeartbeats 4000000 in
set_option maxRecDepth 100000 in
theorem c_X0_reduceColumn (l : Launch) (D : va_G) {h a1 a2 a3 a4 : Nat} {cA : ClassId} {mR nC : Nat} {fA fB fW fP : Nat → Int32} {rd pv pp : Nat} {P : Nat} {G : Mat} {pc : Nat → Nat} (cc : Nat) (hP2 : 2 ≤ P) (hPl : P < 2 ^ 31) (hm : mR ≤ 10) (hn : nC ≤ 10) (hcc : cc < nC) (hpv : pv < mR) (hpp : pp < P) (hB : bnd P G) (hM : Rp (nC + mR) mR fW G) (hfP : ∀ j, j < nC → fP j = opt (rowOf pc pv j)) : WrV (U := (Nat → Int32) × (Nat → Int32) × Nat × Nat) l yX0_reduceColumn wsX0_reduceColumn ({ frames := 2, cells := 0, slots := 0, locals := 49 }) [.ref h, .int (nI cc)] D (pbW h a1 a2 a3 a4 cA (nI P) mR nC fA fB fW fP rd pv pp) [(cA, .int)] (fun u => Rp (nC + mR) mR u.1 (redS P mR cc (G, pv, pp, pc)).1 ∧ (∀ j, j < nC → u.2.1 j = opt (rowOf (redS P mR cc (G, pv, pp, pc)).2.2.2 (redS P mR cc (G, pv, pp, pc)).2.1 j)) ∧ u.2.2.1 = (redS P mR cc (G, pv, pp, pc)).2.1 ∧ u.2.2.2 = (redS P mR cc (G, pv, pp, pc)).2.2.1) (fun u => pbW h a1 a2 a3 a4 cA (nI P) mR nC fA fB u.1 u.2.1 rd u.2.2.1 u.2.2.2) := by
  refine WrV.mk (cc := cX0_reduceColumn) (maxL := 6) (by decide) rfl (Nat.le_of_ble_eq_true rfl) ?_
  intro p e s mm args below meth c Q ls A S hK hP hD hA hS hl hret
  have hx := S.1
  have hb := S.2.1
  have hts := S.2.2.2.2
  have hown := S.2.2.2.1
  have hin : ∀ w ∈ wsX00, w ∈ wsX0_reduceColumn := fun w h => List.mem_cons_of_mem _ (List.mem_append_right _ h)
  have hl : lv_has ls 6 [(0, .ref h), (1, .int (nI cc))] := hl
  refine lv_aload_n hx hb dX0_reduceColumn_0 rfl (lv_at hl 0 rfl) ?_
  refine lv_iload_n hx hb dX0_reduceColumn_1 rfl (lv_at hl 1 rfl) ?_
  refine rdv_i S (c_X0_firstRowLeft l D (M := G) (P := P) cc hP2 hPl hm hn hcc (by omega) hB hM) (cwV 1 hts gX0_reduceColumn_X0_firstRowLeft rfl rfl rfl (by decide +kernel) ⟨Nat.le_of_ble_eq_true rfl, Nat.le_of_ble_eq_true rfl⟩) rfl hK hP (ci := 0) rfl rfl hl.1 (rest := []) rfl (Nat.le_of_ble_eq_true rfl) dX0_reduceColumn_2 ⟨Nat.zero_le _, Nat.zero_le _⟩ hP hS hA (fun r_1 H locs er_1 hP hS => ?_)
  generalize hF : fnd G cc (mR - pv) pv = F at er_1
  rcases er_1 with ⟨hFm, rfl⟩ | ⟨hFm, rfl⟩
  · refine lv_istore_n (lv' := [(2, .int (nI F)), (0, .ref h), (1, .int (nI cc))]) hx hb dX0_reduceColumn_5 rfl hl (by decide) rfl (fun ls hl => ?_)
    refine lv_iload_n hx hb dX0_reduceColumn_6 rfl (lv_at hl 0 rfl) ?_
    refine lv_iconst (v := (-1)) hx hb dX0_reduceColumn_7 (by decide +kernel) ?_
    refine lv_icmp_ne (tgt := 12) hx hb dX0_reduceColumn_8 (by decide) (fun c_2 => ?_) (fun c_2 => ?_)
    · refine lv_aload_n hx hb dX0_reduceColumn_12 rfl (lv_at hl 1 rfl) ?_
      refine x0_get S hin hK hP rfl 9 (by decide) rfl (by decide +kernel) (v := .int (nI pv)) rfl dX0_reduceColumn_13 ?_
      refine lv_istore_n (lv' := [(3, .int (nI pv)), (2, .int (nI F)), (0, .ref h), (1, .int (nI cc))]) hx hb dX0_reduceColumn_16 rfl hl (by decide) rfl (fun ls hl => ?_)
      have J : ∀ (f1 : Nat → Int32) (pp1 : Nat), (Rp (nC + mR) mR f1 (swp G F pv)) → (pp1 = if F = pv then pp else ng P pp) → (pp1 < P) → ∀ (ls : Array Slot) (H : Heap) (locs : List Loc), lv_has ls 6 [(0, .ref h), (1, .int (nI cc)), (2, .int (nI F)), (3, .int (nI pv))] → va_P D vwCl (pbW h a1 a2 a3 a4 cA (nI P) mR nC fA fB f1 fP rd pv pp1) H → va_D A (pbW h a1 a2 a3 a4 cA (nI P) mR nC fA fB f1 fP rd pv pp1) → va_S A s.heap H locs → W p l e ({ frames := 2, cells := 0, slots := 0, locals := 49 }) s mm args below meth c H locs 0 0 Q (F0 mm 40 ls []) := by
        intro f1 pp1 hM1 hpp1 hpp2 ls H locs hl hP hD hS
        refine lv_aload_n hx hb dX0_reduceColumn_40 rfl (lv_at hl 0 rfl) ?_
        refine x0_get S hin hK hP rfl 5 (by decide) rfl (by decide +kernel) (v := .ref a3) rfl dX0_reduceColumn_41 ?_
        refine lv_iload_n hx hb dX0_reduceColumn_44 rfl (lv_at hl 3 rfl) ?_
        refine lv_aload_n hx hb dX0_reduceColumn_45 rfl (lv_at hl 0 rfl) ?_
        refine x0_get S hin hK hP rfl 6 (by decide) rfl (by decide +kernel) (v := .int (nI (nC + mR))) rfl dX0_reduceColumn_46 ?_
        refine nv_imul hx hb dX0_reduceColumn_49 ?_
        refine lv_iload_n hx hb dX0_reduceColumn_50 rfl (lv_at hl 1 rfl) ?_
        refine nv_iadd hx hb dX0_reduceColumn_51 ?_
        refine nv_iald hx hb hK hP 3 0 rfl rfl (v := nI (swp G F pv pv cc)) (ix_lt hpv (by omega)) (bd3 hm hn) (hM1 pv hpv cc (by omega)) dX0_reduceColumn_52 ?_
        have hX := bn_swp hB F pv pv cc
        generalize hXe : swp G F pv pv cc = X at hX ⊢
        refine lv_istore (lv' := [(4, .int (nI X)), (0, .ref h), (1, .int (nI cc)), (2, .int (nI F)), (3, .int (nI pv))]) hx hb dX0_reduceColumn_53 hl (by decide) rfl (fun ls hl => ?_)
        refine lv_aload_n hx hb dX0_reduceColumn_55 rfl (lv_at hl 1 rfl) ?_
        refine lv_aload_n hx hb dX0_reduceColumn_56 rfl (lv_at hl 1 rfl) ?_
        refine x0_get S hin hK hP rfl 10 (by decide) rfl (by decide +kernel) (v := .long (lN pp1)) rfl dX0_reduceColumn_57 ?_
        refine lv_iload hx hb dX0_reduceColumn_60 (lv_at hl 0 rfl) ?_
        refine nv_i2l hx hb (by omega) dX0_reduceColumn_62 ?_
        refine nv_lmul hx hb dX0_reduceColumn_63 ?_
        refine lv_aload_n hx hb dX0_reduceColumn_64 rfl (lv_at hl 1 rfl) ?_
        refine x0_get S hin hK hP rfl 0 (by decide) rfl (by decide +kernel) (v := .int (nI P)) rfl dX0_reduceColumn_65 ?_
        refine nv_i2l hx hb (by omega) dX0_reduceColumn_68 ?_
        refine nv_lrem hx hb (mul_b (by omega) (by omega)) (by omega) (by omega) dX0_reduceColumn_69 ?_
        refine x0_put S hin hK hP hD hS rfl 10 (by decide) rfl (by decide +kernel) rfl (ty := .long) (v := .long (lN ((pp1 * X) % P))) rfl rfl rfl (Nat.le_of_ble_eq_true rfl) dX0_reduceColumn_70 (fun H locs hP hD hS => ?_)
        have hP : va_P D vwCl (pbW h a1 a2 a3 a4 cA (nI P) mR nC fA fB f1 fP rd pv ((pp1 * X) % P)) H := hP
        have hD : va_D A (pbW h a1 a2 a3 a4 cA (nI P) mR nC fA fB f1 fP rd pv ((pp1 * X) % P)) := hD
        refine lv_aload_n hx hb dX0_reduceColumn_73 rfl (lv_at hl 1 rfl) ?_
        refine lv_iload_n hx hb dX0_reduceColumn_74 rfl (lv_at hl 4 rfl) ?_
        refine lv_aload_n hx hb dX0_reduceColumn_75 rfl (lv_at hl 1 rfl) ?_
        refine lv_iload hx hb dX0_reduceColumn_76 (lv_at hl 0 rfl) ?_
        refine rdv_l S (c_X0_inverseOf l D X hP2 hPl hX) (cwV 1 hts gX0_reduceColumn_X0_inverseOf rfl rfl rfl (by decide +kernel) ⟨Nat.le_of_ble_eq_true rfl, Nat.le_of_ble_eq_true rfl⟩) rfl hK hP (ci := 0) rfl rfl hl.1 (rest := [.int (nI pv), .ref h]) rfl (Nat.le_of_ble_eq_true rfl) dX0_reduceColumn_78 ⟨Nat.zero_le _, Nat.zero_le _⟩ hP hS hA (fun r_3 H locs er_3 hP hS => ?_)
        subst er_3
        refine wrv_v S (c_X0_multiplyRow l D (M := swp G F pv) pv (X ^ (P - 2) % P) hP2 hPl hm hn hpv (Nat.mod_lt _ (by omega)) (bn_swp hB F pv) hM1) (cwV 2 hts gX0_reduceColumn_X0_multiplyRow rfl rfl rfl (by decide +kernel) ⟨Nat.le_of_ble_eq_true rfl, Nat.le_of_ble_eq_true rfl⟩) rfl hK (ci := 0) rfl rfl hl.1 (rest := []) rfl (Nat.le_of_ble_eq_true rfl) dX0_reduceColumn_81 ⟨Nat.zero_le _, Nat.zero_le _⟩ hP hD hS hA (fun u_4 H locs eu_4 hP hD hS => ?_)
        have hP : va_P D vwCl (pbW h a1 a2 a3 a4 cA (nI P) mR nC fA fB u_4 fP rd pv ((pp1 * X) % P)) H := hP
        have hD : va_D A (pbW h a1 a2 a3 a4 cA (nI P) mR nC fA fB u_4 fP rd pv ((pp1 * X) % P)) := hD
        have hB2 := bn_scl (show 0 < P by omega) (bn_swp hB F pv) pv (X ^ (P - 2) % P)
        generalize hM2 : scl P (swp G F pv) pv (X ^ (P - 2) % P) = M2 at eu_4 hB2
        refine lv_iconst (v := nI 0) hx hb dX0_reduceColumn_84 (by decide +kernel) ?_
        refine lv_istore (lv' := [(5, .int (nI 0)), (4, .int (nI X)), (0, .ref h), (1, .int (nI cc)), (2, .int (nI F)), (3, .int (nI pv))]) hx hb dX0_reduceColumn_85 hl (by decide) rfl (fun ls hl => ?_)
        have L : ∀ (nL : Nat) (f : Nat → Int32) (i : Nat), (i ≤ mR) → (Rp (nC + mR) mR f (row2 i (clr P M2 pv cc) M2)) → (mR + 1 ≤ i + nL) → ∀ (ls : Array Slot) (H : Heap) (locs : List Loc), lv_has ls 6 [(0, .ref h), (1, .int (nI cc)), (3, .int (nI pv)), (5, .int (nI i))] → va_P D vwCl (pbW h a1 a2 a3 a4 cA (nI P) mR nC fA fB f fP rd pv (pp1 * X % P)) H → va_D A (pbW h a1 a2 a3 a4 cA (nI P) mR nC fA fB f fP rd pv (pp1 * X % P)) → va_S A s.heap H locs → W p l e ({ frames := 2, cells := 0, slots := 0, locals := 49 }) s mm args below meth c H locs 0 0 Q (F0 mm 87 ls []) := by
          intro nL
          induction nL with
          | zero => intro f i hi hinv hfuel; exfalso; omega
          | succ nL ihL =>
            intro f i hi hinv hfuel ls H locs hl hP hD hS
            refine lv_iload hx hb dX0_reduceColumn_87 (lv_at hl 3 rfl) ?_
            refine lv_aload_n hx hb dX0_reduceColumn_89 rfl (lv_at hl 0 rfl) ?_
            refine x0_get S hin hK hP rfl 1 (by decide) rfl (by decide +kernel) (v := .int (nI mR)) rfl dX0_reduceColumn_90 ?_
            refine nv_icmp_ge (tgt := 129) hx hb dX0_reduceColumn_93 (by decide) (by omega) (by omega) (fun c_5 => ?_) (fun c_5 => ?_)
            · refine lv_aload_n hx hb dX0_reduceColumn_129 rfl (lv_at hl 0 rfl) ?_
              refine x0_get S hin hK hP rfl 7 (by decide) rfl (by decide +kernel) (v := .ref a4) rfl dX0_reduceColumn_130 ?_
              refine lv_iload_n hx hb dX0_reduceColumn_133 rfl (lv_at hl 1 rfl) ?_
              refine lv_iload_n hx hb dX0_reduceColumn_134 rfl (lv_at hl 2 rfl) ?_
              refine nv_iast hx hb hK hP hD hS 4 0 rfl rfl (by omega) (by omega) dX0_reduceColumn_135 (fun H locs hP hD hS => ?_)
              have hP : va_P D vwCl (pbW h a1 a2 a3 a4 cA (nI P) mR nC fA fB f (upd fP cc (nI pv)) rd pv (pp1 * X % P)) H := hP
              have hD : va_D A (pbW h a1 a2 a3 a4 cA (nI P) mR nC fA fB f (upd fP cc (nI pv)) rd pv (pp1 * X % P)) := hD
              refine lv_aload_n hx hb dX0_reduceColumn_136 rfl (lv_at hl 0 rfl) ?_
              refine lv_dup hx hb dX0_reduceColumn_137 rfl ?_
              refine x0_get S hin hK hP rfl 9 (by decide) rfl (by decide +kernel) (v := .int (nI pv)) rfl dX0_reduceColumn_138 ?_
              refine lv_iconst (v := nI 1) hx hb dX0_reduceColumn_141 (by decide +kernel) ?_
              refine nv_iadd hx hb dX0_reduceColumn_142 ?_
              refine x0_put S hin hK hP hD hS rfl 9 (by decide) rfl (by decide +kernel) rfl (ty := .int) (v := .int (nI (pv + 1))) rfl rfl rfl (Nat.le_of_ble_eq_true rfl) dX0_reduceColumn_143 (fun H locs hP hD hS => ?_)
              have hP : va_P D vwCl (pbW h a1 a2 a3 a4 cA (nI P) mR nC fA fB f (upd fP cc (nI pv)) rd (pv + 1) (pp1 * X % P)) H := hP
              have hD : va_D A (pbW h a1 a2 a3 a4 cA (nI P) mR nC fA fB f (upd fP cc (nI pv)) rd (pv + 1) (pp1 * X % P)) := hD
              exact hret (f, upd fP cc (nI pv), pv + 1, pp1 * X % P) 146 ls _ _ dX0_reduceColumn_146 hP hD hS (by
                  rw [redS_yes hpv hF hFm, hXe, hM2, ← hpp1]
                  exact ⟨hinv.rowm c_5, fp_step hfP, rfl, rfl⟩)
            · refine lv_iload hx hb dX0_reduceColumn_96 (lv_at hl 3 rfl) ?_
              refine lv_iload_n hx hb dX0_reduceColumn_98 rfl (lv_at hl 2 rfl) ?_
              refine nv_icmp_eq (tgt := 123) hx hb dX0_reduceColumn_99 (by decide) (by omega) (by omega) (fun c_6 => ?_) (fun c_6 => ?_)
              · refine lv_iinc (v := nI (i + 1)) (lv' := [(5, .int (nI (i + 1))), (0, .ref h), (1, .int (nI cc)), (3, .int (nI pv))]) hx hb dX0_reduceColumn_123 hl (k := 3) rfl (nv_inc i 1) (by decide) rfl (fun ls hl => ?_)
                refine lv_goto (tgt := 87) hx hb dX0_reduceColumn_126 (by decide) ?_
                exact ihL f (i + 1) (by omega) (st_clrE c_6 hinv) (by omega) ls _ _ (lv_sub hl [1, 2, 3, 0] rfl) hP hD hS
              · have hBi := bn_row2 (bn_clr (show 0 < P by omega) hB2 pv cc) hB2 i
                refine lv_aload_n hx hb dX0_reduceColumn_102 rfl (lv_at hl 0 rfl) ?_
                refine lv_iload_n hx hb dX0_reduceColumn_103 rfl (lv_at hl 2 rfl) ?_
                refine lv_aload_n hx hb dX0_reduceColumn_104 rfl (lv_at hl 0 rfl) ?_
                refine x0_get S hin hK hP rfl 5 (by decide) rfl (by decide +kernel) (v := .ref a3) rfl dX0_reduceColumn_105 ?_
                refine lv_iload hx hb dX0_reduceColumn_108 (lv_at hl 3 rfl) ?_
                refine lv_aload_n hx hb dX0_reduceColumn_110 rfl (lv_at hl 0 rfl) ?_
                refine x0_get S hin hK hP rfl 6 (by decide) rfl (by decide +kernel) (v := .int (nI (nC + mR))) rfl dX0_reduceColumn_111 ?_
                refine nv_imul hx hb dX0_reduceColumn_114 ?_
                refine lv_iload_n hx hb dX0_reduceColumn_115 rfl (lv_at hl 1 rfl) ?_
                refine nv_iadd hx hb dX0_reduceColumn_116 ?_
                refine nv_iald hx hb hK hP 3 0 rfl rfl (v := nI (row2 i (clr P M2 pv cc) M2 i cc)) (ix_lt (by omega) (by omega)) (bd3 hm hn) (hinv i (by omega) cc (by omega)) dX0_reduceColumn_117 ?_
                refine lv_iload hx hb dX0_reduceColumn_118 (lv_at hl 3 rfl) ?_
                refine wrv_v S (c_X0_takeRow l D (M := row2 i (clr P M2 pv cc) M2) pv ((row2 i (clr P M2 pv cc) M2) i cc) i hP2 hPl hm hn hpv (hBi i cc) (by omega) hBi hinv) (cwV 3 hts gX0_reduceColumn_X0_takeRow rfl rfl rfl (by decide +kernel) ⟨Nat.le_of_ble_eq_true rfl, Nat.le_of_ble_eq_true rfl⟩) rfl hK (ci := 0) rfl rfl hl.1 (rest := []) rfl (Nat.le_of_ble_eq_true rfl) dX0_reduceColumn_120 ⟨Nat.zero_le _, Nat.zero_le _⟩ hP hD hS hA (fun u_7 H locs eu_7 hP hD hS => ?_)
                have hP : va_P D vwCl (pbW h a1 a2 a3 a4 cA (nI P) mR nC fA fB u_7 fP rd pv (pp1 * X % P)) H := hP
                have hD : va_D A (pbW h a1 a2 a3 a4 cA (nI P) mR nC fA fB u_7 fP rd pv (pp1 * X % P)) := hD
                refine lv_iinc (v := nI (i + 1)) (lv' := [(5, .int (nI (i + 1))), (0, .ref h), (1, .int (nI cc)), (3, .int (nI pv))]) hx hb dX0_reduceColumn_123 hl (k := 3) rfl (nv_inc i 1) (by decide) rfl (fun ls hl => ?_)
                refine lv_goto (tgt := 87) hx hb dX0_reduceColumn_126 (by decide) ?_
                exact ihL u_7 (i + 1) (by omega) (st_clr hB2 c_6 eu_7) (by omega) ls _ _ (lv_sub hl [1, 2, 3, 0] rfl) hP hD hS
        exact L (mR + 1) u_4 0 (by omega) (Rp.row0 eu_4) (by omega) ls _ _ (lv_sub hl [2, 3, 5, 0] rfl) hP hD hS
      refine lv_iload_n hx hb dX0_reduceColumn_17 rfl (lv_at hl 1 rfl) ?_
      refine lv_iload_n hx hb dX0_reduceColumn_18 rfl (lv_at hl 0 rfl) ?_
      refine nv_icmp_eq (tgt := 40) hx hb dX0_reduceColumn_19 (by decide) (by omega) (by omega) (fun c_8 => ?_) (fun c_8 => ?_)
      · have h40 : pp = if F = pv then pp else ng P pp := by rw [if_pos c_8]
        exact J fW pp (hM.swps c_8) h40 hpp ls _ _ (lv_sub hl [2, 3, 1, 0] rfl) hP hD hS
      · refine lv_aload_n hx hb dX0_reduceColumn_22 rfl (lv_at hl 2 rfl) ?_
        refine lv_iload_n hx hb dX0_reduceColumn_23 rfl (lv_at hl 1 rfl) ?_
        refine lv_iload_n hx hb dX0_reduceColumn_24 rfl (lv_at hl 0 rfl) ?_
        refine wrv_v S (c_X0_changePlaces l D (M := G) F pv hm hn hFm hpv hM) (cwV 2 hts gX0_reduceColumn_X0_changePlaces rfl rfl rfl (by decide +kernel) ⟨Nat.le_of_ble_eq_true rfl, Nat.le_of_ble_eq_true rfl⟩) rfl hK (ci := 0) rfl rfl hl.1 (rest := []) rfl (Nat.le_of_ble_eq_true rfl) dX0_reduceColumn_25 ⟨Nat.zero_le _, Nat.zero_le _⟩ hP hD hS hA (fun u_9 H locs eu_9 hP hD hS => ?_)
        have hP : va_P D vwCl (pbW h a1 a2 a3 a4 cA (nI P) mR nC fA fB u_9 fP rd pv pp) H := hP
        have hD : va_D A (pbW h a1 a2 a3 a4 cA (nI P) mR nC fA fB u_9 fP rd pv pp) := hD
        refine lv_aload_n hx hb dX0_reduceColumn_28 rfl (lv_at hl 2 rfl) ?_
        refine lv_aload_n hx hb dX0_reduceColumn_29 rfl (lv_at hl 2 rfl) ?_
        refine lv_aload_n hx hb dX0_reduceColumn_30 rfl (lv_at hl 2 rfl) ?_
        refine x0_get S hin hK hP rfl 10 (by decide) rfl (by decide +kernel) (v := .long (lN pp)) rfl dX0_reduceColumn_31 ?_
        refine rdv_l S (c_X0_negative l D pp hPl hpp) (cwV 1 hts gX0_reduceColumn_X0_negative rfl rfl rfl (by decide +kernel) ⟨Nat.le_of_ble_eq_true rfl, Nat.le_of_ble_eq_true rfl⟩) rfl hK hP (ci := 0) rfl rfl hl.1 (rest := [.ref h]) rfl (Nat.le_of_ble_eq_true rfl) dX0_reduceColumn_34 ⟨Nat.zero_le _, Nat.zero_le _⟩ hP hS hA (fun r_10 H locs er_10 hP hS => ?_)
        subst er_10
        refine x0_put S hin hK hP hD hS rfl 10 (by decide) rfl (by decide +kernel) rfl (ty := .long) (v := .long (lN (ng P pp))) rfl rfl rfl (Nat.le_of_ble_eq_true rfl) dX0_reduceColumn_37 (fun H locs hP hD hS => ?_)
        have hP : va_P D vwCl (pbW h a1 a2 a3 a4 cA (nI P) mR nC fA fB u_9 fP rd pv (ng P pp)) H := hP
        have hD : va_D A (pbW h a1 a2 a3 a4 cA (nI P) mR nC fA fB u_9 fP rd pv (ng P pp)) := hD
        have h40 : ng P pp = if F = pv then pp else ng P pp := by rw [if_neg c_8]
        exact J u_9 (ng P pp) eu_9 h40 (ng_lt (by omega)) ls _ _ (lv_sub hl [2, 3, 1, 0] rfl) hP hD hS
    · exact absurd c_2 (nI_m1 (by omega))
  · refine lv_istore_n (lv' := [(2, .int (-1)), (0, .ref h), (1, .int (nI cc))]) hx hb dX0_reduceColumn_5 rfl hl (by decide) rfl (fun ls hl => ?_)
    refine lv_iload_n hx hb dX0_reduceColumn_6 rfl (lv_at hl 0 rfl) ?_
    refine lv_iconst (v := (-1)) hx hb dX0_reduceColumn_7 (by decide +kernel) ?_
    refine lv_icmp_ne (tgt := 12) hx hb dX0_reduceColumn_8 (by decide) (fun c_11 => ?_) (fun c_11 => ?_)
    · exact absurd rfl c_11
    · exact hret (fW, fP, pv, pp) 11 ls _ _ dX0_reduceColumn_11 hP hD hS (by
          rw [redS_no (q := (G, pv, pp, pc)) (fun z => by have z2 := z.2; rw [show fnd (G, pv, pp, pc).1 cc (mR - (G, pv, pp, pc).2.1) (G, pv, pp, pc).2.1 = F from hF] at z2; omega)]
          exact ⟨hM, hfP, rfl, rfl⟩)
set_option maxHeartbeats 4000000 in
set_option maxRecDepth 100000 in
theorem c_X0_reduce (l : Launch) (D : va_G) {h a1 a2 a3 a4 : Nat} {cA : ClassId} {mR nC : Nat} {fA fB fW fP : Nat → Int32} {rd pv pp : Nat} {P : Nat} {A0 : Mat} (hP2 : 2 ≤ P) (hPl : P < 2 ^ 31) (hm : mR ≤ 10) (hn : nC ≤ 10) (hm0 : 0 < mR) (hAb : bnd P A0) (hA0 : Rp nC mR fA A0) : WrI (U := (Nat → Int32) × (Nat → Int32) × Nat × Nat) l yX0_reduce wsX0_reduce ({ frames := 3, cells := 0, slots := 0, locals := 74 }) [.ref h] D (pbW h a1 a2 a3 a4 cA (nI P) mR nC fA fB fW fP rd pv pp) [(cA, .int)] (fun r u => r = nI (redN P mR (lm nC (G0 nC A0), 0, 1, fun _ => 0) nC).2.1 ∧ Rp (nC + mR) mR u.1 (redN P mR (lm nC (G0 nC A0), 0, 1, fun _ => 0) nC).1 ∧ (∀ j, j < nC → u.2.1 j = opt (rowOf (redN P mR (lm nC (G0 nC A0), 0, 1, fun _ => 0) nC).2.2.2 (redN P mR (lm nC (G0 nC A0), 0, 1, fun _ => 0) nC).2.1 j)) ∧ u.2.2.1 = (redN P mR (lm nC (G0 nC A0), 0, 1, fun _ => 0) nC).2.1 ∧ u.2.2.2 = (redN P mR (lm nC (G0 nC A0), 0, 1, fun _ => 0) nC).2.2.1) (fun u => pbW h a1 a2 a3 a4 cA (nI P) mR nC fA fB u.1 u.2.1 1 u.2.2.1 u.2.2.2) := by
  refine WrI.mk (cc := cX0_reduce) (maxL := 2) (rt := .int) (by decide) rfl (Nat.le_of_ble_eq_true rfl) ?_
  intro p e s mm args below meth c Q ls A S hK hP hD hA hS hl hret
  have hx := S.1
  have hb := S.2.1
  have hts := S.2.2.2.2
  have hown := S.2.2.2.1
  have hin : ∀ w ∈ wsX00, w ∈ wsX0_reduce := fun w h => List.mem_cons_of_mem _ (List.mem_append_right _ h)
  have hl : lv_has ls 2 [(0, .ref h)] := hl
  refine lv_aload_n hx hb dX0_reduce_0 rfl (lv_at hl 0 rfl) ?_
  refine x0_get S hin hK hP rfl 1 (by decide) rfl (by decide +kernel) (v := .int (nI mR)) rfl dX0_reduce_1 ?_
  refine nv_if_ne (tgt := 9) hx hb dX0_reduce_4 (by decide) (by omega) (fun c_1 => ?_) (fun c_1 => ?_)
  · refine lv_aload_n hx hb dX0_reduce_9 rfl (lv_at hl 0 rfl) ?_
    refine wrv_v S (c_X0_startWork l D hm hn hA0) (cwV 0 hts gX0_reduce_X0_startWork rfl rfl rfl (by decide +kernel) ⟨Nat.le_of_ble_eq_true rfl, Nat.le_of_ble_eq_true rfl⟩) rfl hK (ci := 0) rfl rfl hl.1 (rest := []) rfl (Nat.le_of_ble_eq_true rfl) dX0_reduce_10 ⟨Nat.zero_le _, Nat.zero_le _⟩ hP hD hS hA (fun u_2 H locs eu_2 hP hD hS => ?_)
    have hP : va_P D vwCl (pbW h a1 a2 a3 a4 cA (nI P) mR nC fA fB u_2.1 u_2.2 rd 0 1) H := hP
    have hD : va_D A (pbW h a1 a2 a3 a4 cA (nI P) mR nC fA fB u_2.1 u_2.2 rd 0 1) := hD
    obtain ⟨f0, g0⟩ := u_2
    obtain ⟨hr0, hg0⟩ := eu_2
    dsimp only at hr0 hg0
    have hP : va_P D vwCl (pbW h a1 a2 a3 a4 cA (nI P) mR nC fA fB f0 g0 rd 0 1) H := hP
    have hD : va_D A (pbW h a1 a2 a3 a4 cA (nI P) mR nC fA fB f0 g0 rd 0 1) := hD
    refine lv_iconst (v := nI 0) hx hb dX0_reduce_13 (by decide +kernel) ?_
    refine lv_istore_n (lv' := [(1, .int (nI 0)), (0, .ref h)]) hx hb dX0_reduce_14 rfl hl (by decide) rfl (fun ls hl => ?_)
    have L : ∀ (nL : Nat) (f : Nat → Int32) (g : Nat → Int32) (v : Nat) (d : Nat) (i : Nat), (i ≤ nC) → (Rp (nC + mR) mR f (redN P mR (lm nC (G0 nC A0), 0, 1, fun _ => 0) i).1) → (∀ j, j < nC → g j = opt (rowOf (redN P mR (lm nC (G0 nC A0), 0, 1, fun _ => 0) i).2.2.2 v j)) → (v = (redN P mR (lm nC (G0 nC A0), 0, 1, fun _ => 0) i).2.1) → (d = (redN P mR (lm nC (G0 nC A0), 0, 1, fun _ => 0) i).2.2.1) → (nC + 1 ≤ i + nL) → ∀ (ls : Array Slot) (H : Heap) (locs : List Loc), lv_has ls 2 [(0, .ref h), (1, .int (nI i))] → va_P D vwCl (pbW h a1 a2 a3 a4 cA (nI P) mR nC fA fB f g rd v d) H → va_D A (pbW h a1 a2 a3 a4 cA (nI P) mR nC fA fB f g rd v d) → va_S A s.heap H locs → W p l e ({ frames := 3, cells := 0, slots := 0, locals := 74 }) s mm args below meth c H locs 0 0 Q (F0 mm 15 ls []) := by
      intro nL
      induction nL with
      | zero => intro f g v d i hi hinv hgi hv hd hfuel; exfalso; omega
      | succ nL ihL =>
        intro f g v d i hi hinv hgi hv hd hfuel ls H locs hl hP hD hS
        refine lv_iload_n hx hb dX0_reduce_15 rfl (lv_at hl 1 rfl) ?_
        refine lv_aload_n hx hb dX0_reduce_16 rfl (lv_at hl 0 rfl) ?_
        refine x0_get S hin hK hP rfl 2 (by decide) rfl (by decide +kernel) (v := .int (nI nC)) rfl dX0_reduce_17 ?_
        refine nv_icmp_ge (tgt := 45) hx hb dX0_reduce_20 (by decide) (by omega) (by omega) (fun c_3 => ?_) (fun c_3 => ?_)
        · have e7 : i = nC := by omega
          rw [e7] at hinv hgi hv hd
          refine lv_aload_n hx hb dX0_reduce_45 rfl (lv_at hl 0 rfl) ?_
          refine lv_iconst (v := nI 1) hx hb dX0_reduce_46 (by decide +kernel) ?_
          refine x0_put S hin hK hP hD hS rfl 8 (by decide) rfl (by decide +kernel) rfl (ty := .boolean) (v := .int (nI 1)) rfl rfl rfl (Nat.le_of_ble_eq_true rfl) dX0_reduce_47 (fun H locs hP hD hS => ?_)
          have hP : va_P D vwCl (pbW h a1 a2 a3 a4 cA (nI P) mR nC fA fB f g 1 v d) H := hP
          have hD : va_D A (pbW h a1 a2 a3 a4 cA (nI P) mR nC fA fB f g 1 v d) := hD
          refine lv_aload_n hx hb dX0_reduce_50 rfl (lv_at hl 0 rfl) ?_
          refine x0_get S hin hK hP rfl 9 (by decide) rfl (by decide +kernel) (v := .int (nI v)) rfl dX0_reduce_51 ?_
          exact hret (nI v) (f, g, v, d) 54 ls _ _ dX0_reduce_54 (rfl) hP hD hS (⟨by rw [hv], hinv, by rw [← hv]; exact hgi, hv, hd⟩)
        · refine lv_aload_n hx hb dX0_reduce_23 rfl (lv_at hl 0 rfl) ?_
          refine x0_get S hin hK hP rfl 9 (by decide) rfl (by decide +kernel) (v := .int (nI v)) rfl dX0_reduce_24 ?_
          refine lv_aload_n hx hb dX0_reduce_27 rfl (lv_at hl 0 rfl) ?_
          refine x0_get S hin hK hP rfl 1 (by decide) rfl (by decide +kernel) (v := .int (nI mR)) rfl dX0_reduce_28 ?_
          refine nv_icmp_ge (tgt := 45) hx hb dX0_reduce_31 (by decide) (by have h8 := (redN_ok (P := P) (m := mR) (q0 := (lm nC (G0 nC A0), 0, 1, fun _ => 0)) (by omega) (Nat.zero_le _) (fun i k => bn_G0 hP2 hAb i (lay nC k)) (show 1 < P by omega) i).1; omega) (by omega) (fun c_4 => ?_) (fun c_4 => ?_)
          · have e7 := redN_stop (P := P) (m := mR) (q0 := (lm nC (G0 nC A0), 0, 1, fun _ => 0)) (c := i) (by omega) (nC - i)
            rw [show i + (nC - i) = nC by omega] at e7
            rw [← e7] at hinv hgi hv hd
            refine lv_aload_n hx hb dX0_reduce_45 rfl (lv_at hl 0 rfl) ?_
            refine lv_iconst (v := nI 1) hx hb dX0_reduce_46 (by decide +kernel) ?_
            refine x0_put S hin hK hP hD hS rfl 8 (by decide) rfl (by decide +kernel) rfl (ty := .boolean) (v := .int (nI 1)) rfl rfl rfl (Nat.le_of_ble_eq_true rfl) dX0_reduce_47 (fun H locs hP hD hS => ?_)
            have hP : va_P D vwCl (pbW h a1 a2 a3 a4 cA (nI P) mR nC fA fB f g 1 v d) H := hP
            have hD : va_D A (pbW h a1 a2 a3 a4 cA (nI P) mR nC fA fB f g 1 v d) := hD
            refine lv_aload_n hx hb dX0_reduce_50 rfl (lv_at hl 0 rfl) ?_
            refine x0_get S hin hK hP rfl 9 (by decide) rfl (by decide +kernel) (v := .int (nI v)) rfl dX0_reduce_51 ?_
            exact hret (nI v) (f, g, v, d) 54 ls _ _ dX0_reduce_54 (rfl) hP hD hS (⟨by rw [hv], hinv, by rw [← hv]; exact hgi, hv, hd⟩)
          · refine lv_aload_n hx hb dX0_reduce_34 rfl (lv_at hl 0 rfl) ?_
            refine lv_iload_n hx hb dX0_reduce_35 rfl (lv_at hl 1 rfl) ?_
            have hok := redN_ok (P := P) (m := mR) (q0 := (lm nC (G0 nC A0), 0, 1, fun _ => 0)) (by omega) (Nat.zero_le _) (fun i k => bn_G0 hP2 hAb i (lay nC k)) (show 1 < P by omega) i
            obtain ⟨hok1, hok2, hok3⟩ := hok
            refine wrv_v S (c_X0_reduceColumn l D (pv := v) (pp := d) (G := (redN P mR (lm nC (G0 nC A0), 0, 1, fun _ => 0) i).1) (pc := (redN P mR (lm nC (G0 nC A0), 0, 1, fun _ => 0) i).2.2.2) i hP2 hPl hm hn c_3 (by omega) (by omega) hok2 hinv hgi) (cwV 1 hts gX0_reduce_X0_reduceColumn rfl rfl rfl (by decide +kernel) ⟨Nat.le_of_ble_eq_true rfl, Nat.le_of_ble_eq_true rfl⟩) rfl hK (ci := 0) rfl rfl hl.1 (rest := []) rfl (Nat.le_of_ble_eq_true rfl) dX0_reduce_36 ⟨Nat.zero_le _, Nat.zero_le _⟩ hP hD hS hA (fun u_5 H locs eu_5 hP hD hS => ?_)
            have hP : va_P D vwCl (pbW h a1 a2 a3 a4 cA (nI P) mR nC fA fB u_5.1 u_5.2.1 rd u_5.2.2.1 u_5.2.2.2) H := hP
            have hD : va_D A (pbW h a1 a2 a3 a4 cA (nI P) mR nC fA fB u_5.1 u_5.2.1 rd u_5.2.2.1 u_5.2.2.2) := hD
            obtain ⟨f2, g2, v2, d2⟩ := u_5
            obtain ⟨hr2, hg2, hv2, hd2⟩ := eu_5
            dsimp only at hr2 hg2 hv2 hd2
            have hP : va_P D vwCl (pbW h a1 a2 a3 a4 cA (nI P) mR nC fA fB f2 g2 rd v2 d2) H := hP
            have hD : va_D A (pbW h a1 a2 a3 a4 cA (nI P) mR nC fA fB f2 g2 rd v2 d2) := hD
            refine lv_iinc (v := nI (i + 1)) (lv' := [(1, .int (nI (i + 1))), (0, .ref h)]) hx hb dX0_reduce_39 hl (k := 1) rfl (nv_inc i 1) (by decide) rfl (fun ls hl => ?_)
            refine lv_goto (tgt := 15) hx hb dX0_reduce_42 (by decide) ?_
            have e7 : ((redN P mR (lm nC (G0 nC A0), 0, 1, fun _ => 0) i).1, v, d, (redN P mR (lm nC (G0 nC A0), 0, 1, fun _ => 0) i).2.2.2) = redN P mR (lm nC (G0 nC A0), 0, 1, fun _ => 0) i := by rw [hv, hd]
            rw [e7] at hr2 hg2 hv2 hd2
            exact ihL f2 g2 v2 d2 (i + 1) (by omega) hr2 (by rw [hv2]; exact hg2) hv2 hd2 (by omega) ls _ _ (lv_sub hl [1, 0] rfl) hP hD hS
    exact L (nC + 1) f0 g0 0 1 0 (by omega) hr0 (fun j hj => by rw [hg0 j hj]; rfl) rfl rfl (by omega) ls _ _ (lv_sub hl [1, 0] rfl) hP hD hS
  · exact absurd hm0 (by omega)
