set_option maxHeartbeats 4000000 in
set_option maxRecDepth 100000 in
theorem c_X1_reduce0 (l : Launch) (D : va_G) {h b1 b2 b3 b4 b5 : Nat} {cJ cI : ClassId} {gA gB : Nat → Int64} {rd rk : Nat} {gR : Nat → Int64} {gP : Nat → Int32} {gS : Nat → Int64} {pj : Int64} {mi ni : Int32} {vd P mR nC : Nat} (hvd0 : vd = 0) : WrI (U := Unit) l yX1_reduce wsX1_reduce ({ frames := 0, cells := 0, slots := 0, locals := 0 }) [.ref h] D (mdW h b1 b2 b3 b4 b5 cJ cI pj mi ni vd gA gB rd rk gR gP gS) [(cJ, .long), (cI, .int)] (fun r _ => r = -1) (fun _ => mdW h b1 b2 b3 b4 b5 cJ cI pj mi ni vd gA gB rd rk gR gP gS) := by
  refine WrI.mk (cc := cX1_reduce) (maxL := 3) (rt := .int) (by decide) rfl (Nat.le_of_ble_eq_true rfl) ?_
  intro p e s mm args below meth c Q ls A S hK hP hD hA hS hl hret
  have hx := S.1
  have hb := S.2.1
  have hts := S.2.2.2.2
  have hown := S.2.2.2.1
  have hin : ∀ w ∈ wsX10, w ∈ wsX1_reduce := fun w h => List.mem_cons_of_mem _ (List.mem_append_right _ h)
  have hl : lv_has ls 3 [(0, .ref h)] := hl
  refine lv_aload_n hx hb dX1_reduce_0 rfl (lv_at hl 0 rfl) ?_
  refine lv_iconst (v := nI 0) hx hb dX1_reduce_1 (by decide +kernel) ?_
  refine x1_put S hin hK hP hD hS rfl 0 (by decide) rfl (by decide +kernel) rfl (ty := .int) (v := .int (nI 0)) rfl rfl rfl (Nat.le_of_ble_eq_true rfl) dX1_reduce_2 (fun H locs hP hD hS => ?_)
  have hP : va_P D vwCl (mdW h b1 b2 b3 b4 b5 cJ cI pj mi ni vd gA gB rd rk gR gP gS) H := hP
  have hD : va_D A (mdW h b1 b2 b3 b4 b5 cJ cI pj mi ni vd gA gB rd rk gR gP gS) := hD
  refine lv_aload_n hx hb dX1_reduce_5 rfl (lv_at hl 0 rfl) ?_
  refine x1_get S hin hK hP rfl 4 (by decide) rfl (by decide +kernel) (v := .int (nI vd)) rfl dX1_reduce_6 ?_
  refine nv_if_ne (tgt := 14) hx hb dX1_reduce_9 (by decide) (by omega) (fun c_1 => ?_) (fun c_1 => ?_)
  · exact absurd hvd0 (by omega)
  · refine lv_iconst (v := (-1)) hx hb dX1_reduce_12 (by decide +kernel) ?_
    exact hret ((-1)) () 13 ls _ _ dX1_reduce_13 (rfl) hP hD hS (rfl)
set_option maxHeartbeats 4000000 in
set_option maxRecDepth 100000 in
theorem c_X1_reduce (l : Launch) (D : va_G) {h b1 b2 b3 b4 b5 : Nat} {cJ cI : ClassId} {gA gB : Nat → Int64} {rd rk : Nat} {gR : Nat → Int64} {gP : Nat → Int32} {gS : Nat → Int64} {vd P mR nC : Nat} {A0 : Mat} (hP2 : 2 ≤ P) (hPl : P < 2 ^ 31) (hm : mR ≤ 10) (hn : nC ≤ 10) (hvd0 : vd ≠ 0) (hvd : vd < 2) (hAb : bnd P A0) (hA0 : ∀ a, a < mR → ∀ k, k < nC → gA (10 * a + k) = lN (A0 a k)) : WrI (U := (Nat → Int64) × (Nat → Int32) × Nat) l yX1_reduce wsX1_reduce ({ frames := 2, cells := 0, slots := 0, locals := 54 }) [.ref h] D (mdW h b1 b2 b3 b4 b5 cJ cI (lN P) (nI mR) (nI nC) vd gA gB rd rk gR gP gS) [(cJ, .long), (cI, .int)] (fun r u => r = nI (redN P mR (q00 nC A0) nC).2.1 ∧ Rq mR u.1 (redN P mR (q00 nC A0) nC).1 ∧ (∀ i, i < (redN P mR (q00 nC A0) nC).2.1 → u.2.1 i = nI ((redN P mR (q00 nC A0) nC).2.2.2 i)) ∧ u.2.2 = (redN P mR (q00 nC A0) nC).2.1) (fun u => mdW h b1 b2 b3 b4 b5 cJ cI (lN P) (nI mR) (nI nC) vd gA gB 1 u.2.2 u.1 u.2.1 gS) := by
  refine WrI.mk (cc := cX1_reduce) (maxL := 3) (rt := .int) (by decide) rfl (Nat.le_of_ble_eq_true rfl) ?_
  intro p e s mm args below meth c Q ls A S hK hP hD hA hS hl hret
  have hx := S.1
  have hb := S.2.1
  have hts := S.2.2.2.2
  have hown := S.2.2.2.1
  have hin : ∀ w ∈ wsX10, w ∈ wsX1_reduce := fun w h => List.mem_cons_of_mem _ (List.mem_append_right _ h)
  have hl : lv_has ls 3 [(0, .ref h)] := hl
  refine lv_aload_n hx hb dX1_reduce_0 rfl (lv_at hl 0 rfl) ?_
  refine lv_iconst (v := nI 0) hx hb dX1_reduce_1 (by decide +kernel) ?_
  refine x1_put S hin hK hP hD hS rfl 0 (by decide) rfl (by decide +kernel) rfl (ty := .int) (v := .int (nI 0)) rfl rfl rfl (Nat.le_of_ble_eq_true rfl) dX1_reduce_2 (fun H locs hP hD hS => ?_)
  have hP : va_P D vwCl (mdW h b1 b2 b3 b4 b5 cJ cI (lN P) (nI mR) (nI nC) vd gA gB rd rk gR gP gS) H := hP
  have hD : va_D A (mdW h b1 b2 b3 b4 b5 cJ cI (lN P) (nI mR) (nI nC) vd gA gB rd rk gR gP gS) := hD
  refine lv_aload_n hx hb dX1_reduce_5 rfl (lv_at hl 0 rfl) ?_
  refine x1_get S hin hK hP rfl 4 (by decide) rfl (by decide +kernel) (v := .int (nI vd)) rfl dX1_reduce_6 ?_
  refine nv_if_ne (tgt := 14) hx hb dX1_reduce_9 (by decide) (by omega) (fun c_1 => ?_) (fun c_1 => ?_)
  · refine lv_iconst (v := nI 0) hx hb dX1_reduce_14 (by decide +kernel) ?_
    refine lv_istore_n (lv' := [(1, .int (nI 0)), (0, .ref h)]) hx hb dX1_reduce_15 rfl hl (by decide) rfl (fun ls hl => ?_)
    have L1 : ∀ (nL1 : Nat) (f : Nat → Int64) (i : Nat), (i ≤ mR) → (Rqq i 0 f (G0 nC A0)) → (mR + 1 ≤ i + nL1) → ∀ (ls : Array Slot) (H : Heap) (locs : List Loc), lv_has ls 3 [(0, .ref h), (1, .int (nI i))] → va_P D vwCl (mdW h b1 b2 b3 b4 b5 cJ cI (lN P) (nI mR) (nI nC) vd gA gB rd rk f gP gS) H → va_D A (mdW h b1 b2 b3 b4 b5 cJ cI (lN P) (nI mR) (nI nC) vd gA gB rd rk f gP gS) → va_S A s.heap H locs → W p l e ({ frames := 2, cells := 0, slots := 0, locals := 54 }) s mm args below meth c H locs 0 0 Q (F0 mm 16 ls []) := by
      intro nL1
      induction nL1 with
      | zero => intro f i hi hinv hfuel; exfalso; omega
      | succ nL1 ihL1 =>
        intro f i hi hinv hfuel ls H locs hl hP hD hS
        refine lv_iload_n hx hb dX1_reduce_16 rfl (lv_at hl 1 rfl) ?_
        refine lv_aload_n hx hb dX1_reduce_17 rfl (lv_at hl 0 rfl) ?_
        refine x1_get S hin hK hP rfl 2 (by decide) rfl (by decide +kernel) (v := .int (nI mR)) rfl dX1_reduce_18 ?_
        refine nv_icmp_ge (tgt := 102) hx hb dX1_reduce_21 (by decide) (by omega) (by omega) (fun c_2 => ?_) (fun c_2 => ?_)
        · have hall := hinv.all c_2
          refine lv_aload_n hx hb dX1_reduce_102 rfl (lv_at hl 0 rfl) ?_
          refine lv_iconst (v := nI 0) hx hb dX1_reduce_103 (by decide +kernel) ?_
          refine x1_put S hin hK hP hD hS rfl 8 (by decide) rfl (by decide +kernel) rfl (ty := .int) (v := .int (nI 0)) rfl rfl rfl (Nat.le_of_ble_eq_true rfl) dX1_reduce_104 (fun H locs hP hD hS => ?_)
          have hP : va_P D vwCl (mdW h b1 b2 b3 b4 b5 cJ cI (lN P) (nI mR) (nI nC) vd gA gB rd 0 f gP gS) H := hP
          have hD : va_D A (mdW h b1 b2 b3 b4 b5 cJ cI (lN P) (nI mR) (nI nC) vd gA gB rd 0 f gP gS) := hD
          refine lv_iconst (v := nI 0) hx hb dX1_reduce_107 (by decide +kernel) ?_
          refine lv_istore_n (lv' := [(1, .int (nI 0)), (0, .ref h)]) hx hb dX1_reduce_108 rfl hl (by decide) rfl (fun ls hl => ?_)
          have L : ∀ (nL : Nat) (f : Nat → Int64) (g : Nat → Int32) (v : Nat) (i : Nat), (i ≤ nC) → (Rq mR f (redN P mR (q00 nC A0) i).1) → (∀ a, a < v → g a = nI ((redN P mR (q00 nC A0) i).2.2.2 a)) → (v = (redN P mR (q00 nC A0) i).2.1) → (nC + 1 ≤ i + nL) → ∀ (ls : Array Slot) (H : Heap) (locs : List Loc), lv_has ls 3 [(0, .ref h), (1, .int (nI i))] → va_P D vwCl (mdW h b1 b2 b3 b4 b5 cJ cI (lN P) (nI mR) (nI nC) vd gA gB rd v f g gS) H → va_D A (mdW h b1 b2 b3 b4 b5 cJ cI (lN P) (nI mR) (nI nC) vd gA gB rd v f g gS) → va_S A s.heap H locs → W p l e ({ frames := 2, cells := 0, slots := 0, locals := 54 }) s mm args below meth c H locs 0 0 Q (F0 mm 109 ls []) := by
            intro nL
            induction nL with
            | zero => intro f g v i hi hinv hg hv hfuel; exfalso; omega
            | succ nL ihL =>
              intro f g v i hi hinv hg hv hfuel ls H locs hl hP hD hS
              refine lv_iload_n hx hb dX1_reduce_109 rfl (lv_at hl 1 rfl) ?_
              refine lv_aload_n hx hb dX1_reduce_110 rfl (lv_at hl 0 rfl) ?_
              refine x1_get S hin hK hP rfl 3 (by decide) rfl (by decide +kernel) (v := .int (nI nC)) rfl dX1_reduce_111 ?_
              refine nv_icmp_ge (tgt := 182) hx hb dX1_reduce_114 (by decide) (by omega) (by omega) (fun c_3 => ?_) (fun c_3 => ?_)
              · have e7 : i = nC := by omega
                rw [e7] at hinv hg hv
                refine lv_aload_n hx hb dX1_reduce_182 rfl (lv_at hl 0 rfl) ?_
                refine lv_iconst (v := nI 1) hx hb dX1_reduce_183 (by decide +kernel) ?_
                refine x1_put S hin hK hP hD hS rfl 7 (by decide) rfl (by decide +kernel) rfl (ty := .boolean) (v := .int (nI 1)) rfl (by decide +kernel) rfl (Nat.le_of_ble_eq_true rfl) dX1_reduce_184 (fun H locs hP hD hS => ?_)
                have hP : va_P D vwCl (mdW h b1 b2 b3 b4 b5 cJ cI (lN P) (nI mR) (nI nC) vd gA gB 1 v f g gS) H := hP
                have hD : va_D A (mdW h b1 b2 b3 b4 b5 cJ cI (lN P) (nI mR) (nI nC) vd gA gB 1 v f g gS) := hD
                refine lv_aload_n hx hb dX1_reduce_187 rfl (lv_at hl 0 rfl) ?_
                refine x1_get S hin hK hP rfl 8 (by decide) rfl (by decide +kernel) (v := .int (nI v)) rfl dX1_reduce_188 ?_
                exact hret (nI v) (f, g, v) 191 ls _ _ dX1_reduce_191 (rfl) hP hD hS (⟨by rw [hv], hinv, by rw [← hv]; exact hg, hv⟩)
              · refine lv_aload_n hx hb dX1_reduce_117 rfl (lv_at hl 0 rfl) ?_
                refine x1_get S hin hK hP rfl 8 (by decide) rfl (by decide +kernel) (v := .int (nI v)) rfl dX1_reduce_118 ?_
                refine lv_aload_n hx hb dX1_reduce_121 rfl (lv_at hl 0 rfl) ?_
                refine x1_get S hin hK hP rfl 2 (by decide) rfl (by decide +kernel) (v := .int (nI mR)) rfl dX1_reduce_122 ?_
                refine nv_icmp_ge (tgt := 182) hx hb dX1_reduce_125 (by decide) (by have h8 := (redN_ok (P := P) (m := mR) (q0 := q00 nC A0) (by omega) (Nat.zero_le _) (bn_G0 hP2 hAb) (show 1 < P by omega) i).1; omega) (by omega) (fun c_4 => ?_) (fun c_4 => ?_)
                · have e7 := redN_stop (P := P) (m := mR) (q0 := q00 nC A0) (c := i) (by omega) (nC - i)
                  rw [show i + (nC - i) = nC by omega] at e7
                  rw [← e7] at hinv hg hv
                  refine lv_aload_n hx hb dX1_reduce_182 rfl (lv_at hl 0 rfl) ?_
                  refine lv_iconst (v := nI 1) hx hb dX1_reduce_183 (by decide +kernel) ?_
                  refine x1_put S hin hK hP hD hS rfl 7 (by decide) rfl (by decide +kernel) rfl (ty := .boolean) (v := .int (nI 1)) rfl (by decide +kernel) rfl (Nat.le_of_ble_eq_true rfl) dX1_reduce_184 (fun H locs hP hD hS => ?_)
                  have hP : va_P D vwCl (mdW h b1 b2 b3 b4 b5 cJ cI (lN P) (nI mR) (nI nC) vd gA gB 1 v f g gS) H := hP
                  have hD : va_D A (mdW h b1 b2 b3 b4 b5 cJ cI (lN P) (nI mR) (nI nC) vd gA gB 1 v f g gS) := hD
                  refine lv_aload_n hx hb dX1_reduce_187 rfl (lv_at hl 0 rfl) ?_
                  refine x1_get S hin hK hP rfl 8 (by decide) rfl (by decide +kernel) (v := .int (nI v)) rfl dX1_reduce_188 ?_
                  exact hret (nI v) (f, g, v) 191 ls _ _ dX1_reduce_191 (rfl) hP hD hS (⟨by rw [hv], hinv, by rw [← hv]; exact hg, hv⟩)
                · refine lv_aload_n hx hb dX1_reduce_128 rfl (lv_at hl 0 rfl) ?_
                  refine lv_iload_n hx hb dX1_reduce_129 rfl (lv_at hl 1 rfl) ?_
                  obtain ⟨hok1, hok2, hok3⟩ := redN_ok (P := P) (m := mR) (q0 := q00 nC A0) (by omega) (Nat.zero_le _) (bn_G0 hP2 hAb) (show 1 < P by omega) i
                  refine rdv_i S (c_X1_firstWith l D (M := (redN P mR (q00 nC A0) i).1) i hP2 hPl hm hn c_3 (by omega) hok2 hinv) (cwV 1 hts gX1_reduce_X1_firstWith rfl rfl rfl (by decide +kernel) ⟨Nat.le_of_ble_eq_true rfl, Nat.le_of_ble_eq_true rfl⟩) rfl hK hP (ci := 1) rfl rfl hl.1 (rest := []) rfl (Nat.le_of_ble_eq_true rfl) dX1_reduce_130 ⟨Nat.zero_le _, Nat.zero_le _⟩ hP hS hA (fun r_5 H locs er_5 hP hS => ?_)
                  have hFle := fnd_le (redN P mR (q00 nC A0) i).1 i (mR - v) v
                  generalize hF : fnd (redN P mR (q00 nC A0) i).1 i (mR - v) v = F at er_5 hFle
                  subst er_5
                  refine lv_istore_n (lv' := [(2, .int (nI F)), (0, .ref h), (1, .int (nI i))]) hx hb dX1_reduce_133 rfl hl (by decide) rfl (fun ls hl => ?_)
                  refine lv_iload_n hx hb dX1_reduce_134 rfl (lv_at hl 0 rfl) ?_
                  refine lv_aload_n hx hb dX1_reduce_135 rfl (lv_at hl 1 rfl) ?_
                  refine x1_get S hin hK hP rfl 2 (by decide) rfl (by decide +kernel) (v := .int (nI mR)) rfl dX1_reduce_136 ?_
                  refine nv_icmp_ge (tgt := 176) hx hb dX1_reduce_139 (by decide) (by omega) (by omega) (fun c_6 => ?_) (fun c_6 => ?_)
                  · have e8 : redN P mR (q00 nC A0) (i + 1) = redN P mR (q00 nC A0) i := redS_no (fun z => by have z2 := z.2; rw [← hv, hF] at z2; omega)
                    refine lv_iinc (v := nI (i + 1)) (lv' := [(1, .int (nI (i + 1))), (2, .int (nI F)), (0, .ref h)]) hx hb dX1_reduce_176 hl (k := 2) rfl (nv_inc i 1) (by decide) rfl (fun ls hl => ?_)
                    refine lv_goto (tgt := 109) hx hb dX1_reduce_179 (by decide) ?_
                    exact ihL f g v (i + 1) (by omega) (by rw [e8]; exact hinv) (by rw [e8]; exact hg) (by rw [e8]; exact hv) (by omega) ls _ _ (lv_sub hl [2, 0] rfl) hP hD hS
                  · refine lv_aload_n hx hb dX1_reduce_142 rfl (lv_at hl 1 rfl) ?_
                    refine lv_iload_n hx hb dX1_reduce_143 rfl (lv_at hl 0 rfl) ?_
                    refine lv_aload_n hx hb dX1_reduce_144 rfl (lv_at hl 1 rfl) ?_
                    refine x1_get S hin hK hP rfl 8 (by decide) rfl (by decide +kernel) (v := .int (nI v)) rfl dX1_reduce_145 ?_
                    refine wrv_v S (c_X1_swap l D (M := (redN P mR (q00 nC A0) i).1) F v hm c_6 (by omega) hinv) (cwV 2 hts gX1_reduce_X1_swap rfl rfl rfl (by decide +kernel) ⟨Nat.le_of_ble_eq_true rfl, Nat.le_of_ble_eq_true rfl⟩) rfl hK (ci := 1) rfl rfl hl.1 (rest := []) rfl (Nat.le_of_ble_eq_true rfl) dX1_reduce_148 ⟨Nat.zero_le _, Nat.zero_le _⟩ hP hD hS hA (fun u1 H locs eu1 hP hD hS => ?_)
                    have hP : va_P D vwCl (mdW h b1 b2 b3 b4 b5 cJ cI (lN P) (nI mR) (nI nC) vd gA gB rd v u1 g gS) H := hP
                    have hD : va_D A (mdW h b1 b2 b3 b4 b5 cJ cI (lN P) (nI mR) (nI nC) vd gA gB rd v u1 g gS) := hD
                    refine lv_aload_n hx hb dX1_reduce_151 rfl (lv_at hl 1 rfl) ?_
                    refine lv_iload_n hx hb dX1_reduce_152 rfl (lv_at hl 2 rfl) ?_
                    refine wrv_v S (c_X1_clear l D (M := swp (redN P mR (q00 nC A0) i).1 F v) i hP2 hPl hm hn c_3 (by omega) (bn_swp hok2 F v) eu1) (cwV 1 hts gX1_reduce_X1_clear rfl rfl rfl (by decide +kernel) ⟨Nat.le_of_ble_eq_true rfl, Nat.le_of_ble_eq_true rfl⟩) rfl hK (ci := 1) rfl rfl hl.1 (rest := []) rfl (Nat.le_of_ble_eq_true rfl) dX1_reduce_153 ⟨Nat.zero_le _, Nat.zero_le _⟩ hP hD hS hA (fun u2 H locs eu2 hP hD hS => ?_)
                    have hP : va_P D vwCl (mdW h b1 b2 b3 b4 b5 cJ cI (lN P) (nI mR) (nI nC) vd gA gB rd v u2 g gS) H := hP
                    have hD : va_D A (mdW h b1 b2 b3 b4 b5 cJ cI (lN P) (nI mR) (nI nC) vd gA gB rd v u2 g gS) := hD
                    refine lv_aload_n hx hb dX1_reduce_156 rfl (lv_at hl 1 rfl) ?_
                    refine x1_get S hin hK hP rfl 10 (by decide) rfl (by decide +kernel) (v := .ref b4) rfl dX1_reduce_157 ?_
                    refine lv_aload_n hx hb dX1_reduce_160 rfl (lv_at hl 1 rfl) ?_
                    refine x1_get S hin hK hP rfl 8 (by decide) rfl (by decide +kernel) (v := .int (nI v)) rfl dX1_reduce_161 ?_
                    refine lv_iload_n hx hb dX1_reduce_164 rfl (lv_at hl 2 rfl) ?_
                    refine nv_iast hx hb hK hP hD hS 4 1 rfl rfl (by omega) (by decide) dX1_reduce_165 (fun H locs hP hD hS => ?_)
                    have hP : va_P D vwCl (mdW h b1 b2 b3 b4 b5 cJ cI (lN P) (nI mR) (nI nC) vd gA gB rd v u2 (upd g v (nI i)) gS) H := hP
                    have hD : va_D A (mdW h b1 b2 b3 b4 b5 cJ cI (lN P) (nI mR) (nI nC) vd gA gB rd v u2 (upd g v (nI i)) gS) := hD
                    refine lv_aload_n hx hb dX1_reduce_166 rfl (lv_at hl 1 rfl) ?_
                    refine lv_dup hx hb dX1_reduce_167 rfl ?_
                    refine x1_get S hin hK hP rfl 8 (by decide) rfl (by decide +kernel) (v := .int (nI v)) rfl dX1_reduce_168 ?_
                    refine lv_iconst (v := nI 1) hx hb dX1_reduce_171 (by decide +kernel) ?_
                    refine nv_iadd hx hb dX1_reduce_172 ?_
                    refine x1_put S hin hK hP hD hS rfl 8 (by decide) rfl (by decide +kernel) rfl (ty := .int) (v := .int (nI (v + 1))) rfl rfl rfl (Nat.le_of_ble_eq_true rfl) dX1_reduce_173 (fun H locs hP hD hS => ?_)
                    have hP : va_P D vwCl (mdW h b1 b2 b3 b4 b5 cJ cI (lN P) (nI mR) (nI nC) vd gA gB rd (v + 1) u2 (upd g v (nI i)) gS) H := hP
                    have hD : va_D A (mdW h b1 b2 b3 b4 b5 cJ cI (lN P) (nI mR) (nI nC) vd gA gB rd (v + 1) u2 (upd g v (nI i)) gS) := hD
                    refine lv_iinc (v := nI (i + 1)) (lv' := [(1, .int (nI (i + 1))), (2, .int (nI F)), (0, .ref h)]) hx hb dX1_reduce_176 hl (k := 2) rfl (nv_inc i 1) (by decide) rfl (fun ls hl => ?_)
                    refine lv_goto (tgt := 109) hx hb dX1_reduce_179 (by decide) ?_
                    have e7 : redN P mR (q00 nC A0) i = ((redN P mR (q00 nC A0) i).1, v, (redN P mR (q00 nC A0) i).2.2.1, (redN P mR (q00 nC A0) i).2.2.2) := by rw [hv]
                    have e8 : redN P mR (q00 nC A0) (i + 1) = _ := (congrArg (redS P mR i) e7).trans (redS_yes (by omega) hF c_6)
                    exact ihL u2 (upd g v (nI i)) (v + 1) (i + 1) (by omega) (by rw [e8]; exact eu2) (by rw [e8]; exact gp_step hg) (by rw [e8]) (by omega) ls _ _ (lv_sub hl [2, 0] rfl) hP hD hS
          exact L (nC + 1) f gP 0 0 (by omega) hall (fun a ha => absurd ha (Nat.not_lt_zero a)) rfl (by omega) ls _ _ (lv_sub hl [1, 0] rfl) hP hD hS
        · refine lv_iconst (v := nI 0) hx hb dX1_reduce_24 (by decide +kernel) ?_
          refine lv_istore_n (lv' := [(2, .int (nI 0)), (0, .ref h), (1, .int (nI i))]) hx hb dX1_reduce_25 rfl hl (by decide) rfl (fun ls hl => ?_)
          have L0 : ∀ (nL0 : Nat) (f : Nat → Int64) (j : Nat), (j ≤ 10) → (Rqq i j f (G0 nC A0)) → (11 ≤ j + nL0) → ∀ (ls : Array Slot) (H : Heap) (locs : List Loc), lv_has ls 3 [(0, .ref h), (1, .int (nI i)), (2, .int (nI j))] → va_P D vwCl (mdW h b1 b2 b3 b4 b5 cJ cI (lN P) (nI mR) (nI nC) vd gA gB rd rk f gP gS) H → va_D A (mdW h b1 b2 b3 b4 b5 cJ cI (lN P) (nI mR) (nI nC) vd gA gB rd rk f gP gS) → va_S A s.heap H locs → W p l e ({ frames := 2, cells := 0, slots := 0, locals := 54 }) s mm args below meth c H locs 0 0 Q (F0 mm 26 ls []) := by
            intro nL0
            induction nL0 with
            | zero => intro f j hj hinv1 hfuel; exfalso; omega
            | succ nL0 ihL0 =>
              intro f j hj hinv1 hfuel ls H locs hl hP hD hS
              refine lv_iload_n hx hb dX1_reduce_26 rfl (lv_at hl 2 rfl) ?_
              refine lv_bipush (v := nI 10) hx hb dX1_reduce_27 (by decide +kernel) ?_
              refine nv_icmp_ge (tgt := 96) hx hb dX1_reduce_29 (by decide) (by omega) (by omega) (fun c_7 => ?_) (fun c_7 => ?_)
              · have hinv2 := hinv1.next (show j = 10 by omega)
                refine lv_iinc (v := nI (i + 1)) (lv' := [(1, .int (nI (i + 1))), (0, .ref h), (2, .int (nI j))]) hx hb dX1_reduce_96 hl (k := 1) rfl (nv_inc i 1) (by decide) rfl (fun ls hl => ?_)
                refine lv_goto (tgt := 16) hx hb dX1_reduce_99 (by decide) ?_
                exact ihL1 f (i + 1) (by omega) hinv2 (by omega) ls _ _ (lv_sub hl [1, 0] rfl) hP hD hS
              · refine lv_aload_n hx hb dX1_reduce_32 rfl (lv_at hl 0 rfl) ?_
                refine x1_get S hin hK hP rfl 9 (by decide) rfl (by decide +kernel) (v := .ref b3) rfl dX1_reduce_33 ?_
                refine lv_bipush (v := nI 20) hx hb dX1_reduce_36 (by decide +kernel) ?_
                refine lv_iload_n hx hb dX1_reduce_38 rfl (lv_at hl 1 rfl) ?_
                refine nv_imul hx hb dX1_reduce_39 ?_
                refine lv_iload_n hx hb dX1_reduce_40 rfl (lv_at hl 2 rfl) ?_
                refine nv_iadd hx hb dX1_reduce_41 ?_
                refine lv_iload_n hx hb dX1_reduce_42 rfl (lv_at hl 2 rfl) ?_
                refine lv_aload_n hx hb dX1_reduce_43 rfl (lv_at hl 0 rfl) ?_
                refine x1_get S hin hK hP rfl 3 (by decide) rfl (by decide +kernel) (v := .int (nI nC)) rfl dX1_reduce_44 ?_
                refine nv_icmp_ge (tgt := 64) hx hb dX1_reduce_47 (by decide) (by omega) (by omega) (fun c_8 => ?_) (fun c_8 => ?_)
                · refine lv_lconst (v := lN 0) hx hb dX1_reduce_64 rfl ?_
                  refine nv_last hx hb hK hP hD hS 3 0 rfl rfl (by omega) (by decide) dX1_reduce_65 (fun H locs hP hD hS => ?_)
                  have hP : va_P D vwCl (mdW h b1 b2 b3 b4 b5 cJ cI (lN P) (nI mR) (nI nC) vd gA gB rd rk (vp_updL f ((20 * i) + j) (lN 0)) gP gS) H := hP
                  have hD : va_D A (mdW h b1 b2 b3 b4 b5 cJ cI (lN P) (nI mR) (nI nC) vd gA gB rd rk (vp_updL f ((20 * i) + j) (lN 0)) gP gS) := hD
                  refine lv_aload_n hx hb dX1_reduce_66 rfl (lv_at hl 0 rfl) ?_
                  refine x1_get S hin hK hP rfl 9 (by decide) rfl (by decide +kernel) (v := .ref b3) rfl dX1_reduce_67 ?_
                  refine lv_bipush (v := nI 20) hx hb dX1_reduce_70 (by decide +kernel) ?_
                  refine lv_iload_n hx hb dX1_reduce_72 rfl (lv_at hl 1 rfl) ?_
                  refine nv_imul hx hb dX1_reduce_73 ?_
                  refine lv_bipush (v := nI 10) hx hb dX1_reduce_74 (by decide +kernel) ?_
                  refine nv_iadd hx hb dX1_reduce_76 ?_
                  refine lv_iload_n hx hb dX1_reduce_77 rfl (lv_at hl 2 rfl) ?_
                  refine nv_iadd hx hb dX1_reduce_78 ?_
                  refine lv_iload_n hx hb dX1_reduce_79 rfl (lv_at hl 1 rfl) ?_
                  refine lv_iload_n hx hb dX1_reduce_80 rfl (lv_at hl 2 rfl) ?_
                  refine nv_icmp_ne (tgt := 88) hx hb dX1_reduce_81 (by decide) (by omega) (by omega) (fun c_9 => ?_) (fun c_9 => ?_)
                  · refine lv_lconst (v := lN 0) hx hb dX1_reduce_88 rfl ?_
                    refine nv_last hx hb hK hP hD hS 3 0 rfl rfl (by omega) (by decide) dX1_reduce_89 (fun H locs hP hD hS => ?_)
                    have hP : va_P D vwCl (mdW h b1 b2 b3 b4 b5 cJ cI (lN P) (nI mR) (nI nC) vd gA gB rd rk (vp_updL (vp_updL f ((20 * i) + j) (lN 0)) (((20 * i) + 10) + j) (lN 0)) gP gS) H := hP
                    have hD : va_D A (mdW h b1 b2 b3 b4 b5 cJ cI (lN P) (nI mR) (nI nC) vd gA gB rd rk (vp_updL (vp_updL f ((20 * i) + j) (lN 0)) (((20 * i) + 10) + j) (lN 0)) gP gS) := hD
                    refine lv_iinc (v := nI (j + 1)) (lv' := [(2, .int (nI (j + 1))), (0, .ref h), (1, .int (nI i))]) hx hb dX1_reduce_90 hl (k := 2) rfl (nv_inc j 1) (by decide) rfl (fun ls hl => ?_)
                    refine lv_goto (tgt := 26) hx hb dX1_reduce_93 (by decide) ?_
                    exact ihL0 (vp_updL (vp_updL f ((20 * i) + j) (lN 0)) (((20 * i) + 10) + j) (lN 0)) (j + 1) (by omega) (hinv1.put (by omega) (by omega) (by unfold G0; rw [if_pos (by omega), if_neg (by omega)]) (by rw [G0_T, if_neg (fun z => c_9 z.symm)])) (by omega) ls _ _ (lv_sub hl [1, 2, 0] rfl) hP hD hS
                  · refine lv_lconst (v := lN 1) hx hb dX1_reduce_84 rfl ?_
                    refine lv_goto (tgt := 89) hx hb dX1_reduce_85 (by decide) ?_
                    refine nv_last hx hb hK hP hD hS 3 0 rfl rfl (by omega) (by decide) dX1_reduce_89 (fun H locs hP hD hS => ?_)
                    have hP : va_P D vwCl (mdW h b1 b2 b3 b4 b5 cJ cI (lN P) (nI mR) (nI nC) vd gA gB rd rk (vp_updL (vp_updL f ((20 * i) + j) (lN 0)) (((20 * i) + 10) + j) (lN 1)) gP gS) H := hP
                    have hD : va_D A (mdW h b1 b2 b3 b4 b5 cJ cI (lN P) (nI mR) (nI nC) vd gA gB rd rk (vp_updL (vp_updL f ((20 * i) + j) (lN 0)) (((20 * i) + 10) + j) (lN 1)) gP gS) := hD
                    refine lv_iinc (v := nI (j + 1)) (lv' := [(2, .int (nI (j + 1))), (0, .ref h), (1, .int (nI i))]) hx hb dX1_reduce_90 hl (k := 2) rfl (nv_inc j 1) (by decide) rfl (fun ls hl => ?_)
                    refine lv_goto (tgt := 26) hx hb dX1_reduce_93 (by decide) ?_
                    exact ihL0 (vp_updL (vp_updL f ((20 * i) + j) (lN 0)) (((20 * i) + 10) + j) (lN 1)) (j + 1) (by omega) (hinv1.put (by omega) (by omega) (by unfold G0; rw [if_pos (by omega), if_neg (by omega)]) (by rw [G0_T, if_pos c_9.symm])) (by omega) ls _ _ (lv_sub hl [1, 2, 0] rfl) hP hD hS
                · refine lv_aload_n hx hb dX1_reduce_50 rfl (lv_at hl 0 rfl) ?_
                  refine x1_get S hin hK hP rfl 5 (by decide) rfl (by decide +kernel) (v := .ref b1) rfl dX1_reduce_51 ?_
                  refine lv_bipush (v := nI 10) hx hb dX1_reduce_54 (by decide +kernel) ?_
                  refine lv_iload_n hx hb dX1_reduce_56 rfl (lv_at hl 1 rfl) ?_
                  refine nv_imul hx hb dX1_reduce_57 ?_
                  refine lv_iload_n hx hb dX1_reduce_58 rfl (lv_at hl 2 rfl) ?_
                  refine nv_iadd hx hb dX1_reduce_59 ?_
                  refine nv_lald hx hb hK hP 1 0 rfl rfl (v := lN (A0 i j)) (by omega) (by decide) (hA0 i (by omega) j (by omega)) dX1_reduce_60 ?_
                  refine lv_goto (tgt := 65) hx hb dX1_reduce_61 (by decide) ?_
                  refine nv_last hx hb hK hP hD hS 3 0 rfl rfl (by omega) (by decide) dX1_reduce_65 (fun H locs hP hD hS => ?_)
                  have hP : va_P D vwCl (mdW h b1 b2 b3 b4 b5 cJ cI (lN P) (nI mR) (nI nC) vd gA gB rd rk (vp_updL f ((20 * i) + j) (lN (A0 i j))) gP gS) H := hP
                  have hD : va_D A (mdW h b1 b2 b3 b4 b5 cJ cI (lN P) (nI mR) (nI nC) vd gA gB rd rk (vp_updL f ((20 * i) + j) (lN (A0 i j))) gP gS) := hD
                  refine lv_aload_n hx hb dX1_reduce_66 rfl (lv_at hl 0 rfl) ?_
                  refine x1_get S hin hK hP rfl 9 (by decide) rfl (by decide +kernel) (v := .ref b3) rfl dX1_reduce_67 ?_
                  refine lv_bipush (v := nI 20) hx hb dX1_reduce_70 (by decide +kernel) ?_
                  refine lv_iload_n hx hb dX1_reduce_72 rfl (lv_at hl 1 rfl) ?_
                  refine nv_imul hx hb dX1_reduce_73 ?_
                  refine lv_bipush (v := nI 10) hx hb dX1_reduce_74 (by decide +kernel) ?_
                  refine nv_iadd hx hb dX1_reduce_76 ?_
                  refine lv_iload_n hx hb dX1_reduce_77 rfl (lv_at hl 2 rfl) ?_
                  refine nv_iadd hx hb dX1_reduce_78 ?_
                  refine lv_iload_n hx hb dX1_reduce_79 rfl (lv_at hl 1 rfl) ?_
                  refine lv_iload_n hx hb dX1_reduce_80 rfl (lv_at hl 2 rfl) ?_
                  refine nv_icmp_ne (tgt := 88) hx hb dX1_reduce_81 (by decide) (by omega) (by omega) (fun c_10 => ?_) (fun c_10 => ?_)
                  · refine lv_lconst (v := lN 0) hx hb dX1_reduce_88 rfl ?_
                    refine nv_last hx hb hK hP hD hS 3 0 rfl rfl (by omega) (by decide) dX1_reduce_89 (fun H locs hP hD hS => ?_)
                    have hP : va_P D vwCl (mdW h b1 b2 b3 b4 b5 cJ cI (lN P) (nI mR) (nI nC) vd gA gB rd rk (vp_updL (vp_updL f ((20 * i) + j) (lN (A0 i j))) (((20 * i) + 10) + j) (lN 0)) gP gS) H := hP
                    have hD : va_D A (mdW h b1 b2 b3 b4 b5 cJ cI (lN P) (nI mR) (nI nC) vd gA gB rd rk (vp_updL (vp_updL f ((20 * i) + j) (lN (A0 i j))) (((20 * i) + 10) + j) (lN 0)) gP gS) := hD
                    refine lv_iinc (v := nI (j + 1)) (lv' := [(2, .int (nI (j + 1))), (0, .ref h), (1, .int (nI i))]) hx hb dX1_reduce_90 hl (k := 2) rfl (nv_inc j 1) (by decide) rfl (fun ls hl => ?_)
                    refine lv_goto (tgt := 26) hx hb dX1_reduce_93 (by decide) ?_
                    exact ihL0 (vp_updL (vp_updL f ((20 * i) + j) (lN (A0 i j))) (((20 * i) + 10) + j) (lN 0)) (j + 1) (by omega) (hinv1.put (by omega) (by omega) (G0_A c_8 hn).symm (by rw [G0_T, if_neg (fun z => c_10 z.symm)])) (by omega) ls _ _ (lv_sub hl [1, 2, 0] rfl) hP hD hS
                  · refine lv_lconst (v := lN 1) hx hb dX1_reduce_84 rfl ?_
                    refine lv_goto (tgt := 89) hx hb dX1_reduce_85 (by decide) ?_
                    refine nv_last hx hb hK hP hD hS 3 0 rfl rfl (by omega) (by decide) dX1_reduce_89 (fun H locs hP hD hS => ?_)
                    have hP : va_P D vwCl (mdW h b1 b2 b3 b4 b5 cJ cI (lN P) (nI mR) (nI nC) vd gA gB rd rk (vp_updL (vp_updL f ((20 * i) + j) (lN (A0 i j))) (((20 * i) + 10) + j) (lN 1)) gP gS) H := hP
                    have hD : va_D A (mdW h b1 b2 b3 b4 b5 cJ cI (lN P) (nI mR) (nI nC) vd gA gB rd rk (vp_updL (vp_updL f ((20 * i) + j) (lN (A0 i j))) (((20 * i) + 10) + j) (lN 1)) gP gS) := hD
                    refine lv_iinc (v := nI (j + 1)) (lv' := [(2, .int (nI (j + 1))), (0, .ref h), (1, .int (nI i))]) hx hb dX1_reduce_90 hl (k := 2) rfl (nv_inc j 1) (by decide) rfl (fun ls hl => ?_)
                    refine lv_goto (tgt := 26) hx hb dX1_reduce_93 (by decide) ?_
                    exact ihL0 (vp_updL (vp_updL f ((20 * i) + j) (lN (A0 i j))) (((20 * i) + 10) + j) (lN 1)) (j + 1) (by omega) (hinv1.put (by omega) (by omega) (G0_A c_8 hn).symm (by rw [G0_T, if_pos c_10.symm])) (by omega) ls _ _ (lv_sub hl [1, 2, 0] rfl) hP hD hS
          exact L0 11 f 0 (by omega) hinv (by omega) ls _ _ (lv_sub hl [1, 2, 0] rfl) hP hD hS
    exact L1 (mR + 1) gR 0 (by omega) (fun a b _ q => by omega) (by omega) ls _ _ (lv_sub hl [1, 0] rfl) hP hD hS
  · exact absurd c_1 hvd0
set_option maxHeartbeats 4000000 in
set_option maxRecDepth 100000 in
theorem c_X1_rank (l : Launch) (D : va_G) {h b1 b2 b3 b4 b5 : Nat} {cJ cI : ClassId} {gA gB : Nat → Int64} {rd rk : Nat} {gR : Nat → Int64} {gP : Nat → Int32} {gS : Nat → Int64} {pj : Int64} {mi ni : Int32} {vd P mR nC : Nat} (hrd : rd < 2) : WrI (U := Unit) l yX1_rank wsX1_rank ({ frames := 0, cells := 0, slots := 0, locals := 0 }) [.ref h] D (mdW h b1 b2 b3 b4 b5 cJ cI pj mi ni vd gA gB rd rk gR gP gS) [(cJ, .long), (cI, .int)] (fun r _ => r = sRank rd rk) (fun _ => mdW h b1 b2 b3 b4 b5 cJ cI pj mi ni vd gA gB rd rk gR gP gS) := by
  refine WrI.mk (cc := cX1_rank) (maxL := 1) (rt := .int) (by decide) rfl (Nat.le_of_ble_eq_true rfl) ?_
  intro p e s mm args below meth c Q ls A S hK hP hD hA hS hl hret
  have hx := S.1
  have hb := S.2.1
  have hts := S.2.2.2.2
  have hown := S.2.2.2.1
  have hin : ∀ w ∈ wsX10, w ∈ wsX1_rank := fun w h => List.mem_cons_of_mem _ (List.mem_append_right _ h)
  have hl : lv_has ls 1 [(0, .ref h)] := hl
  refine lv_aload_n hx hb dX1_rank_0 rfl (lv_at hl 0 rfl) ?_
  refine lv_iconst (v := nI 0) hx hb dX1_rank_1 (by decide +kernel) ?_
  refine x1_put S hin hK hP hD hS rfl 0 (by decide) rfl (by decide +kernel) rfl (ty := .int) (v := .int (nI 0)) rfl rfl rfl (Nat.le_of_ble_eq_true rfl) dX1_rank_2 (fun H locs hP hD hS => ?_)
  have hP : va_P D vwCl (mdW h b1 b2 b3 b4 b5 cJ cI pj mi ni vd gA gB rd rk gR gP gS) H := hP
  have hD : va_D A (mdW h b1 b2 b3 b4 b5 cJ cI pj mi ni vd gA gB rd rk gR gP gS) := hD
  refine lv_aload_n hx hb dX1_rank_5 rfl (lv_at hl 0 rfl) ?_
  refine x1_get S hin hK hP rfl 7 (by decide) rfl (by decide +kernel) (v := .int (nI rd)) rfl dX1_rank_6 ?_
  refine nv_if_eq (tgt := 19) hx hb dX1_rank_9 (by decide) (by omega) (fun c_1 => ?_) (fun c_1 => ?_)
  · refine lv_iconst (v := (-1)) hx hb dX1_rank_19 (by decide +kernel) ?_
    exact hret ((-1)) () 20 ls _ _ dX1_rank_20 (rfl) hP hD hS (by simp [sRank, show rd = 0 by omega])
  · refine lv_aload_n hx hb dX1_rank_12 rfl (lv_at hl 0 rfl) ?_
    refine x1_get S hin hK hP rfl 8 (by decide) rfl (by decide +kernel) (v := .int (nI rk)) rfl dX1_rank_13 ?_
    refine lv_goto (tgt := 20) hx hb dX1_rank_16 (by decide) ?_
    exact hret (nI rk) () 20 ls _ _ dX1_rank_20 (rfl) hP hD hS (by simp [sRank, show ¬ rd = 0 by omega])
set_option maxHeartbeats 4000000 in
set_option maxRecDepth 100000 in
theorem c_X1_rrefAt (l : Launch) (D : va_G) {h b1 b2 b3 b4 b5 : Nat} {cJ cI : ClassId} {gA gB : Nat → Int64} {rd rk : Nat} {gR : Nat → Int64} {gP : Nat → Int32} {gS : Nat → Int64} {pj : Int64} {mi ni : Int32} {vd P mR nC : Nat} {M : Mat} {pc : Nat → Nat} (i j : Int32) (hvd : vd < 2) (hV : vd ≠ 0 → MdV pj mi ni P mR nC) (hI : vd = 0 → mR = 0 ∧ nC = 0) (hrd : rd < 2) (hQ : rd ≠ 0 → vd ≠ 0 ∧ MdQ P mR nC rk gR gP M pc) : WrI (U := Unit) l yX1_rrefAt wsX1_rrefAt ({ frames := 1, cells := 0, slots := 0, locals := 22 }) [.ref h, .int i, .int j] D (mdW h b1 b2 b3 b4 b5 cJ cI pj mi ni vd gA gB rd rk gR gP gS) [(cJ, .long), (cI, .int)] (fun r _ => r = sRref rd mR nC M i j) (fun _ => mdW h b1 b2 b3 b4 b5 cJ cI pj mi ni vd gA gB rd rk gR gP gS) := by
  refine WrI.mk (cc := cX1_rrefAt) (maxL := 3) (rt := .int) (by decide) rfl (Nat.le_of_ble_eq_true rfl) ?_
  intro p e s mm args below meth c Q ls A S hK hP hD hA hS hl hret
  have hx := S.1
  have hb := S.2.1
  have hts := S.2.2.2.2
  have hown := S.2.2.2.1
  have hin : ∀ w ∈ wsX10, w ∈ wsX1_rrefAt := fun w h => List.mem_cons_of_mem _ (List.mem_append_right _ h)
  have hl : lv_has ls 3 [(0, .ref h), (1, .int i), (2, .int j)] := hl
  refine lv_aload_n hx hb dX1_rrefAt_0 rfl (lv_at hl 0 rfl) ?_
  refine lv_iconst (v := nI 0) hx hb dX1_rrefAt_1 (by decide +kernel) ?_
  refine x1_put S hin hK hP hD hS rfl 0 (by decide) rfl (by decide +kernel) rfl (ty := .int) (v := .int (nI 0)) rfl rfl rfl (Nat.le_of_ble_eq_true rfl) dX1_rrefAt_2 (fun H locs hP hD hS => ?_)
  have hP : va_P D vwCl (mdW h b1 b2 b3 b4 b5 cJ cI pj mi ni vd gA gB rd rk gR gP gS) H := hP
  have hD : va_D A (mdW h b1 b2 b3 b4 b5 cJ cI pj mi ni vd gA gB rd rk gR gP gS) := hD
  refine lv_aload_n hx hb dX1_rrefAt_5 rfl (lv_at hl 0 rfl) ?_
  refine x1_get S hin hK hP rfl 7 (by decide) rfl (by decide +kernel) (v := .int (nI rd)) rfl dX1_rrefAt_6 ?_
  refine nv_if_eq (tgt := 36) hx hb dX1_rrefAt_9 (by decide) (by omega) (fun c_1 => ?_) (fun c_1 => ?_)
  · refine lv_iconst (v := (-1)) hx hb dX1_rrefAt_36 (by decide +kernel) ?_
    exact hret ((-1)) () 37 ls _ _ dX1_rrefAt_37 (rfl) hP hD hS (by simp [sRref, c_1])
  · have hrd0 : rd ≠ 0 := by omega
    obtain ⟨hV0, hM, hB, hrm, hrn, hg, hpc, hcnt⟩ := hQ hrd0
    refine lv_aload_n hx hb dX1_rrefAt_12 rfl (lv_at hl 0 rfl) ?_
    refine lv_iload_n hx hb dX1_rrefAt_13 rfl (lv_at hl 1 rfl) ?_
    refine lv_iload_n hx hb dX1_rrefAt_14 rfl (lv_at hl 2 rfl) ?_
    refine rdv_i S (c_X1_isPlace l D i j hvd hV hI) (cwV 2 hts gX1_rrefAt_X1_isPlace rfl rfl rfl (by decide +kernel) ⟨Nat.le_of_ble_eq_true rfl, Nat.le_of_ble_eq_true rfl⟩) rfl hK hP (ci := 1) rfl rfl hl.1 (rest := []) rfl (Nat.le_of_ble_eq_true rfl) dX1_rrefAt_15 ⟨Nat.zero_le _, Nat.zero_le _⟩ hP hS hA (fun r_2 H locs er_2 hP hS => ?_)
    rcases er_2 with ⟨k1, k2, hk1, hk2, rfl, rfl, hV1, rfl⟩ | ⟨hno, rfl⟩
    · have hV9 := hV hV1
      obtain ⟨rfl, rfl, rfl, hP2, hPl, hm1, hm, hn1, hn⟩ := hV9
      refine nv_if_eq (tgt := 36) hx hb dX1_rrefAt_18 (by decide) (by decide) (fun q => absurd q (by decide)) (fun _ => ?_)
      refine lv_aload_n hx hb dX1_rrefAt_21 rfl (lv_at hl 0 rfl) ?_
      refine x1_get S hin hK hP rfl 9 (by decide) rfl (by decide +kernel) (v := .ref b3) rfl dX1_rrefAt_22 ?_
      refine lv_bipush (v := nI 20) hx hb dX1_rrefAt_25 (by decide +kernel) ?_
      refine lv_iload_n hx hb dX1_rrefAt_27 rfl (lv_at hl 1 rfl) ?_
      refine nv_imul hx hb dX1_rrefAt_28 ?_
      refine lv_iload_n hx hb dX1_rrefAt_29 rfl (lv_at hl 2 rfl) ?_
      refine nv_iadd hx hb dX1_rrefAt_30 ?_
      refine nv_lald hx hb hK hP 3 0 rfl rfl (v := lN (M k1 k2)) (by omega) (by decide) (hM k1 hk1 k2 (by omega)) dX1_rrefAt_31 ?_
      refine nv_l2i hx hb dX1_rrefAt_32 ?_
      refine lv_goto (tgt := 37) hx hb dX1_rrefAt_33 (by decide) ?_
      exact hret (nI (M k1 k2)) () 37 ls _ _ dX1_rrefAt_37 (rfl) hP hD hS (by simp [sRref, hrd0, inb_t hk1 (show mR < 2 ^ 31 by omega), inb_t hk2 (show nC < 2 ^ 31 by omega), ix_n (show k1 < 2 ^ 31 by omega), ix_n (show k2 < 2 ^ 31 by omega)])
    · refine nv_if_eq (tgt := 36) hx hb dX1_rrefAt_18 (by decide) (by decide) (fun _ => ?_) (fun q => absurd q (by decide))
      refine lv_iconst (v := (-1)) hx hb dX1_rrefAt_36 (by decide +kernel) ?_
      exact hret ((-1)) () 37 ls _ _ dX1_rrefAt_37 (rfl) hP hD hS (by
          unfold sRref
          rw [if_neg (fun z => hno z.2)])
set_option maxHeartbeats 4000000 in
set_option maxRecDepth 100000 in
theorem c_X1_transformAt (l : Launch) (D : va_G) {h b1 b2 b3 b4 b5 : Nat} {cJ cI : ClassId} {gA gB : Nat → Int64} {rd rk : Nat} {gR : Nat → Int64} {gP : Nat → Int32} {gS : Nat → Int64} {pj : Int64} {mi ni : Int32} {vd P mR nC : Nat} {M : Mat} {pc : Nat → Nat} (i j : Int32) (hvd : vd < 2) (hV : vd ≠ 0 → MdV pj mi ni P mR nC) (hI : vd = 0 → mR = 0 ∧ nC = 0) (hrd : rd < 2) (hQ : rd ≠ 0 → vd ≠ 0 ∧ MdQ P mR nC rk gR gP M pc) : WrI (U := Unit) l yX1_transformAt wsX1_transformAt ({ frames := 1, cells := 0, slots := 0, locals := 22 }) [.ref h, .int i, .int j] D (mdW h b1 b2 b3 b4 b5 cJ cI pj mi ni vd gA gB rd rk gR gP gS) [(cJ, .long), (cI, .int)] (fun r _ => r = sTr rd mR M i j) (fun _ => mdW h b1 b2 b3 b4 b5 cJ cI pj mi ni vd gA gB rd rk gR gP gS) := by
  refine WrI.mk (cc := cX1_transformAt) (maxL := 3) (rt := .int) (by decide) rfl (Nat.le_of_ble_eq_true rfl) ?_
  intro p e s mm args below meth c Q ls A S hK hP hD hA hS hl hret
  have hx := S.1
  have hb := S.2.1
  have hts := S.2.2.2.2
  have hown := S.2.2.2.1
  have hin : ∀ w ∈ wsX10, w ∈ wsX1_transformAt := fun w h => List.mem_cons_of_mem _ (List.mem_append_right _ h)
  have hl : lv_has ls 3 [(0, .ref h), (1, .int i), (2, .int j)] := hl
  refine lv_aload_n hx hb dX1_transformAt_0 rfl (lv_at hl 0 rfl) ?_
  refine lv_iconst (v := nI 0) hx hb dX1_transformAt_1 (by decide +kernel) ?_
  refine x1_put S hin hK hP hD hS rfl 0 (by decide) rfl (by decide +kernel) rfl (ty := .int) (v := .int (nI 0)) rfl rfl rfl (Nat.le_of_ble_eq_true rfl) dX1_transformAt_2 (fun H locs hP hD hS => ?_)
  have hP : va_P D vwCl (mdW h b1 b2 b3 b4 b5 cJ cI pj mi ni vd gA gB rd rk gR gP gS) H := hP
  have hD : va_D A (mdW h b1 b2 b3 b4 b5 cJ cI pj mi ni vd gA gB rd rk gR gP gS) := hD
  refine lv_aload_n hx hb dX1_transformAt_5 rfl (lv_at hl 0 rfl) ?_
  refine x1_get S hin hK hP rfl 7 (by decide) rfl (by decide +kernel) (v := .int (nI rd)) rfl dX1_transformAt_6 ?_
  refine nv_if_eq (tgt := 39) hx hb dX1_transformAt_9 (by decide) (by omega) (fun c_1 => ?_) (fun c_1 => ?_)
  · refine lv_iconst (v := (-1)) hx hb dX1_transformAt_39 (by decide +kernel) ?_
    exact hret ((-1)) () 40 ls _ _ dX1_transformAt_40 (rfl) hP hD hS (by simp [sTr, c_1])
  · have hrd0 : rd ≠ 0 := by omega
    obtain ⟨hV0, hM, hB, hrm, hrn, hg, hpc, hcnt⟩ := hQ hrd0
    refine lv_aload_n hx hb dX1_transformAt_12 rfl (lv_at hl 0 rfl) ?_
    refine lv_iload_n hx hb dX1_transformAt_13 rfl (lv_at hl 1 rfl) ?_
    refine lv_iload_n hx hb dX1_transformAt_14 rfl (lv_at hl 2 rfl) ?_
    refine rdv_i S (c_X1_isSquare l D i j hvd hV hI) (cwV 2 hts gX1_transformAt_X1_isSquare rfl rfl rfl (by decide +kernel) ⟨Nat.le_of_ble_eq_true rfl, Nat.le_of_ble_eq_true rfl⟩) rfl hK hP (ci := 1) rfl rfl hl.1 (rest := []) rfl (Nat.le_of_ble_eq_true rfl) dX1_transformAt_15 ⟨Nat.zero_le _, Nat.zero_le _⟩ hP hS hA (fun r_2 H locs er_2 hP hS => ?_)
    rcases er_2 with ⟨k1, k2, hk1, hk2, rfl, rfl, hV1, rfl⟩ | ⟨hno, rfl⟩
    · have hV9 := hV hV1
      obtain ⟨rfl, rfl, rfl, hP2, hPl, hm1, hm, hn1, hn⟩ := hV9
      refine nv_if_eq (tgt := 39) hx hb dX1_transformAt_18 (by decide) (by decide) (fun q => absurd q (by decide)) (fun _ => ?_)
      refine lv_aload_n hx hb dX1_transformAt_21 rfl (lv_at hl 0 rfl) ?_
      refine x1_get S hin hK hP rfl 9 (by decide) rfl (by decide +kernel) (v := .ref b3) rfl dX1_transformAt_22 ?_
      refine lv_bipush (v := nI 20) hx hb dX1_transformAt_25 (by decide +kernel) ?_
      refine lv_iload_n hx hb dX1_transformAt_27 rfl (lv_at hl 1 rfl) ?_
      refine nv_imul hx hb dX1_transformAt_28 ?_
      refine lv_bipush (v := nI 10) hx hb dX1_transformAt_29 (by decide +kernel) ?_
      refine nv_iadd hx hb dX1_transformAt_31 ?_
      refine lv_iload_n hx hb dX1_transformAt_32 rfl (lv_at hl 2 rfl) ?_
      refine nv_iadd hx hb dX1_transformAt_33 ?_
      refine nv_lald hx hb hK hP 3 0 rfl rfl (v := lN (M k1 (10 + k2))) (by omega) (by decide) (by rw [Nat.add_assoc]; exact hM k1 hk1 (10 + k2) (by omega)) dX1_transformAt_34 ?_
      refine nv_l2i hx hb dX1_transformAt_35 ?_
      refine lv_goto (tgt := 40) hx hb dX1_transformAt_36 (by decide) ?_
      exact hret (nI (M k1 (10 + k2))) () 40 ls _ _ dX1_transformAt_40 (rfl) hP hD hS (by simp [sTr, hrd0, inb_t hk1 (show mR < 2 ^ 31 by omega), inb_t hk2 (show mR < 2 ^ 31 by omega), ix_n (show k1 < 2 ^ 31 by omega), ix_n (show k2 < 2 ^ 31 by omega)])
    · refine nv_if_eq (tgt := 39) hx hb dX1_transformAt_18 (by decide) (by decide) (fun _ => ?_) (fun q => absurd q (by decide))
      refine lv_iconst (v := (-1)) hx hb dX1_transformAt_39 (by decide +kernel) ?_
      exact hret ((-1)) () 40 ls _ _ dX1_transformAt_40 (rfl) hP hD hS (by
          unfold sTr
          rw [if_neg (fun z => hno z.2)])
set_option maxHeartbeats 4000000 in
set_option maxRecDepth 100000 in
theorem c_X1_inverseAt (l : Launch) (D : va_G) {h b1 b2 b3 b4 b5 : Nat} {cJ cI : ClassId} {gA gB : Nat → Int64} {rd rk : Nat} {gR : Nat → Int64} {gP : Nat → Int32} {gS : Nat → Int64} {pj : Int64} {mi ni : Int32} {vd P mR nC : Nat} {M : Mat} {pc : Nat → Nat} (i j : Int32) (hvd : vd < 2) (hV : vd ≠ 0 → MdV pj mi ni P mR nC) (hI : vd = 0 → mR = 0 ∧ nC = 0) (hrd : rd < 2) (hQ : rd ≠ 0 → vd ≠ 0 ∧ MdQ P mR nC rk gR gP M pc) : WrI (U := Unit) l yX1_inverseAt wsX1_inverseAt ({ frames := 1, cells := 0, slots := 0, locals := 22 }) [.ref h, .int i, .int j] D (mdW h b1 b2 b3 b4 b5 cJ cI pj mi ni vd gA gB rd rk gR gP gS) [(cJ, .long), (cI, .int)] (fun r _ => r = sInv rd mR nC rk M i j) (fun _ => mdW h b1 b2 b3 b4 b5 cJ cI pj mi ni vd gA gB rd rk gR gP gS) := by
  refine WrI.mk (cc := cX1_inverseAt) (maxL := 3) (rt := .int) (by decide) rfl (Nat.le_of_ble_eq_true rfl) ?_
  intro p e s mm args below meth c Q ls A S hK hP hD hA hS hl hret
  have hx := S.1
  have hb := S.2.1
  have hts := S.2.2.2.2
  have hown := S.2.2.2.1
  have hin : ∀ w ∈ wsX10, w ∈ wsX1_inverseAt := fun w h => List.mem_cons_of_mem _ (List.mem_append_right _ h)
  have hl : lv_has ls 3 [(0, .ref h), (1, .int i), (2, .int j)] := hl
  refine lv_aload_n hx hb dX1_inverseAt_0 rfl (lv_at hl 0 rfl) ?_
  refine lv_iconst (v := nI 0) hx hb dX1_inverseAt_1 (by decide +kernel) ?_
  refine x1_put S hin hK hP hD hS rfl 0 (by decide) rfl (by decide +kernel) rfl (ty := .int) (v := .int (nI 0)) rfl rfl rfl (Nat.le_of_ble_eq_true rfl) dX1_inverseAt_2 (fun H locs hP hD hS => ?_)
  have hP : va_P D vwCl (mdW h b1 b2 b3 b4 b5 cJ cI pj mi ni vd gA gB rd rk gR gP gS) H := hP
  have hD : va_D A (mdW h b1 b2 b3 b4 b5 cJ cI pj mi ni vd gA gB rd rk gR gP gS) := hD
  refine lv_aload_n hx hb dX1_inverseAt_5 rfl (lv_at hl 0 rfl) ?_
  refine x1_get S hin hK hP rfl 7 (by decide) rfl (by decide +kernel) (v := .int (nI rd)) rfl dX1_inverseAt_6 ?_
  refine nv_if_eq (tgt := 61) hx hb dX1_inverseAt_9 (by decide) (by omega) (fun c_1 => ?_) (fun c_1 => ?_)
  · refine lv_iconst (v := (-1)) hx hb dX1_inverseAt_61 (by decide +kernel) ?_
    exact hret ((-1)) () 62 ls _ _ dX1_inverseAt_62 (rfl) hP hD hS (by simp [sInv, c_1])
  · have hrd0 : rd ≠ 0 := by omega
    obtain ⟨hV0, hM, hB, hrm, hrn, hg, hpc, hcnt⟩ := hQ hrd0
    have hV9 := hV hV0
    obtain ⟨rfl, rfl, rfl, hP2, hPl, hm1, hm, hn1, hn⟩ := hV9
    refine lv_aload_n hx hb dX1_inverseAt_12 rfl (lv_at hl 0 rfl) ?_
    refine x1_get S hin hK hP rfl 2 (by decide) rfl (by decide +kernel) (v := .int (nI mR)) rfl dX1_inverseAt_13 ?_
    refine lv_aload_n hx hb dX1_inverseAt_16 rfl (lv_at hl 0 rfl) ?_
    refine x1_get S hin hK hP rfl 3 (by decide) rfl (by decide +kernel) (v := .int (nI nC)) rfl dX1_inverseAt_17 ?_
    refine nv_icmp_ne (tgt := 61) hx hb dX1_inverseAt_20 (by decide) (by omega) (by omega) (fun c_2 => ?_) (fun c_2 => ?_)
    · refine lv_iconst (v := (-1)) hx hb dX1_inverseAt_61 (by decide +kernel) ?_
      exact hret ((-1)) () 62 ls _ _ dX1_inverseAt_62 (rfl) hP hD hS (by simp [sInv, c_2])
    · refine lv_aload_n hx hb dX1_inverseAt_23 rfl (lv_at hl 0 rfl) ?_
      refine x1_get S hin hK hP rfl 8 (by decide) rfl (by decide +kernel) (v := .int (nI rk)) rfl dX1_inverseAt_24 ?_
      refine lv_aload_n hx hb dX1_inverseAt_27 rfl (lv_at hl 0 rfl) ?_
      refine x1_get S hin hK hP rfl 3 (by decide) rfl (by decide +kernel) (v := .int (nI nC)) rfl dX1_inverseAt_28 ?_
      refine nv_icmp_ne (tgt := 61) hx hb dX1_inverseAt_31 (by decide) (by omega) (by omega) (fun c_3 => ?_) (fun c_3 => ?_)
      · refine lv_iconst (v := (-1)) hx hb dX1_inverseAt_61 (by decide +kernel) ?_
        exact hret ((-1)) () 62 ls _ _ dX1_inverseAt_62 (rfl) hP hD hS (by simp [sInv, c_3])
      · refine lv_aload_n hx hb dX1_inverseAt_34 rfl (lv_at hl 0 rfl) ?_
        refine lv_iload_n hx hb dX1_inverseAt_35 rfl (lv_at hl 1 rfl) ?_
        refine lv_iload_n hx hb dX1_inverseAt_36 rfl (lv_at hl 2 rfl) ?_
        refine rdv_i S (c_X1_isSquare l D i j hvd hV hI) (cwV 2 hts gX1_inverseAt_X1_isSquare rfl rfl rfl (by decide +kernel) ⟨Nat.le_of_ble_eq_true rfl, Nat.le_of_ble_eq_true rfl⟩) rfl hK hP (ci := 1) rfl rfl hl.1 (rest := []) rfl (Nat.le_of_ble_eq_true rfl) dX1_inverseAt_37 ⟨Nat.zero_le _, Nat.zero_le _⟩ hP hS hA (fun r_4 H locs er_4 hP hS => ?_)
        rcases er_4 with ⟨k1, k2, hk1, hk2, rfl, rfl, hV1, rfl⟩ | ⟨hno, rfl⟩
        · refine nv_if_eq (tgt := 61) hx hb dX1_inverseAt_40 (by decide) (by decide) (fun q => absurd q (by decide)) (fun _ => ?_)
          refine lv_aload_n hx hb dX1_inverseAt_43 rfl (lv_at hl 0 rfl) ?_
          refine x1_get S hin hK hP rfl 9 (by decide) rfl (by decide +kernel) (v := .ref b3) rfl dX1_inverseAt_44 ?_
          refine lv_bipush (v := nI 20) hx hb dX1_inverseAt_47 (by decide +kernel) ?_
          refine lv_iload_n hx hb dX1_inverseAt_49 rfl (lv_at hl 1 rfl) ?_
          refine nv_imul hx hb dX1_inverseAt_50 ?_
          refine lv_bipush (v := nI 10) hx hb dX1_inverseAt_51 (by decide +kernel) ?_
          refine nv_iadd hx hb dX1_inverseAt_53 ?_
          refine lv_iload_n hx hb dX1_inverseAt_54 rfl (lv_at hl 2 rfl) ?_
          refine nv_iadd hx hb dX1_inverseAt_55 ?_
          refine nv_lald hx hb hK hP 3 0 rfl rfl (v := lN (M k1 (10 + k2))) (by omega) (by decide) (by rw [Nat.add_assoc]; exact hM k1 hk1 (10 + k2) (by omega)) dX1_inverseAt_56 ?_
          refine nv_l2i hx hb dX1_inverseAt_57 ?_
          refine lv_goto (tgt := 62) hx hb dX1_inverseAt_58 (by decide) ?_
          exact hret (nI (M k1 (10 + k2))) () 62 ls _ _ dX1_inverseAt_62 (rfl) hP hD hS (by
              unfold sInv
              rw [if_pos ⟨⟨hrd0, c_2, c_3⟩, inb_t hk1 (by omega), inb_t hk2 (by omega)⟩, ix_n (show k1 < 2 ^ 31 by omega), ix_n (show k2 < 2 ^ 31 by omega)])
        · refine nv_if_eq (tgt := 61) hx hb dX1_inverseAt_40 (by decide) (by decide) (fun _ => ?_) (fun q => absurd q (by decide))
          refine lv_iconst (v := (-1)) hx hb dX1_inverseAt_61 (by decide +kernel) ?_
          exact hret ((-1)) () 62 ls _ _ dX1_inverseAt_62 (rfl) hP hD hS (by
              unfold sInv
              rw [if_neg (fun z => hno z.2)])
set_option maxHeartbeats 4000000 in
set_option maxRecDepth 100000 in
theorem c_X1_changed (l : Launch) (D : va_G) {h b1 b2 b3 b4 b5 : Nat} {cJ cI : ClassId} {gA gB : Nat → Int64} {rd rk : Nat} {gR : Nat → Int64} {gP : Nat → Int32} {gS : Nat → Int64} {vd P mR nC : Nat} {M : Mat} {b : Nat → Nat} (ro : Nat) (hP2 : 2 ≤ P) (hPl : P < 2 ^ 31) (hm : mR ≤ 10) (hn : nC ≤ 10) (h1 : ro < mR) (hB : bnd P M) (hM : Rq mR gR M) (hbb : ∀ i, b i < P) (hb1 : ∀ i, i < mR → gB i = lN (b i)) : RdL l yX1_changed wsX1_changed ({ frames := 0, cells := 0, slots := 0, locals := 0 }) [.ref h, .int (nI ro)] D (mdW h b1 b2 b3 b4 b5 cJ cI (lN P) (nI mR) (nI nC) vd gA gB rd rk gR gP gS) [(cJ, .long), (cI, .int)] (fun r => r = lN (chg P (fun k => M ro (10 + k)) b mR)) := by
  refine RdL.mk (cc := cX1_changed) (maxL := 5) (by decide) rfl (Nat.le_of_ble_eq_true rfl) ?_
  intro p e s mm args below meth c Q ls A S hK hP hA hS hl hret
  have hx := S.1
  have hb := S.2.1
  have hts := S.2.2.2.2
  have hown := S.2.2.2.1
  have hin : ∀ w ∈ wsX10, w ∈ wsX1_changed := fun w h => List.mem_cons_of_mem _ (List.mem_append_right _ h)
  have hl : lv_has ls 5 [(0, .ref h), (1, .int (nI ro))] := hl
  refine lv_lconst (v := lN 0) hx hb dX1_changed_0 rfl ?_
  refine lv_lstore_n (lv' := [(2, .long (lN 0)), (0, .ref h), (1, .int (nI ro))]) hx hb dX1_changed_1 rfl hl (by decide) rfl (fun ls hl => ?_)
  refine lv_iconst (v := nI 0) hx hb dX1_changed_2 (by decide +kernel) ?_
  refine lv_istore (lv' := [(4, .int (nI 0)), (2, .long (lN 0)), (0, .ref h), (1, .int (nI ro))]) hx hb dX1_changed_3 hl (by decide) rfl (fun ls hl => ?_)
  have L : ∀ (nL : Nat) (i : Nat), (i ≤ mR) → (mR + 1 ≤ i + nL) → ∀ (ls : Array Slot) (H : Heap) (locs : List Loc), lv_has ls 5 [(0, .ref h), (1, .int (nI ro)), (2, .long (lN (chg P (fun k => M ro (10 + k)) b i))), (4, .int (nI i))] → va_P D vwCl (mdW h b1 b2 b3 b4 b5 cJ cI (lN P) (nI mR) (nI nC) vd gA gB rd rk gR gP gS) H → va_S A s.heap H locs → W p l e ({ frames := 0, cells := 0, slots := 0, locals := 0 }) s mm args below meth c H locs 0 0 Q (F0 mm 5 ls []) := by
    intro nL
    induction nL with
    | zero => intro i hi hfuel; exfalso; omega
    | succ nL ihL =>
      intro i hi hfuel ls H locs hl hP hS
      refine lv_iload hx hb dX1_changed_5 (lv_at hl 3 rfl) ?_
      refine lv_aload_n hx hb dX1_changed_7 rfl (lv_at hl 0 rfl) ?_
      refine x1_get S hin hK hP rfl 2 (by decide) rfl (by decide +kernel) (v := .int (nI mR)) rfl dX1_changed_8 ?_
      refine nv_icmp_ge (tgt := 51) hx hb dX1_changed_11 (by decide) (by omega) (by omega) (fun c_1 => ?_) (fun c_1 => ?_)
      · refine lv_lload_n hx hb dX1_changed_51 rfl (lv_at hl 2 rfl) ?_
        exact hret (lN (chg P (fun k => M ro (10 + k)) b i)) 52 ls _ _ dX1_changed_52 hS (by rw [show i = mR by omega])
      · have hb2 := hB ro (10 + i)
        have hb3 := hbb i
        have hb4 := chg_lt (show 0 < P by omega) (fun k => M ro (10 + k)) b i
        refine lv_lload_n hx hb dX1_changed_14 rfl (lv_at hl 2 rfl) ?_
        refine lv_aload_n hx hb dX1_changed_15 rfl (lv_at hl 0 rfl) ?_
        refine x1_get S hin hK hP rfl 9 (by decide) rfl (by decide +kernel) (v := .ref b3) rfl dX1_changed_16 ?_
        refine lv_bipush (v := nI 20) hx hb dX1_changed_19 (by decide +kernel) ?_
        refine lv_iload_n hx hb dX1_changed_21 rfl (lv_at hl 1 rfl) ?_
        refine nv_imul hx hb dX1_changed_22 ?_
        refine lv_bipush (v := nI 10) hx hb dX1_changed_23 (by decide +kernel) ?_
        refine nv_iadd hx hb dX1_changed_25 ?_
        refine lv_iload hx hb dX1_changed_26 (lv_at hl 3 rfl) ?_
        refine nv_iadd hx hb dX1_changed_28 ?_
        refine nv_lald hx hb hK hP 3 0 rfl rfl (v := lN (M ro (10 + i))) (by omega) (by decide) (by rw [Nat.add_assoc]; exact hM ro h1 (10 + i) (by omega)) dX1_changed_29 ?_
        refine lv_aload_n hx hb dX1_changed_30 rfl (lv_at hl 0 rfl) ?_
        refine x1_get S hin hK hP rfl 6 (by decide) rfl (by decide +kernel) (v := .ref b2) rfl dX1_changed_31 ?_
        refine lv_iload hx hb dX1_changed_34 (lv_at hl 3 rfl) ?_
        refine nv_lald hx hb hK hP 2 0 rfl rfl (v := lN (b i)) (by omega) (by decide) (hb1 i (by omega)) dX1_changed_36 ?_
        refine nv_lmul hx hb dX1_changed_37 ?_
        refine nv_ladd hx hb dX1_changed_38 ?_
        refine lv_aload_n hx hb dX1_changed_39 rfl (lv_at hl 0 rfl) ?_
        refine x1_get S hin hK hP rfl 1 (by decide) rfl (by decide +kernel) (v := .long (lN P)) rfl dX1_changed_40 ?_
        refine nv_lrem hx hb (mul_b2 (by omega) (by omega) (by omega)) (by omega) (by omega) dX1_changed_43 ?_
        refine lv_lstore_n (lv' := [(2, .long (lN (((chg P (fun k => M ro (10 + k)) b i) + ((M ro (10 + i)) * (b i))) % P))), (0, .ref h), (1, .int (nI ro)), (4, .int (nI i))]) hx hb dX1_changed_44 rfl hl (by decide) rfl (fun ls hl => ?_)
        refine lv_iinc (v := nI (i + 1)) (lv' := [(4, .int (nI (i + 1))), (2, .long (lN (((chg P (fun k => M ro (10 + k)) b i) + ((M ro (10 + i)) * (b i))) % P))), (0, .ref h), (1, .int (nI ro))]) hx hb dX1_changed_45 hl (k := 3) rfl (nv_inc i 1) (by decide) rfl (fun ls hl => ?_)
        refine lv_goto (tgt := 5) hx hb dX1_changed_48 (by decide) ?_
        exact ihL (i + 1) (by omega) (by omega) ls _ _ (lv_sub hl [2, 3, 1, 0] rfl) hP hS
  exact L (mR + 1) 0 (by omega) (by omega) ls _ _ (lv_sub hl [2, 3, 1, 0] rfl) hP hS
set_option maxHeartbeats 4000000 in
set_option maxRecDepth 100000 in
theorem c_X1_isSolvable (l : Launch) (D : va_G) {h b1 b2 b3 b4 b5 : Nat} {cJ cI : ClassId} {gA gB : Nat → Int64} {rd rk : Nat} {gR : Nat → Int64} {gP : Nat → Int32} {gS : Nat → Int64} {pj : Int64} {mi ni : Int32} {vd P mR nC : Nat} {M : Mat} {pc : Nat → Nat} {b : Nat → Nat} (hvd : vd < 2) (hV : vd ≠ 0 → MdV pj mi ni P mR nC) (hI : vd = 0 → mR = 0 ∧ nC = 0) (hrd : rd < 2) (hQ : rd ≠ 0 → vd ≠ 0 ∧ MdQ P mR nC rk gR gP M pc) (hbb : vd ≠ 0 → ∀ i, b i < P) (hb1 : ∀ i, i < mR → gB i = lN (b i)) : RdI l yX1_isSolvable wsX1_isSolvable ({ frames := 1, cells := 0, slots := 0, locals := 24 }) [.ref h] D (mdW h b1 b2 b3 b4 b5 cJ cI pj mi ni vd gA gB rd rk gR gP gS) [(cJ, .long), (cI, .int)] (fun r => r = sSlv rd P mR M b rk) := by
  refine RdI.mk (cc := cX1_isSolvable) (maxL := 3) (rt := .boolean) (by decide) rfl (Nat.le_of_ble_eq_true rfl) ?_
  intro p e s mm args below meth c Q ls A S hK hP hA hS hl hret
  have hx := S.1
  have hb := S.2.1
  have hts := S.2.2.2.2
  have hown := S.2.2.2.1
  have hin : ∀ w ∈ wsX10, w ∈ wsX1_isSolvable := fun w h => List.mem_cons_of_mem _ (List.mem_append_right _ h)
  have hl : lv_has ls 3 [(0, .ref h)] := hl
  by_cases hr0 : rd = 0
  · subst hr0
    refine lv_aload_n hx hb dX1_isSolvable_0 rfl (lv_at hl 0 rfl) ?_
    refine x1_get S hin hK hP rfl 7 (by decide) rfl (by decide +kernel) (v := .int (nI 0)) rfl dX1_isSolvable_1 ?_
    refine lv_istore_n (lv' := [(1, .int (nI 0)), (0, .ref h)]) hx hb dX1_isSolvable_4 rfl hl (by decide) rfl (fun ls hl => ?_)
    refine lv_aload_n hx hb dX1_isSolvable_5 rfl (lv_at hl 1 rfl) ?_
    refine x1_get S hin hK hP rfl 8 (by decide) rfl (by decide +kernel) (v := .int (nI rk)) rfl dX1_isSolvable_6 ?_
    refine lv_istore_n (lv' := [(2, .int (nI rk)), (1, .int (nI 0)), (0, .ref h)]) hx hb dX1_isSolvable_9 rfl hl (by decide) rfl (fun ls hl => ?_)
    refine lv_iload_n hx hb dX1_isSolvable_10 rfl (lv_at hl 0 rfl) ?_
    refine lv_aload_n hx hb dX1_isSolvable_11 rfl (lv_at hl 2 rfl) ?_
    refine x1_get S hin hK hP rfl 2 (by decide) rfl (by decide +kernel) (v := .int mi) rfl dX1_isSolvable_12 ?_
    refine lv_icmp_ge (tgt := 44) hx hb dX1_isSolvable_15 (by decide) (fun c_1 => ?_) (fun c_1 => ?_)
    · refine lv_iload_n hx hb dX1_isSolvable_44 rfl (lv_at hl 1 rfl) ?_
      exact hret (nI 0) 45 ls _ _ dX1_isSolvable_45 (by decide +kernel) hS (by simp [sSlv])
    · refine lv_iload_n hx hb dX1_isSolvable_18 rfl (lv_at hl 1 rfl) ?_
      refine nv_if_eq (tgt := 44) hx hb dX1_isSolvable_19 (by decide) (by decide) (fun _ => ?_) (fun q => absurd q (by decide))
      refine lv_iload_n hx hb dX1_isSolvable_44 rfl (lv_at hl 1 rfl) ?_
      exact hret (nI 0) 45 ls _ _ dX1_isSolvable_45 (by decide +kernel) hS (by simp [sSlv])
  · have hrd0 : rd ≠ 0 := by omega
    obtain ⟨hV0, hM, hB, hrm, hrn, hg, hpc, hcnt⟩ := hQ hrd0
    have hV9 := hV hV0
    obtain ⟨rfl, rfl, rfl, hP2, hPl, hm1, hm, hn1, hn⟩ := hV9
    have hr1 : rd = 1 := by omega
    subst hr1
    refine lv_aload_n hx hb dX1_isSolvable_0 rfl (lv_at hl 0 rfl) ?_
    refine x1_get S hin hK hP rfl 7 (by decide) rfl (by decide +kernel) (v := .int (nI 1)) rfl dX1_isSolvable_1 ?_
    refine lv_istore_n (lv' := [(1, .int (nI 1)), (0, .ref h)]) hx hb dX1_isSolvable_4 rfl hl (by decide) rfl (fun ls hl => ?_)
    refine lv_aload_n hx hb dX1_isSolvable_5 rfl (lv_at hl 1 rfl) ?_
    refine x1_get S hin hK hP rfl 8 (by decide) rfl (by decide +kernel) (v := .int (nI rk)) rfl dX1_isSolvable_6 ?_
    refine lv_istore_n (lv' := [(2, .int (nI rk)), (1, .int (nI 1)), (0, .ref h)]) hx hb dX1_isSolvable_9 rfl hl (by decide) rfl (fun ls hl => ?_)
    have L : ∀ (nL : Nat) (i : Nat), (i ≤ mR) → (allz (fun row => chg P (fun k => M row (10 + k)) b mR) (mR - i) i = slv P mR M b rk) → (mR + 1 ≤ i + nL) → ∀ (ls : Array Slot) (H : Heap) (locs : List Loc), lv_has ls 3 [(0, .ref h), (1, .int (nI 1)), (2, .int (nI i))] → va_P D vwCl (mdW h b1 b2 b3 b4 b5 cJ cI (lN P) (nI mR) (nI nC) vd gA gB 1 rk gR gP gS) H → va_S A s.heap H locs → W p l e ({ frames := 1, cells := 0, slots := 0, locals := 24 }) s mm args below meth c H locs 0 0 Q (F0 mm 10 ls []) := by
      intro nL
      induction nL with
      | zero => intro i hi hinv hfuel; exfalso; omega
      | succ nL ihL =>
        intro i hi hinv hfuel ls H locs hl hP hS
        refine lv_iload_n hx hb dX1_isSolvable_10 rfl (lv_at hl 2 rfl) ?_
        refine lv_aload_n hx hb dX1_isSolvable_11 rfl (lv_at hl 0 rfl) ?_
        refine x1_get S hin hK hP rfl 2 (by decide) rfl (by decide +kernel) (v := .int (nI mR)) rfl dX1_isSolvable_12 ?_
        refine nv_icmp_ge (tgt := 44) hx hb dX1_isSolvable_15 (by decide) (by omega) (by omega) (fun c_3 => ?_) (fun c_3 => ?_)
        · refine lv_iload_n hx hb dX1_isSolvable_44 rfl (lv_at hl 1 rfl) ?_
          exact hret (nI 1) 45 ls _ _ dX1_isSolvable_45 (by decide +kernel) hS (by
              have e1 : slv P mR M b rk = true := by rw [← hinv]; exact allz_e c_3
              simp [sSlv, e1])
        · refine lv_iload_n hx hb dX1_isSolvable_18 rfl (lv_at hl 1 rfl) ?_
          refine nv_if_eq (tgt := 44) hx hb dX1_isSolvable_19 (by decide) (by decide) (fun q => absurd q (by decide)) (fun _ => ?_)
          refine lv_aload_n hx hb dX1_isSolvable_22 rfl (lv_at hl 0 rfl) ?_
          refine lv_iload_n hx hb dX1_isSolvable_23 rfl (lv_at hl 2 rfl) ?_
          refine rdv_l S (c_X1_changed l D (M := M) (b := b) i hP2 hPl hm hn (by omega) hB hM (hbb hV0) hb1) (cwV 1 hts gX1_isSolvable_X1_changed rfl rfl rfl (by decide +kernel) ⟨Nat.le_of_ble_eq_true rfl, Nat.le_of_ble_eq_true rfl⟩) rfl hK hP (ci := 1) rfl rfl hl.1 (rest := []) rfl (Nat.le_of_ble_eq_true rfl) dX1_isSolvable_24 ⟨Nat.zero_le _, Nat.zero_le _⟩ hP hS hA (fun r_5 H locs er_5 hP hS => ?_)
          subst er_5
          refine lv_lconst (v := lN 0) hx hb dX1_isSolvable_27 rfl ?_
          refine nv_lcmp_ne (tgt := 36) hx hb dX1_isSolvable_28 dX1_isSolvable_29 (by decide) (Nat.lt_trans (chg_lt (show 0 < P by omega) _ _ _) (by omega)) (by decide) (fun c_6 => ?_) (fun c_6 => ?_)
          · refine lv_iconst (v := nI 0) hx hb dX1_isSolvable_36 (by decide +kernel) ?_
            refine lv_istore_n (lv' := [(1, .int (nI 0)), (0, .ref h), (2, .int (nI i))]) hx hb dX1_isSolvable_37 rfl hl (by decide) rfl (fun ls hl => ?_)
            refine lv_iinc (v := nI (i + 1)) (lv' := [(2, .int (nI (i + 1))), (1, .int (nI 0)), (0, .ref h)]) hx hb dX1_isSolvable_38 hl (k := 2) rfl (nv_inc i 1) (by decide) rfl (fun ls hl => ?_)
            refine lv_goto (tgt := 10) hx hb dX1_isSolvable_41 (by decide) ?_
            refine lv_iload_n hx hb dX1_isSolvable_10 rfl (lv_at hl 0 rfl) ?_
            refine lv_aload_n hx hb dX1_isSolvable_11 rfl (lv_at hl 2 rfl) ?_
            refine x1_get S hin hK hP rfl 2 (by decide) rfl (by decide +kernel) (v := .int (nI mR)) rfl dX1_isSolvable_12 ?_
            refine nv_icmp_ge (tgt := 44) hx hb dX1_isSolvable_15 (by decide) (by omega) (by omega) (fun c_7 => ?_) (fun c_7 => ?_)
            · refine lv_iload_n hx hb dX1_isSolvable_44 rfl (lv_at hl 1 rfl) ?_
              exact hret (nI 0) 45 ls _ _ dX1_isSolvable_45 (by decide +kernel) hS (by
                  have e1 : slv P mR M b rk = false := by rw [← hinv]; exact allz_n c_3 (by show chg P (fun k => M i (10 + k)) b mR ≠ 0; omega)
                  simp [sSlv, e1])
            · refine lv_iload_n hx hb dX1_isSolvable_18 rfl (lv_at hl 1 rfl) ?_
              refine nv_if_eq (tgt := 44) hx hb dX1_isSolvable_19 (by decide) (by decide) (fun _ => ?_) (fun q => absurd q (by decide))
              refine lv_iload_n hx hb dX1_isSolvable_44 rfl (lv_at hl 1 rfl) ?_
              exact hret (nI 0) 45 ls _ _ dX1_isSolvable_45 (by decide +kernel) hS (by
                  have e1 : slv P mR M b rk = false := by rw [← hinv]; exact allz_n c_3 (by show chg P (fun k => M i (10 + k)) b mR ≠ 0; omega)
                  simp [sSlv, e1])
          · refine lv_iconst (v := nI 1) hx hb dX1_isSolvable_32 (by decide +kernel) ?_
            refine lv_goto (tgt := 37) hx hb dX1_isSolvable_33 (by decide) ?_
            refine lv_istore_n (lv' := [(1, .int (nI 1)), (0, .ref h), (2, .int (nI i))]) hx hb dX1_isSolvable_37 rfl hl (by decide) rfl (fun ls hl => ?_)
            refine lv_iinc (v := nI (i + 1)) (lv' := [(2, .int (nI (i + 1))), (1, .int (nI 1)), (0, .ref h)]) hx hb dX1_isSolvable_38 hl (k := 2) rfl (nv_inc i 1) (by decide) rfl (fun ls hl => ?_)
            refine lv_goto (tgt := 10) hx hb dX1_isSolvable_41 (by decide) ?_
            exact ihL (i + 1) (by omega) (by rw [← hinv, allz_z c_3 c_6]) (by omega) ls _ _ (lv_sub hl [2, 1, 0] rfl) hP hS
    exact L (mR + 1) rk (by omega) rfl (by omega) ls _ _ (lv_sub hl [2, 1, 0] rfl) hP hS
set_option maxHeartbeats 4000000 in
set_option maxRecDepth 100000 in
theorem c_X1_solvable (l : Launch) (D : va_G) {h b1 b2 b3 b4 b5 : Nat} {cJ cI : ClassId} {gA gB : Nat → Int64} {rd rk : Nat} {gR : Nat → Int64} {gP : Nat → Int32} {gS : Nat → Int64} {pj : Int64} {mi ni : Int32} {vd P mR nC : Nat} {M : Mat} {pc : Nat → Nat} {b : Nat → Nat} (hvd : vd < 2) (hV : vd ≠ 0 → MdV pj mi ni P mR nC) (hI : vd = 0 → mR = 0 ∧ nC = 0) (hrd : rd < 2) (hQ : rd ≠ 0 → vd ≠ 0 ∧ MdQ P mR nC rk gR gP M pc) (hbb : vd ≠ 0 → ∀ i, b i < P) (hb1 : ∀ i, i < mR → gB i = lN (b i)) : WrI (U := Unit) l yX1_solvable wsX1_solvable ({ frames := 2, cells := 0, slots := 0, locals := 46 }) [.ref h] D (mdW h b1 b2 b3 b4 b5 cJ cI pj mi ni vd gA gB rd rk gR gP gS) [(cJ, .long), (cI, .int)] (fun r _ => r = sSlv rd P mR M b rk) (fun _ => mdW h b1 b2 b3 b4 b5 cJ cI pj mi ni vd gA gB rd rk gR gP gS) := by
  refine WrI.mk (cc := cX1_solvable) (maxL := 1) (rt := .boolean) (by decide) rfl (Nat.le_of_ble_eq_true rfl) ?_
  intro p e s mm args below meth c Q ls A S hK hP hD hA hS hl hret
  have hx := S.1
  have hb := S.2.1
  have hts := S.2.2.2.2
  have hown := S.2.2.2.1
  have hin : ∀ w ∈ wsX10, w ∈ wsX1_solvable := fun w h => List.mem_cons_of_mem _ (List.mem_append_right _ h)
  have hl : lv_has ls 1 [(0, .ref h)] := hl
  refine lv_aload_n hx hb dX1_solvable_0 rfl (lv_at hl 0 rfl) ?_
  refine lv_iconst (v := nI 0) hx hb dX1_solvable_1 (by decide +kernel) ?_
  refine x1_put S hin hK hP hD hS rfl 0 (by decide) rfl (by decide +kernel) rfl (ty := .int) (v := .int (nI 0)) rfl rfl rfl (Nat.le_of_ble_eq_true rfl) dX1_solvable_2 (fun H locs hP hD hS => ?_)
  have hP : va_P D vwCl (mdW h b1 b2 b3 b4 b5 cJ cI pj mi ni vd gA gB rd rk gR gP gS) H := hP
  have hD : va_D A (mdW h b1 b2 b3 b4 b5 cJ cI pj mi ni vd gA gB rd rk gR gP gS) := hD
  refine lv_aload_n hx hb dX1_solvable_5 rfl (lv_at hl 0 rfl) ?_
  refine rdv_i S (c_X1_isSolvable l D (M := M) (pc := pc) (b := b) hvd hV hI hrd hQ hbb hb1) (cwV 0 hts gX1_solvable_X1_isSolvable rfl rfl rfl (by decide +kernel) ⟨Nat.le_of_ble_eq_true rfl, Nat.le_of_ble_eq_true rfl⟩) rfl hK hP (ci := 1) rfl rfl hl.1 (rest := []) rfl (Nat.le_of_ble_eq_true rfl) dX1_solvable_6 ⟨Nat.zero_le _, Nat.zero_le _⟩ hP hS hA (fun r_1 H locs er_1 hP hS => ?_)
  exact hret (r_1) () 9 ls _ _ dX1_solvable_9 (by rw [er_1]; unfold sSlv; split <;> decide +kernel) hP hD hS (er_1)
set_option maxHeartbeats 4000000 in
set_option maxRecDepth 100000 in
theorem c_X1_rowOf (l : Launch) (D : va_G) {h b1 b2 b3 b4 b5 : Nat} {cJ cI : ClassId} {gA gB : Nat → Int64} {rd rk : Nat} {gR : Nat → Int64} {gP : Nat → Int32} {gS : Nat → Int64} {vd P mR nC : Nat} {pc : Nat → Nat} (cj : Nat) (hn : nC ≤ 10) (hrk : rk ≤ 10) (hcj : cj < 2 ^ 31) (hg : ∀ i, i < rk → gP i = nI (pc i)) (hpc : ∀ i, i < rk → pc i < nC) : RdI l yX1_rowOf wsX1_rowOf ({ frames := 0, cells := 0, slots := 0, locals := 0 }) [.ref h, .int (nI cj)] D (mdW h b1 b2 b3 b4 b5 cJ cI (lN P) (nI mR) (nI nC) vd gA gB rd rk gR gP gS) [(cJ, .long), (cI, .int)] (fun r => r = opt (rowOf pc rk cj)) := by
  refine RdI.mk (cc := cX1_rowOf) (maxL := 4) (rt := .int) (by decide) rfl (Nat.le_of_ble_eq_true rfl) ?_
  intro p e s mm args below meth c Q ls A S hK hP hA hS hl hret
  have hx := S.1
  have hb := S.2.1
  have hts := S.2.2.2.2
  have hown := S.2.2.2.1
  have hin : ∀ w ∈ wsX10, w ∈ wsX1_rowOf := fun w h => List.mem_cons_of_mem _ (List.mem_append_right _ h)
  have hl : lv_has ls 4 [(0, .ref h), (1, .int (nI cj))] := hl
  refine lv_iconst (v := (-1)) hx hb dX1_rowOf_0 (by decide +kernel) ?_
  refine lv_istore_n (lv' := [(2, .int (-1)), (0, .ref h), (1, .int (nI cj))]) hx hb dX1_rowOf_1 rfl hl (by decide) rfl (fun ls hl => ?_)
  refine lv_iconst (v := nI 0) hx hb dX1_rowOf_2 (by decide +kernel) ?_
  refine lv_istore_n (lv' := [(3, .int (nI 0)), (2, .int (-1)), (0, .ref h), (1, .int (nI cj))]) hx hb dX1_rowOf_3 rfl hl (by decide) rfl (fun ls hl => ?_)
  have L : ∀ (nL : Nat) (i : Nat), (i ≤ rk) → (rk + 1 ≤ i + nL) → ∀ (ls : Array Slot) (H : Heap) (locs : List Loc), lv_has ls 4 [(0, .ref h), (1, .int (nI cj)), (2, .int (opt (rowOf pc i cj))), (3, .int (nI i))] → va_P D vwCl (mdW h b1 b2 b3 b4 b5 cJ cI (lN P) (nI mR) (nI nC) vd gA gB rd rk gR gP gS) H → va_S A s.heap H locs → W p l e ({ frames := 0, cells := 0, slots := 0, locals := 0 }) s mm args below meth c H locs 0 0 Q (F0 mm 4 ls []) := by
    intro nL
    induction nL with
    | zero => intro i hi hfuel; exfalso; omega
    | succ nL ihL =>
      intro i hi hfuel ls H locs hl hP hS
      refine lv_iload_n hx hb dX1_rowOf_4 rfl (lv_at hl 3 rfl) ?_
      refine lv_aload_n hx hb dX1_rowOf_5 rfl (lv_at hl 0 rfl) ?_
      refine x1_get S hin hK hP rfl 8 (by decide) rfl (by decide +kernel) (v := .int (nI rk)) rfl dX1_rowOf_6 ?_
      refine nv_icmp_ge (tgt := 34) hx hb dX1_rowOf_9 (by decide) (by omega) (by omega) (fun c_1 => ?_) (fun c_1 => ?_)
      · refine lv_iload_n hx hb dX1_rowOf_34 rfl (lv_at hl 2 rfl) ?_
        exact hret (opt (rowOf pc i cj)) 35 ls _ _ dX1_rowOf_35 (rfl) hS (by rw [show i = rk by omega])
      · refine lv_aload_n hx hb dX1_rowOf_12 rfl (lv_at hl 0 rfl) ?_
        refine x1_get S hin hK hP rfl 10 (by decide) rfl (by decide +kernel) (v := .ref b4) rfl dX1_rowOf_13 ?_
        refine lv_iload_n hx hb dX1_rowOf_16 rfl (lv_at hl 3 rfl) ?_
        refine nv_iald hx hb hK hP 4 1 rfl rfl (v := nI (pc i)) (by omega) (by decide) (hg i (by omega)) dX1_rowOf_17 ?_
        refine lv_iload_n hx hb dX1_rowOf_18 rfl (lv_at hl 1 rfl) ?_
        refine nv_icmp_ne (tgt := 26) hx hb dX1_rowOf_19 (by decide) (by have := hpc i (by omega); omega) (by omega) (fun c_2 => ?_) (fun c_2 => ?_)
        · refine lv_iload_n hx hb dX1_rowOf_26 rfl (lv_at hl 2 rfl) ?_
          refine lv_istore_n (lv' := [(2, .int (opt (rowOf pc i cj))), (0, .ref h), (1, .int (nI cj)), (3, .int (nI i))]) hx hb dX1_rowOf_27 rfl hl (by decide) rfl (fun ls hl => ?_)
          refine lv_iinc (v := nI (i + 1)) (lv' := [(3, .int (nI (i + 1))), (2, .int (opt (rowOf pc i cj))), (0, .ref h), (1, .int (nI cj))]) hx hb dX1_rowOf_28 hl (k := 3) rfl (nv_inc i 1) (by decide) rfl (fun ls hl => ?_)
          refine lv_goto (tgt := 4) hx hb dX1_rowOf_31 (by decide) ?_
          have e9 : opt (rowOf pc (i + 1) cj) = opt (rowOf pc i cj) := by simp [rowOf, c_2]
          rw [← e9] at hl
          exact ihL (i + 1) (by omega) (by omega) ls _ _ (lv_sub hl [2, 3, 1, 0] rfl) hP hS
        · refine lv_iload_n hx hb dX1_rowOf_22 rfl (lv_at hl 3 rfl) ?_
          refine lv_goto (tgt := 27) hx hb dX1_rowOf_23 (by decide) ?_
          refine lv_istore_n (lv' := [(2, .int (nI i)), (0, .ref h), (1, .int (nI cj)), (3, .int (nI i))]) hx hb dX1_rowOf_27 rfl hl (by decide) rfl (fun ls hl => ?_)
          refine lv_iinc (v := nI (i + 1)) (lv' := [(3, .int (nI (i + 1))), (2, .int (nI i)), (0, .ref h), (1, .int (nI cj))]) hx hb dX1_rowOf_28 hl (k := 3) rfl (nv_inc i 1) (by decide) rfl (fun ls hl => ?_)
          refine lv_goto (tgt := 4) hx hb dX1_rowOf_31 (by decide) ?_
          have e9 : opt (rowOf pc (i + 1) cj) = nI i := by simp [rowOf, c_2, opt]
          rw [← e9] at hl
          exact ihL (i + 1) (by omega) (by omega) ls _ _ (lv_sub hl [2, 3, 1, 0] rfl) hP hS
  have hl : lv_has ls 4 [(3, .int (nI 0)), (2, .int (opt (rowOf pc 0 cj))), (0, .ref h), (1, .int (nI cj))] := hl
  exact L (rk + 1) 0 (by omega) (by omega) ls _ _ (lv_sub hl [2, 3, 1, 0] rfl) hP hS
set_option maxHeartbeats 4000000 in
set_option maxRecDepth 100000 in
theorem c_X1_solution (l : Launch) (D : va_G) {h b1 b2 b3 b4 b5 : Nat} {cJ cI : ClassId} {gA gB : Nat → Int64} {rd rk : Nat} {gR : Nat → Int64} {gP : Nat → Int32} {gS : Nat → Int64} {pj : Int64} {mi ni : Int32} {vd P mR nC : Nat} {M : Mat} {pc : Nat → Nat} {b : Nat → Nat} (j : Int32) (hvd : vd < 2) (hV : vd ≠ 0 → MdV pj mi ni P mR nC) (hI : vd = 0 → mR = 0 ∧ nC = 0) (hrd : rd < 2) (hQ : rd ≠ 0 → vd ≠ 0 ∧ MdQ P mR nC rk gR gP M pc) (hbb : vd ≠ 0 → ∀ i, b i < P) (hb1 : ∀ i, i < mR → gB i = lN (b i)) : WrI (U := Unit) l yX1_solution wsX1_solution ({ frames := 2, cells := 0, slots := 0, locals := 46 }) [.ref h, .int j] D (mdW h b1 b2 b3 b4 b5 cJ cI pj mi ni vd gA gB rd rk gR gP gS) [(cJ, .long), (cI, .int)] (fun r _ => r = sSol rd P mR nC M b rk (rowOf pc rk) j) (fun _ => mdW h b1 b2 b3 b4 b5 cJ cI pj mi ni vd gA gB rd rk gR gP gS) := by
  refine WrI.mk (cc := cX1_solution) (maxL := 3) (rt := .int) (by decide) rfl (Nat.le_of_ble_eq_true rfl) ?_
  intro p e s mm args below meth c Q ls A S hK hP hD hA hS hl hret
  have hx := S.1
  have hb := S.2.1
  have hts := S.2.2.2.2
  have hown := S.2.2.2.1
  have hin : ∀ w ∈ wsX10, w ∈ wsX1_solution := fun w h => List.mem_cons_of_mem _ (List.mem_append_right _ h)
  have hl : lv_has ls 3 [(0, .ref h), (1, .int j)] := hl
  refine lv_aload_n hx hb dX1_solution_0 rfl (lv_at hl 0 rfl) ?_
  refine lv_iconst (v := nI 0) hx hb dX1_solution_1 (by decide +kernel) ?_
  refine x1_put S hin hK hP hD hS rfl 0 (by decide) rfl (by decide +kernel) rfl (ty := .int) (v := .int (nI 0)) rfl rfl rfl (Nat.le_of_ble_eq_true rfl) dX1_solution_2 (fun H locs hP hD hS => ?_)
  have hP : va_P D vwCl (mdW h b1 b2 b3 b4 b5 cJ cI pj mi ni vd gA gB rd rk gR gP gS) H := hP
  have hD : va_D A (mdW h b1 b2 b3 b4 b5 cJ cI pj mi ni vd gA gB rd rk gR gP gS) := hD
  refine lv_aload_n hx hb dX1_solution_5 rfl (lv_at hl 0 rfl) ?_
  refine rdv_i S (c_X1_isSolvable l D (M := M) (pc := pc) (b := b) hvd hV hI hrd hQ hbb hb1) (cwV 0 hts gX1_solution_X1_isSolvable rfl rfl rfl (by decide +kernel) ⟨Nat.le_of_ble_eq_true rfl, Nat.le_of_ble_eq_true rfl⟩) rfl hK hP (ci := 1) rfl rfl hl.1 (rest := []) rfl (Nat.le_of_ble_eq_true rfl) dX1_solution_6 ⟨Nat.zero_le _, Nat.zero_le _⟩ hP hS hA (fun r_1 H locs er_1 hP hS => ?_)
  by_cases hS1 : rd ≠ 0 ∧ slv P mR M b rk = true
  · unfold sSlv at er_1
    rw [if_pos hS1] at er_1
    subst er_1
    have hrd0 : rd ≠ 0 := by omega
    obtain ⟨hV0, hM, hB, hrm, hrn, hg, hpc, hcnt⟩ := hQ hrd0
    have hV9 := hV hV0
    obtain ⟨rfl, rfl, rfl, hP2, hPl, hm1, hm, hn1, hn⟩ := hV9
    refine nv_if_eq (tgt := 24) hx hb dX1_solution_9 (by decide) (by decide) (fun q => absurd q (by decide)) (fun _ => ?_)
    refine lv_iload_n hx hb dX1_solution_12 rfl (lv_at hl 1 rfl) ?_
    refine lv_if_lt (tgt := 24) hx hb dX1_solution_13 (by decide) (fun c_3 => ?_) (fun c_3 => ?_)
    · refine lv_iconst (v := (-1)) hx hb dX1_solution_24 (by decide +kernel) ?_
      exact hret ((-1)) () 25 ls _ _ dX1_solution_25 (rfl) hP hD hS (by
          unfold sSol
          rw [if_neg]
          simp [inb_f (i := j) (m := nC) (out_row (by omega) (Or.inl c_3)) (show nC < 2 ^ 31 by omega)])
    · refine lv_iload_n hx hb dX1_solution_16 rfl (lv_at hl 1 rfl) ?_
      refine lv_aload_n hx hb dX1_solution_17 rfl (lv_at hl 0 rfl) ?_
      refine x1_get S hin hK hP rfl 3 (by decide) rfl (by decide +kernel) (v := .int (nI nC)) rfl dX1_solution_18 ?_
      refine lv_icmp_lt (tgt := 26) hx hb dX1_solution_21 (by decide) (fun c_4 => ?_) (fun c_4 => ?_)
      · obtain ⟨k1, hk1, rfl⟩ := in_row (i := j) (m := nC) (by omega) c_3 (nle_of_lt c_4)
        refine lv_aload_n hx hb dX1_solution_26 rfl (lv_at hl 0 rfl) ?_
        refine lv_iload_n hx hb dX1_solution_27 rfl (lv_at hl 1 rfl) ?_
        refine rdv_i S (c_X1_rowOf l D (pc := pc) k1 hn (by omega) (by omega) hg hpc) (cwV 1 hts gX1_solution_X1_rowOf rfl rfl rfl (by decide +kernel) ⟨Nat.le_of_ble_eq_true rfl, Nat.le_of_ble_eq_true rfl⟩) rfl hK hP (ci := 1) rfl rfl hl.1 (rest := []) rfl (Nat.le_of_ble_eq_true rfl) dX1_solution_28 ⟨Nat.zero_le _, Nat.zero_le _⟩ hP hS hA (fun r_5 H locs er_5 hP hS => ?_)
        cases hpok1 : rowOf pc rk k1 with
        | none =>
          rw [hpok1] at er_5
          have er_5 : r_5 = -1 := er_5
          subst er_5
          refine lv_istore_n (lv' := [(2, .int (-1)), (0, .ref h), (1, .int (nI k1))]) hx hb dX1_solution_31 rfl hl (by decide) rfl (fun ls hl => ?_)
          refine lv_iload_n hx hb dX1_solution_32 rfl (lv_at hl 0 rfl) ?_
          refine lv_if_ge (tgt := 40) hx hb dX1_solution_33 (by decide) (fun c_6 => ?_) (fun c_6 => ?_)
          · exact absurd c_6 (by decide +kernel)
          · refine lv_iconst (v := nI 0) hx hb dX1_solution_36 (by decide +kernel) ?_
            refine lv_goto (tgt := 46) hx hb dX1_solution_37 (by decide) ?_
            exact hret (nI 0) () 46 ls _ _ dX1_solution_46 (rfl) hP hD hS (by
                unfold sSol
                rw [if_pos ⟨inb_t hk1 (by omega), hS1.1, hS1.2⟩, ix_n (show k1 < 2 ^ 31 by omega), hpok1]
                rfl)
        | some pi =>
          rw [hpok1] at er_5
          have er_5 : r_5 = nI pi := er_5
          have hpi := Nat.lt_of_lt_of_le (rowOf_lt hpok1) hrm
          subst er_5
          refine lv_istore_n (lv' := [(2, .int (nI pi)), (0, .ref h), (1, .int (nI k1))]) hx hb dX1_solution_31 rfl hl (by decide) rfl (fun ls hl => ?_)
          refine lv_iload_n hx hb dX1_solution_32 rfl (lv_at hl 0 rfl) ?_
          refine nv_if_ge (tgt := 40) hx hb dX1_solution_33 (by decide) (by omega) (fun c_7 => ?_) (fun c_7 => ?_)
          · refine lv_aload_n hx hb dX1_solution_40 rfl (lv_at hl 1 rfl) ?_
            refine lv_iload_n hx hb dX1_solution_41 rfl (lv_at hl 0 rfl) ?_
            refine rdv_l S (c_X1_changed l D (M := M) (b := b) pi hP2 hPl hm hn hpi hB hM (hbb hV0) hb1) (cwV 1 hts gX1_solution_X1_changed rfl rfl rfl (by decide +kernel) ⟨Nat.le_of_ble_eq_true rfl, Nat.le_of_ble_eq_true rfl⟩) rfl hK hP (ci := 1) rfl rfl hl.1 (rest := []) rfl (Nat.le_of_ble_eq_true rfl) dX1_solution_42 ⟨Nat.zero_le _, Nat.zero_le _⟩ hP hS hA (fun r_8 H locs er_8 hP hS => ?_)
            subst er_8
            refine nv_l2i hx hb dX1_solution_45 ?_
            exact hret (nI (chg P (fun k => M pi (10 + k)) b mR)) () 46 ls _ _ dX1_solution_46 (rfl) hP hD hS (by
                unfold sSol
                rw [if_pos ⟨inb_t hk1 (by omega), hS1.1, hS1.2⟩, ix_n (show k1 < 2 ^ 31 by omega), hpok1]
                rfl)
          · exact absurd c_7 (Nat.not_lt_zero _)
      · refine lv_iconst (v := (-1)) hx hb dX1_solution_24 (by decide +kernel) ?_
        exact hret ((-1)) () 25 ls _ _ dX1_solution_25 (rfl) hP hD hS (by
            unfold sSol
            rw [if_neg]
            simp [inb_f (i := j) (m := nC) (out_row (by omega) (Or.inr (le_of_nlt c_4))) (show nC < 2 ^ 31 by omega)])
  · unfold sSlv at er_1
    rw [if_neg hS1] at er_1
    subst er_1
    refine nv_if_eq (tgt := 24) hx hb dX1_solution_9 (by decide) (by decide) (fun _ => ?_) (fun q => absurd q (by decide))
    refine lv_iconst (v := (-1)) hx hb dX1_solution_24 (by decide +kernel) ?_
    exact hret ((-1)) () 25 ls _ _ dX1_solution_25 (rfl) hP hD hS (by
        unfold sSol
        rw [if_neg]
        exact fun z => hS1 ⟨z.2.1, z.2.2⟩)
set_option maxHeartbeats 4000000 in
set_option maxRecDepth 100000 in
theorem c_X1_kernelDim (l : Launch) (D : va_G) {h b1 b2 b3 b4 b5 : Nat} {cJ cI : ClassId} {gA gB : Nat → Int64} {rd rk : Nat} {gR : Nat → Int64} {gP : Nat → Int32} {gS : Nat → Int64} {pj : Int64} {mi ni : Int32} {vd P mR nC : Nat} {M : Mat} {pc : Nat → Nat} (hvd : vd < 2) (hV : vd ≠ 0 → MdV pj mi ni P mR nC) (hI : vd = 0 → mR = 0 ∧ nC = 0) (hrd : rd < 2) (hQ : rd ≠ 0 → vd ≠ 0 ∧ MdQ P mR nC rk gR gP M pc) : WrI (U := Unit) l yX1_kernelDim wsX1_kernelDim ({ frames := 0, cells := 0, slots := 0, locals := 0 }) [.ref h] D (mdW h b1 b2 b3 b4 b5 cJ cI pj mi ni vd gA gB rd rk gR gP gS) [(cJ, .long), (cI, .int)] (fun r _ => r = sKd rd nC rk) (fun _ => mdW h b1 b2 b3 b4 b5 cJ cI pj mi ni vd gA gB rd rk gR gP gS) := by
  refine WrI.mk (cc := cX1_kernelDim) (maxL := 1) (rt := .int) (by decide) rfl (Nat.le_of_ble_eq_true rfl) ?_
  intro p e s mm args below meth c Q ls A S hK hP hD hA hS hl hret
  have hx := S.1
  have hb := S.2.1
  have hts := S.2.2.2.2
  have hown := S.2.2.2.1
  have hin : ∀ w ∈ wsX10, w ∈ wsX1_kernelDim := fun w h => List.mem_cons_of_mem _ (List.mem_append_right _ h)
  have hl : lv_has ls 1 [(0, .ref h)] := hl
  refine lv_aload_n hx hb dX1_kernelDim_0 rfl (lv_at hl 0 rfl) ?_
  refine lv_iconst (v := nI 0) hx hb dX1_kernelDim_1 (by decide +kernel) ?_
  refine x1_put S hin hK hP hD hS rfl 0 (by decide) rfl (by decide +kernel) rfl (ty := .int) (v := .int (nI 0)) rfl rfl rfl (Nat.le_of_ble_eq_true rfl) dX1_kernelDim_2 (fun H locs hP hD hS => ?_)
  have hP : va_P D vwCl (mdW h b1 b2 b3 b4 b5 cJ cI pj mi ni vd gA gB rd rk gR gP gS) H := hP
  have hD : va_D A (mdW h b1 b2 b3 b4 b5 cJ cI pj mi ni vd gA gB rd rk gR gP gS) := hD
  refine lv_aload_n hx hb dX1_kernelDim_5 rfl (lv_at hl 0 rfl) ?_
  refine x1_get S hin hK hP rfl 7 (by decide) rfl (by decide +kernel) (v := .int (nI rd)) rfl dX1_kernelDim_6 ?_
  refine nv_if_eq (tgt := 24) hx hb dX1_kernelDim_9 (by decide) (by omega) (fun c_1 => ?_) (fun c_1 => ?_)
  · refine lv_iconst (v := (-1)) hx hb dX1_kernelDim_24 (by decide +kernel) ?_
    exact hret ((-1)) () 25 ls _ _ dX1_kernelDim_25 (rfl) hP hD hS (by simp [sKd, show rd = 0 by omega])
  · have hrd0 : rd ≠ 0 := by omega
    obtain ⟨hV0, hM, hB, hrm, hrn, hg, hpc, hcnt⟩ := hQ hrd0
    have hV9 := hV hV0
    obtain ⟨rfl, rfl, rfl, hP2, hPl, hm1, hm, hn1, hn⟩ := hV9
    refine lv_aload_n hx hb dX1_kernelDim_12 rfl (lv_at hl 0 rfl) ?_
    refine x1_get S hin hK hP rfl 3 (by decide) rfl (by decide +kernel) (v := .int (nI nC)) rfl dX1_kernelDim_13 ?_
    refine lv_aload_n hx hb dX1_kernelDim_16 rfl (lv_at hl 0 rfl) ?_
    refine x1_get S hin hK hP rfl 8 (by decide) rfl (by decide +kernel) (v := .int (nI rk)) rfl dX1_kernelDim_17 ?_
    refine nv_isub hx hb (by omega) dX1_kernelDim_20 ?_
    refine lv_goto (tgt := 25) hx hb dX1_kernelDim_21 (by decide) ?_
    exact hret (nI (nC - rk)) () 25 ls _ _ dX1_kernelDim_25 (rfl) hP hD hS (by simp [sKd, show ¬ rd = 0 by omega])
set_option maxHeartbeats 4000000 in
set_option maxRecDepth 100000 in
theorem c_X1_kernelAt (l : Launch) (D : va_G) {h b1 b2 b3 b4 b5 : Nat} {cJ cI : ClassId} {gA gB : Nat → Int64} {rd rk : Nat} {gR : Nat → Int64} {gP : Nat → Int32} {gS : Nat → Int64} {pj : Int64} {mi ni : Int32} {vd P mR nC : Nat} {M : Mat} {pc : Nat → Nat} (k j : Int32) (hvd : vd < 2) (hV : vd ≠ 0 → MdV pj mi ni P mR nC) (hI : vd = 0 → mR = 0 ∧ nC = 0) (hrd : rd < 2) (hQ : rd ≠ 0 → vd ≠ 0 ∧ MdQ P mR nC rk gR gP M pc) : WrI (U := Unit) l yX1_kernelAt wsX1_kernelAt ({ frames := 1, cells := 0, slots := 0, locals := 23 }) [.ref h, .int k, .int j] D (mdW h b1 b2 b3 b4 b5 cJ cI pj mi ni vd gA gB rd rk gR gP gS) [(cJ, .long), (cI, .int)] (fun r _ => r = sKer rd P nC M (rowOf pc rk) k j) (fun _ => mdW h b1 b2 b3 b4 b5 cJ cI pj mi ni vd gA gB rd rk gR gP gS) := by
  refine WrI.mk (cc := cX1_kernelAt) (maxL := 6) (rt := .int) (by decide) rfl (Nat.le_of_ble_eq_true rfl) ?_
  intro p e s mm args below meth c Q ls A S hK hP hD hA hS hl hret
  have hx := S.1
  have hb := S.2.1
  have hts := S.2.2.2.2
  have hown := S.2.2.2.1
  have hin : ∀ w ∈ wsX10, w ∈ wsX1_kernelAt := fun w h => List.mem_cons_of_mem _ (List.mem_append_right _ h)
  have hl : lv_has ls 6 [(0, .ref h), (1, .int k), (2, .int j)] := hl
  refine lv_aload_n hx hb dX1_kernelAt_0 rfl (lv_at hl 0 rfl) ?_
  refine lv_iconst (v := nI 0) hx hb dX1_kernelAt_1 (by decide +kernel) ?_
  refine x1_put S hin hK hP hD hS rfl 0 (by decide) rfl (by decide +kernel) rfl (ty := .int) (v := .int (nI 0)) rfl rfl rfl (Nat.le_of_ble_eq_true rfl) dX1_kernelAt_2 (fun H locs hP hD hS => ?_)
  have hP : va_P D vwCl (mdW h b1 b2 b3 b4 b5 cJ cI pj mi ni vd gA gB rd rk gR gP gS) H := hP
  have hD : va_D A (mdW h b1 b2 b3 b4 b5 cJ cI pj mi ni vd gA gB rd rk gR gP gS) := hD
  refine lv_aload_n hx hb dX1_kernelAt_5 rfl (lv_at hl 0 rfl) ?_
  refine x1_get S hin hK hP rfl 7 (by decide) rfl (by decide +kernel) (v := .int (nI rd)) rfl dX1_kernelAt_6 ?_
  refine nv_if_eq (tgt := 41) hx hb dX1_kernelAt_9 (by decide) (by omega) (fun c_1 => ?_) (fun c_1 => ?_)
  · refine lv_iconst (v := (-1)) hx hb dX1_kernelAt_41 (by decide +kernel) ?_
    exact hret ((-1)) () 42 ls _ _ dX1_kernelAt_42 (rfl) hP hD hS (by simp [sKer, c_1])
  · have hrd0 : rd ≠ 0 := by omega
    obtain ⟨hV0, hM, hB, hrm, hrn, hg, hpc, hcnt⟩ := hQ hrd0
    have hV9 := hV hV0
    obtain ⟨rfl, rfl, rfl, hP2, hPl, hm1, hm, hn1, hn⟩ := hV9
    refine lv_iload_n hx hb dX1_kernelAt_12 rfl (lv_at hl 1 rfl) ?_
    refine lv_if_lt (tgt := 41) hx hb dX1_kernelAt_13 (by decide) (fun c_2 => ?_) (fun c_2 => ?_)
    · refine lv_iconst (v := (-1)) hx hb dX1_kernelAt_41 (by decide +kernel) ?_
      exact hret ((-1)) () 42 ls _ _ dX1_kernelAt_42 (rfl) hP hD hS (by
          refine (sKer_no (kth_none (fun c hc => ?_))).symm
          exact out_row (m := c + 1) (by omega) (Or.inl c_2) c (by omega))
    · refine lv_iload_n hx hb dX1_kernelAt_16 rfl (lv_at hl 1 rfl) ?_
      refine lv_aload_n hx hb dX1_kernelAt_17 rfl (lv_at hl 0 rfl) ?_
      refine x1_get S hin hK hP rfl 3 (by decide) rfl (by decide +kernel) (v := .int (nI nC)) rfl dX1_kernelAt_18 ?_
      refine lv_aload_n hx hb dX1_kernelAt_21 rfl (lv_at hl 0 rfl) ?_
      refine x1_get S hin hK hP rfl 8 (by decide) rfl (by decide +kernel) (v := .int (nI rk)) rfl dX1_kernelAt_22 ?_
      refine nv_isub hx hb (by omega) dX1_kernelAt_25 ?_
      refine lv_icmp_ge (tgt := 41) hx hb dX1_kernelAt_26 (by decide) (fun c_3 => ?_) (fun c_3 => ?_)
      · refine lv_iconst (v := (-1)) hx hb dX1_kernelAt_41 (by decide +kernel) ?_
        exact hret ((-1)) () 42 ls _ _ dX1_kernelAt_42 (rfl) hP hD hS (by
            refine (sKer_no (kth_none (fun c hc => ?_))).symm
            exact out_row (m := nC - rk) (by omega) (Or.inr c_3) c (by omega))
      · obtain ⟨kk, hkk, rfl⟩ := in_row (i := k) (m := nC - rk) (by omega) c_2 c_3
        refine lv_iload_n hx hb dX1_kernelAt_29 rfl (lv_at hl 2 rfl) ?_
        refine lv_if_lt (tgt := 41) hx hb dX1_kernelAt_30 (by decide) (fun c_4 => ?_) (fun c_4 => ?_)
        · refine lv_iconst (v := (-1)) hx hb dX1_kernelAt_41 (by decide +kernel) ?_
          exact hret ((-1)) () 42 ls _ _ dX1_kernelAt_42 (rfl) hP hD hS (by simp [sKer, inb_f (i := j) (m := nC) (out_row (by omega) (Or.inl c_4)) (show nC < 2 ^ 31 by omega)])
        · refine lv_iload_n hx hb dX1_kernelAt_33 rfl (lv_at hl 2 rfl) ?_
          refine lv_aload_n hx hb dX1_kernelAt_34 rfl (lv_at hl 0 rfl) ?_
          refine x1_get S hin hK hP rfl 3 (by decide) rfl (by decide +kernel) (v := .int (nI nC)) rfl dX1_kernelAt_35 ?_
          refine lv_icmp_lt (tgt := 43) hx hb dX1_kernelAt_38 (by decide) (fun c_5 => ?_) (fun c_5 => ?_)
          · obtain ⟨k1, hk1, rfl⟩ := in_row (i := j) (m := nC) (by omega) c_4 (nle_of_lt c_5)
            obtain ⟨fc, hkt⟩ := kth_some (po := rowOf pc rk) (kk := kk) (n := nC) (by omega) nC 0 (by omega) (by omega) (Nat.zero_le _)
            obtain ⟨-, hfc, hfn, hfk⟩ := kth_lt _ _ _ hkt
            have hcl := cnt_le (rowOf pc rk) fc
            rw [nI_eq (by omega) (by omega)] at hfk
            refine lv_iconst (v := nI 0) hx hb dX1_kernelAt_43 (by decide +kernel) ?_
            refine lv_istore_n (lv' := [(3, .int (nI 0)), (0, .ref h), (1, .int (nI kk)), (2, .int (nI k1))]) hx hb dX1_kernelAt_44 rfl hl (by decide) rfl (fun ls hl => ?_)
            refine lv_iload_n hx hb dX1_kernelAt_45 rfl (lv_at hl 2 rfl) ?_
            refine lv_istore (lv' := [(4, .int (nI kk)), (3, .int (nI 0)), (0, .ref h), (1, .int (nI kk)), (2, .int (nI k1))]) hx hb dX1_kernelAt_46 hl (by decide) rfl (fun ls hl => ?_)
            have L : ∀ (nL : Nat) (fr : Nat) (lf : Nat), (fr ≤ fc) → (lf + cnt (rowOf pc rk) fr = kk) → (fc + 1 ≤ fr + nL) → ∀ (ls : Array Slot) (H : Heap) (locs : List Loc), lv_has ls 6 [(0, .ref h), (1, .int (nI kk)), (2, .int (nI k1)), (3, .int (nI fr)), (4, .int (nI lf))] → va_P D vwCl (mdW h b1 b2 b3 b4 b5 cJ cI (lN P) (nI mR) (nI nC) vd gA gB rd rk gR gP gS) H → va_D A (mdW h b1 b2 b3 b4 b5 cJ cI (lN P) (nI mR) (nI nC) vd gA gB rd rk gR gP gS) → va_S A s.heap H locs → W p l e ({ frames := 1, cells := 0, slots := 0, locals := 23 }) s mm args below meth c H locs 0 0 Q (F0 mm 48 ls []) := by
              intro nL
              induction nL with
              | zero => intro fr lf hfr hlf hfuel; exfalso; omega
              | succ nL ihL =>
                intro fr lf hfr hlf hfuel ls H locs hl hP hD hS
                refine lv_aload_n hx hb dX1_kernelAt_48 rfl (lv_at hl 0 rfl) ?_
                refine lv_iload_n hx hb dX1_kernelAt_49 rfl (lv_at hl 3 rfl) ?_
                refine rdv_i S (c_X1_rowOf l D (pc := pc) fr hn (by omega) (by omega) hg hpc) (cwV 1 hts gX1_kernelAt_X1_rowOf rfl rfl rfl (by decide +kernel) ⟨Nat.le_of_ble_eq_true rfl, Nat.le_of_ble_eq_true rfl⟩) rfl hK hP (ci := 1) rfl rfl hl.1 (rest := []) rfl (Nat.le_of_ble_eq_true rfl) dX1_kernelAt_50 ⟨Nat.zero_le _, Nat.zero_le _⟩ hP hS hA (fun r_6 H locs er_6 hP hS => ?_)
                cases hpofr : rowOf pc rk fr with
                | none =>
                  rw [hpofr] at er_6
                  have er_6 : r_6 = -1 := er_6
                  subst er_6
                  refine lv_if_ge (tgt := 61) hx hb dX1_kernelAt_53 (by decide) (fun c_7 => ?_) (fun c_7 => ?_)
                  · exact absurd c_7 (by decide +kernel)
                  · refine lv_iload hx hb dX1_kernelAt_56 (lv_at hl 4 rfl) ?_
                    refine nv_if_le (tgt := 86) hx hb dX1_kernelAt_58 (by decide) (by omega) (fun c_8 => ?_) (fun c_8 => ?_)
                    · have e0 : lf = 0 := by omega
                      have e1 : fr = fc := by
                        rcases Nat.lt_or_ge fr fc with q | q
                        · have := cnt_free q hpofr
                          omega
                        · omega
                      subst e0 e1
                      refine lv_aload_n hx hb dX1_kernelAt_86 rfl (lv_at hl 0 rfl) ?_
                      refine lv_iload_n hx hb dX1_kernelAt_87 rfl (lv_at hl 2 rfl) ?_
                      refine rdv_i S (c_X1_rowOf l D (pc := pc) k1 hn (by omega) (by omega) hg hpc) (cwV 1 hts gX1_kernelAt_X1_rowOf rfl rfl rfl (by decide +kernel) ⟨Nat.le_of_ble_eq_true rfl, Nat.le_of_ble_eq_true rfl⟩) rfl hK hP (ci := 1) rfl rfl hl.1 (rest := []) rfl (Nat.le_of_ble_eq_true rfl) dX1_kernelAt_88 ⟨Nat.zero_le _, Nat.zero_le _⟩ hP hS hA (fun r_9 H locs er_9 hP hS => ?_)
                      cases hpok1 : rowOf pc rk k1 with
                      | none =>
                        rw [hpok1] at er_9
                        have er_9 : r_9 = -1 := er_9
                        subst er_9
                        refine lv_istore (lv' := [(5, .int (-1)), (0, .ref h), (1, .int (nI kk)), (2, .int (nI k1)), (3, .int (nI fr)), (4, .int (nI 0))]) hx hb dX1_kernelAt_91 hl (by decide) rfl (fun ls hl => ?_)
                        refine lv_iload_n hx hb dX1_kernelAt_93 rfl (lv_at hl 3 rfl) ?_
                        refine lv_iload_n hx hb dX1_kernelAt_94 rfl (lv_at hl 4 rfl) ?_
                        refine nv_icmp_ne (tgt := 108) hx hb dX1_kernelAt_95 (by decide) (by omega) (by omega) (fun c_10 => ?_) (fun c_10 => ?_)
                        · refine lv_iload hx hb dX1_kernelAt_108 (lv_at hl 0 rfl) ?_
                          refine lv_if_ge (tgt := 117) hx hb dX1_kernelAt_110 (by decide) (fun c_11 => ?_) (fun c_11 => ?_)
                          · exact absurd c_11 (by decide +kernel)
                          · refine lv_iconst (v := nI 0) hx hb dX1_kernelAt_113 (by decide +kernel) ?_
                            refine lv_goto (tgt := 140) hx hb dX1_kernelAt_114 (by decide) ?_
                            exact hret (nI 0) () 140 ls _ _ dX1_kernelAt_140 (rfl) hP hD hS (by
                                unfold sKer
                                rw [if_pos ⟨hrd0, inb_t hk1 (by omega)⟩, ix_n (show k1 < 2 ^ 31 by omega), hpok1, hkt]
                                show _ = if k1 = fr then nI 1 else nI 0
                                rw [if_neg c_10])
                        · refine lv_lconst (v := lN 1) hx hb dX1_kernelAt_98 rfl ?_
                          refine lv_aload_n hx hb dX1_kernelAt_99 rfl (lv_at hl 1 rfl) ?_
                          refine x1_get S hin hK hP rfl 1 (by decide) rfl (by decide +kernel) (v := .long (lN P)) rfl dX1_kernelAt_100 ?_
                          refine nv_lrem hx hb (by decide) (by omega) (by omega) dX1_kernelAt_103 ?_
                          refine nv_l2i hx hb dX1_kernelAt_104 ?_
                          refine lv_goto (tgt := 140) hx hb dX1_kernelAt_105 (by decide) ?_
                          exact hret (nI (1 % P)) () 140 ls _ _ dX1_kernelAt_140 (rfl) hP hD hS (by
                              have e2 : rowOf pc rk k1 = none := by rw [c_10]; exact hpofr
                              unfold sKer
                              rw [if_pos ⟨hrd0, inb_t hk1 (by omega)⟩, ix_n (show k1 < 2 ^ 31 by omega), e2, hkt, Nat.mod_eq_of_lt (by omega)]
                              show _ = if k1 = fr then nI 1 else nI 0
                              rw [if_pos c_10])
                      | some pi =>
                        rw [hpok1] at er_9
                        have er_9 : r_9 = nI pi := er_9
                        have hpi := Nat.lt_of_lt_of_le (rowOf_lt hpok1) hrm
                        subst er_9
                        refine lv_istore (lv' := [(5, .int (nI pi)), (0, .ref h), (1, .int (nI kk)), (2, .int (nI k1)), (3, .int (nI fr)), (4, .int (nI 0))]) hx hb dX1_kernelAt_91 hl (by decide) rfl (fun ls hl => ?_)
                        refine lv_iload_n hx hb dX1_kernelAt_93 rfl (lv_at hl 3 rfl) ?_
                        refine lv_iload_n hx hb dX1_kernelAt_94 rfl (lv_at hl 4 rfl) ?_
                        refine nv_icmp_ne (tgt := 108) hx hb dX1_kernelAt_95 (by decide) (by omega) (by omega) (fun c_12 => ?_) (fun c_12 => ?_)
                        · refine lv_iload hx hb dX1_kernelAt_108 (lv_at hl 0 rfl) ?_
                          refine nv_if_ge (tgt := 117) hx hb dX1_kernelAt_110 (by decide) (by omega) (fun c_13 => ?_) (fun c_13 => ?_)
                          · refine lv_aload_n hx hb dX1_kernelAt_117 rfl (lv_at hl 1 rfl) ?_
                            refine x1_get S hin hK hP rfl 1 (by decide) rfl (by decide +kernel) (v := .long (lN P)) rfl dX1_kernelAt_118 ?_
                            refine lv_aload_n hx hb dX1_kernelAt_121 rfl (lv_at hl 1 rfl) ?_
                            refine x1_get S hin hK hP rfl 9 (by decide) rfl (by decide +kernel) (v := .ref b3) rfl dX1_kernelAt_122 ?_
                            refine lv_bipush (v := nI 20) hx hb dX1_kernelAt_125 (by decide +kernel) ?_
                            refine lv_iload hx hb dX1_kernelAt_127 (lv_at hl 0 rfl) ?_
                            refine nv_imul hx hb dX1_kernelAt_129 ?_
                            refine lv_iload_n hx hb dX1_kernelAt_130 rfl (lv_at hl 4 rfl) ?_
                            refine nv_iadd hx hb dX1_kernelAt_131 ?_
                            refine nv_lald hx hb hK hP 3 0 rfl rfl (v := lN (M pi fr)) (by omega) (by decide) (hM pi hpi fr (by omega)) dX1_kernelAt_132 ?_
                            refine nv_lsub hx hb (Nat.le_of_lt (hB pi fr)) dX1_kernelAt_133 ?_
                            refine lv_aload_n hx hb dX1_kernelAt_134 rfl (lv_at hl 1 rfl) ?_
                            refine x1_get S hin hK hP rfl 1 (by decide) rfl (by decide +kernel) (v := .long (lN P)) rfl dX1_kernelAt_135 ?_
                            refine nv_lrem hx hb (by omega) (by omega) (by omega) dX1_kernelAt_138 ?_
                            refine nv_l2i hx hb dX1_kernelAt_139 ?_
                            exact hret (nI ((P - (M pi fr)) % P)) () 140 ls _ _ dX1_kernelAt_140 (rfl) hP hD hS (by
                                unfold sKer
                                rw [if_pos ⟨hrd0, inb_t hk1 (by omega)⟩, ix_n (show k1 < 2 ^ 31 by omega), hpok1, hkt]
                                show _ = nI (ng P (M pi fr))
                                rw [ng_mod (hB pi fr)])
                          · exact absurd c_13 (Nat.not_lt_zero _)
                        · refine lv_lconst (v := lN 1) hx hb dX1_kernelAt_98 rfl ?_
                          refine lv_aload_n hx hb dX1_kernelAt_99 rfl (lv_at hl 1 rfl) ?_
                          refine x1_get S hin hK hP rfl 1 (by decide) rfl (by decide +kernel) (v := .long (lN P)) rfl dX1_kernelAt_100 ?_
                          refine nv_lrem hx hb (by decide) (by omega) (by omega) dX1_kernelAt_103 ?_
                          refine nv_l2i hx hb dX1_kernelAt_104 ?_
                          refine lv_goto (tgt := 140) hx hb dX1_kernelAt_105 (by decide) ?_
                          exact hret (nI (1 % P)) () 140 ls _ _ dX1_kernelAt_140 (rfl) hP hD hS (by
                              have e2 : rowOf pc rk k1 = none := by rw [c_12]; exact hpofr
                              unfold sKer
                              rw [if_pos ⟨hrd0, inb_t hk1 (by omega)⟩, ix_n (show k1 < 2 ^ 31 by omega), e2, hkt, Nat.mod_eq_of_lt (by omega)]
                              show _ = if k1 = fr then nI 1 else nI 0
                              rw [if_pos c_12])
                    · refine lv_aload_n hx hb dX1_kernelAt_61 rfl (lv_at hl 0 rfl) ?_
                      refine lv_iload_n hx hb dX1_kernelAt_62 rfl (lv_at hl 3 rfl) ?_
                      refine rdv_i S (c_X1_rowOf l D (pc := pc) fr hn (by omega) (by omega) hg hpc) (cwV 1 hts gX1_kernelAt_X1_rowOf rfl rfl rfl (by decide +kernel) ⟨Nat.le_of_ble_eq_true rfl, Nat.le_of_ble_eq_true rfl⟩) rfl hK hP (ci := 1) rfl rfl hl.1 (rest := []) rfl (Nat.le_of_ble_eq_true rfl) dX1_kernelAt_63 ⟨Nat.zero_le _, Nat.zero_le _⟩ hP hS hA (fun r_14 H locs er_14 hP hS => ?_)
                      rw [hpofr] at er_14
                      have er_14 : r_14 = -1 := er_14
                      subst er_14
                      refine lv_if_ge (tgt := 76) hx hb dX1_kernelAt_66 (by decide) (fun c_15 => ?_) (fun c_15 => ?_)
                      · exact absurd c_15 (by decide +kernel)
                      · refine lv_iload hx hb dX1_kernelAt_69 (lv_at hl 4 rfl) ?_
                        refine lv_iconst (v := nI 1) hx hb dX1_kernelAt_71 (by decide +kernel) ?_
                        refine nv_isub hx hb (by omega) dX1_kernelAt_72 ?_
                        refine lv_goto (tgt := 78) hx hb dX1_kernelAt_73 (by decide) ?_
                        refine lv_istore (lv' := [(4, .int (nI (lf - 1))), (0, .ref h), (1, .int (nI kk)), (2, .int (nI k1)), (3, .int (nI fr))]) hx hb dX1_kernelAt_78 hl (by decide) rfl (fun ls hl => ?_)
                        refine lv_iinc (v := nI (fr + 1)) (lv' := [(3, .int (nI (fr + 1))), (4, .int (nI (lf - 1))), (0, .ref h), (1, .int (nI kk)), (2, .int (nI k1))]) hx hb dX1_kernelAt_80 hl (k := 4) rfl (nv_inc fr 1) (by decide) rfl (fun ls hl => ?_)
                        refine lv_goto (tgt := 48) hx hb dX1_kernelAt_83 (by decide) ?_
                        have h91 : fr + 1 ≤ fc := by
                          rcases Nat.lt_or_ge fr fc with q | q
                          · omega
                          · have e9 : fr = fc := by omega
                            rw [e9] at hlf
                            omega
                        have h92 : lf - 1 + cnt (rowOf pc rk) (fr + 1) = kk := by
                          have e9 : cnt (rowOf pc rk) (fr + 1) = cnt (rowOf pc rk) fr + 1 := by simp [cnt, hpofr]
                          omega
                        exact ihL (fr + 1) (lf - 1) h91 h92 (by omega) ls _ _ (lv_sub hl [2, 3, 4, 0, 1] rfl) hP hD hS
                | some pi =>
                  rw [hpofr] at er_6
                  have er_6 : r_6 = nI pi := er_6
                  have hpi := Nat.lt_of_lt_of_le (rowOf_lt hpofr) hrm
                  subst er_6
                  refine nv_if_ge (tgt := 61) hx hb dX1_kernelAt_53 (by decide) (by omega) (fun c_16 => ?_) (fun c_16 => ?_)
                  · refine lv_aload_n hx hb dX1_kernelAt_61 rfl (lv_at hl 0 rfl) ?_
                    refine lv_iload_n hx hb dX1_kernelAt_62 rfl (lv_at hl 3 rfl) ?_
                    refine rdv_i S (c_X1_rowOf l D (pc := pc) fr hn (by omega) (by omega) hg hpc) (cwV 1 hts gX1_kernelAt_X1_rowOf rfl rfl rfl (by decide +kernel) ⟨Nat.le_of_ble_eq_true rfl, Nat.le_of_ble_eq_true rfl⟩) rfl hK hP (ci := 1) rfl rfl hl.1 (rest := []) rfl (Nat.le_of_ble_eq_true rfl) dX1_kernelAt_63 ⟨Nat.zero_le _, Nat.zero_le _⟩ hP hS hA (fun r_17 H locs er_17 hP hS => ?_)
                    rw [hpofr] at er_17
                    have er_17 : r_17 = nI pi := er_17
                    subst er_17
                    refine nv_if_ge (tgt := 76) hx hb dX1_kernelAt_66 (by decide) (by omega) (fun c_18 => ?_) (fun c_18 => ?_)
                    · refine lv_iload hx hb dX1_kernelAt_76 (lv_at hl 4 rfl) ?_
                      refine lv_istore (lv' := [(4, .int (nI lf)), (0, .ref h), (1, .int (nI kk)), (2, .int (nI k1)), (3, .int (nI fr))]) hx hb dX1_kernelAt_78 hl (by decide) rfl (fun ls hl => ?_)
                      refine lv_iinc (v := nI (fr + 1)) (lv' := [(3, .int (nI (fr + 1))), (4, .int (nI lf)), (0, .ref h), (1, .int (nI kk)), (2, .int (nI k1))]) hx hb dX1_kernelAt_80 hl (k := 4) rfl (nv_inc fr 1) (by decide) rfl (fun ls hl => ?_)
                      refine lv_goto (tgt := 48) hx hb dX1_kernelAt_83 (by decide) ?_
                      have h91 : fr + 1 ≤ fc := by
                        rcases Nat.lt_or_ge fr fc with q | q
                        · omega
                        · have e9 : fr = fc := by omega
                          rw [e9, hfn] at hpofr
                          cases hpofr
                      have h92 : lf + cnt (rowOf pc rk) (fr + 1) = kk := by
                        have e9 : cnt (rowOf pc rk) (fr + 1) = cnt (rowOf pc rk) fr := by simp [cnt, hpofr]
                        omega
                      exact ihL (fr + 1) lf h91 h92 (by omega) ls _ _ (lv_sub hl [2, 3, 4, 0, 1] rfl) hP hD hS
                    · exact absurd c_18 (Nat.not_lt_zero _)
                  · exact absurd c_16 (Nat.not_lt_zero _)
            exact L (fc + 1) 0 kk (by omega) rfl (by omega) ls _ _ (lv_sub hl [2, 3, 4, 1, 0] rfl) hP hD hS
          · refine lv_iconst (v := (-1)) hx hb dX1_kernelAt_41 (by decide +kernel) ?_
            exact hret ((-1)) () 42 ls _ _ dX1_kernelAt_42 (rfl) hP hD hS (by simp [sKer, inb_f (i := j) (m := nC) (out_row (by omega) (Or.inr (le_of_nlt c_5))) (show nC < 2 ^ 31 by omega)])
