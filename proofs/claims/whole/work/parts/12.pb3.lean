set_option maxHeartbeats 4000000 in
set_option maxRecDepth 100000 in
theorem c_X0_get (l : Launch) (D : va_G) {h a1 a2 a3 a4 : Nat} {cA : ClassId} {mR nC : Nat} {fA fB fW fP : Nat → Int32} {rd pv pp : Nat} {pr : Int32} {A0 : Mat} (i j : Int32) (hm : mR ≤ 10) (hn : nC ≤ 10) (hA0 : Rp nC mR fA A0) : RdI l yX0_get wsX0_get ({ frames := 1, cells := 0, slots := 0, locals := 21 }) [.ref h, .int i, .int j] D (pbW h a1 a2 a3 a4 cA pr mR nC fA fB fW fP rd pv pp) [(cA, .int)] (fun r => r = sGet mR nC A0 i j) := by
  refine RdI.mk (cc := cX0_get) (maxL := 3) (rt := .int) (by decide) rfl (Nat.le_of_ble_eq_true rfl) ?_
  intro p e s mm args below meth c Q ls A S hK hP hA hS hl hret
  have hx := S.1
  have hb := S.2.1
  have hts := S.2.2.2.2
  have hown := S.2.2.2.1
  have hin : ∀ w ∈ wsX00, w ∈ wsX0_get := fun w h => List.mem_cons_of_mem _ (List.mem_append_right _ h)
  have hl : lv_has ls 3 [(0, .ref h), (1, .int i), (2, .int j)] := hl
  refine lv_aload_n hx hb dX0_get_0 rfl (lv_at hl 0 rfl) ?_
  refine lv_iload_n hx hb dX0_get_1 rfl (lv_at hl 1 rfl) ?_
  refine rdv_i S (c_X0_isRow l D i hm) (cwV 1 hts gX0_get_X0_isRow rfl rfl rfl (by decide +kernel) ⟨Nat.le_of_ble_eq_true rfl, Nat.le_of_ble_eq_true rfl⟩) rfl hK hP (ci := 0) rfl rfl hl.1 (rest := []) rfl (Nat.le_of_ble_eq_true rfl) dX0_get_2 ⟨Nat.zero_le _, Nat.zero_le _⟩ hP hS hA (fun r_1 H locs er_1 hP hS => ?_)
  rcases er_1 with ⟨k1, hk1, rfl, rfl⟩ | ⟨nok1, rfl⟩
  · refine nv_if_eq (tgt := 16) hx hb dX0_get_5 (by decide) (by decide) (fun q => absurd q (by decide)) (fun _ => ?_)
    refine lv_aload_n hx hb dX0_get_8 rfl (lv_at hl 0 rfl) ?_
    refine lv_iload_n hx hb dX0_get_9 rfl (lv_at hl 2 rfl) ?_
    refine rdv_i S (c_X0_isColumn l D j hn) (cwV 1 hts gX0_get_X0_isColumn rfl rfl rfl (by decide +kernel) ⟨Nat.le_of_ble_eq_true rfl, Nat.le_of_ble_eq_true rfl⟩) rfl hK hP (ci := 0) rfl rfl hl.1 (rest := []) rfl (Nat.le_of_ble_eq_true rfl) dX0_get_10 ⟨Nat.zero_le _, Nat.zero_le _⟩ hP hS hA (fun r_3 H locs er_3 hP hS => ?_)
    rcases er_3 with ⟨k2, hk2, rfl, rfl⟩ | ⟨nok2, rfl⟩
    · refine nv_if_ne (tgt := 18) hx hb dX0_get_13 (by decide) (by decide) (fun _ => ?_) (fun q => absurd q (by decide))
      refine lv_aload_n hx hb dX0_get_18 rfl (lv_at hl 0 rfl) ?_
      refine x0_get S hin hK hP rfl 3 (by decide) rfl (by decide +kernel) (v := .ref a1) rfl dX0_get_19 ?_
      refine lv_iload_n hx hb dX0_get_22 rfl (lv_at hl 1 rfl) ?_
      refine lv_aload_n hx hb dX0_get_23 rfl (lv_at hl 0 rfl) ?_
      refine x0_get S hin hK hP rfl 2 (by decide) rfl (by decide +kernel) (v := .int (nI nC)) rfl dX0_get_24 ?_
      refine nv_imul hx hb dX0_get_27 ?_
      refine lv_iload_n hx hb dX0_get_28 rfl (lv_at hl 2 rfl) ?_
      refine nv_iadd hx hb dX0_get_29 ?_
      refine nv_iald hx hb hK hP 1 0 rfl rfl (v := nI (A0 k1 k2)) (ix_lt hk1 hk2) (bd1 hm hn) (hA0 k1 hk1 k2 hk2) dX0_get_30 ?_
      exact hret (nI (A0 k1 k2)) 31 ls _ _ dX0_get_31 (rfl) hS (by simp [sGet, inb_t hk1 (show mR < 2 ^ 31 by omega), ix_n (show k1 < 2 ^ 31 by omega), inb_t hk2 (show nC < 2 ^ 31 by omega), ix_n (show k2 < 2 ^ 31 by omega)])
    · refine nv_if_ne (tgt := 18) hx hb dX0_get_13 (by decide) (by decide) (fun q => absurd q (by decide)) (fun _ => ?_)
      refine lv_iconst (v := (-1)) hx hb dX0_get_16 (by decide +kernel) ?_
      exact hret ((-1)) 17 ls _ _ dX0_get_17 (rfl) hS (by simp [sGet, inb_f nok2 (show nC < 2 ^ 31 by omega)])
  · refine nv_if_eq (tgt := 16) hx hb dX0_get_5 (by decide) (by decide) (fun _ => ?_) (fun q => absurd q (by decide))
    refine lv_iconst (v := (-1)) hx hb dX0_get_16 (by decide +kernel) ?_
    exact hret ((-1)) 17 ls _ _ dX0_get_17 (rfl) hS (by simp [sGet, inb_f nok1 (show mR < 2 ^ 31 by omega)])
set_option maxHeartbeats 4000000 in
set_option maxRecDepth 100000 in
theorem c_X0_set (l : Launch) (D : va_G) {h a1 a2 a3 a4 : Nat} {cA : ClassId} {mR nC : Nat} {fA fB fW fP : Nat → Int32} {rd pv pp : Nat} {pr : Int32} {P : Nat} {A0 : Mat} (i j x : Int32) (hm : mR ≤ 10) (hn : nC ≤ 10) (hV : 0 < mR → pr = nI P ∧ 2 ≤ P ∧ P < 2 ^ 31) (hA0 : Rp nC mR fA A0) : WrI (U := (Nat → Int32) × Nat) l yX0_set wsX0_set ({ frames := 1, cells := 0, slots := 0, locals := 21 }) [.ref h, .int i, .int j, .int x] D (pbW h a1 a2 a3 a4 cA pr mR nC fA fB fW fP rd pv pp) [(cA, .int)] (fun r u => (okSet mR nC i j x ∧ r = nI 1 ∧ Rp nC mR u.1 (mu A0 (ix i) (ix j) (ix x % P)) ∧ u.2 = 0) ∨ (¬ okSet mR nC i j x ∧ r = nI 0 ∧ u = (fA, rd))) (fun u => pbW h a1 a2 a3 a4 cA pr mR nC u.1 fB fW fP u.2 pv pp) := by
  refine WrI.mk (cc := cX0_set) (maxL := 4) (rt := .boolean) (by decide) rfl (Nat.le_of_ble_eq_true rfl) ?_
  intro p e s mm args below meth c Q ls A S hK hP hD hA hS hl hret
  have hx := S.1
  have hb := S.2.1
  have hts := S.2.2.2.2
  have hown := S.2.2.2.1
  have hin : ∀ w ∈ wsX00, w ∈ wsX0_set := fun w h => List.mem_cons_of_mem _ (List.mem_append_right _ h)
  have hl : lv_has ls 4 [(0, .ref h), (1, .int i), (2, .int j), (3, .int x)] := hl
  refine lv_aload_n hx hb dX0_set_0 rfl (lv_at hl 0 rfl) ?_
  refine lv_iload_n hx hb dX0_set_1 rfl (lv_at hl 1 rfl) ?_
  refine rdv_i S (c_X0_isRow l D i hm) (cwV 1 hts gX0_set_X0_isRow rfl rfl rfl (by decide +kernel) ⟨Nat.le_of_ble_eq_true rfl, Nat.le_of_ble_eq_true rfl⟩) rfl hK hP (ci := 0) rfl rfl hl.1 (rest := []) rfl (Nat.le_of_ble_eq_true rfl) dX0_set_2 ⟨Nat.zero_le _, Nat.zero_le _⟩ hP hS hA (fun r_1 H locs er_1 hP hS => ?_)
  rcases er_1 with ⟨k1, hk1, rfl, rfl⟩ | ⟨nok1, rfl⟩
  · refine nv_if_eq (tgt := 20) hx hb dX0_set_5 (by decide) (by decide) (fun q => absurd q (by decide)) (fun _ => ?_)
    refine lv_aload_n hx hb dX0_set_8 rfl (lv_at hl 0 rfl) ?_
    refine lv_iload_n hx hb dX0_set_9 rfl (lv_at hl 2 rfl) ?_
    refine rdv_i S (c_X0_isColumn l D j hn) (cwV 1 hts gX0_set_X0_isColumn rfl rfl rfl (by decide +kernel) ⟨Nat.le_of_ble_eq_true rfl, Nat.le_of_ble_eq_true rfl⟩) rfl hK hP (ci := 0) rfl rfl hl.1 (rest := []) rfl (Nat.le_of_ble_eq_true rfl) dX0_set_10 ⟨Nat.zero_le _, Nat.zero_le _⟩ hP hS hA (fun r_3 H locs er_3 hP hS => ?_)
    rcases er_3 with ⟨k2, hk2, rfl, rfl⟩ | ⟨nok2, rfl⟩
    · refine nv_if_eq (tgt := 20) hx hb dX0_set_13 (by decide) (by decide) (fun q => absurd q (by decide)) (fun _ => ?_)
      refine lv_iload_n hx hb dX0_set_16 rfl (lv_at hl 3 rfl) ?_
      refine lv_if_ge (tgt := 22) hx hb dX0_set_17 (by decide) (fun c_5 => ?_) (fun c_5 => ?_)
      · obtain ⟨xv, hxv, rfl⟩ := nn_of c_5
        obtain ⟨rfl, hP2, hPl⟩ := hV (by omega)
        refine lv_aload_n hx hb dX0_set_22 rfl (lv_at hl 0 rfl) ?_
        refine x0_get S hin hK hP rfl 3 (by decide) rfl (by decide +kernel) (v := .ref a1) rfl dX0_set_23 ?_
        refine lv_iload_n hx hb dX0_set_26 rfl (lv_at hl 1 rfl) ?_
        refine lv_aload_n hx hb dX0_set_27 rfl (lv_at hl 0 rfl) ?_
        refine x0_get S hin hK hP rfl 2 (by decide) rfl (by decide +kernel) (v := .int (nI nC)) rfl dX0_set_28 ?_
        refine nv_imul hx hb dX0_set_31 ?_
        refine lv_iload_n hx hb dX0_set_32 rfl (lv_at hl 2 rfl) ?_
        refine nv_iadd hx hb dX0_set_33 ?_
        refine lv_iload_n hx hb dX0_set_34 rfl (lv_at hl 3 rfl) ?_
        refine lv_aload_n hx hb dX0_set_35 rfl (lv_at hl 0 rfl) ?_
        refine x0_get S hin hK hP rfl 0 (by decide) rfl (by decide +kernel) (v := .int (nI P)) rfl dX0_set_36 ?_
        refine nv_irem hx hb (by omega) (by omega) (by omega) dX0_set_39 ?_
        refine nv_iast hx hb hK hP hD hS 1 0 rfl rfl (ix_lt hk1 hk2) (bd1 hm hn) dX0_set_40 (fun H locs hP hD hS => ?_)
        have hP : va_P D vwCl (pbW h a1 a2 a3 a4 cA (nI P) mR nC (upd fA ((k1 * nC) + k2) (nI (xv % P))) fB fW fP rd pv pp) H := hP
        have hD : va_D A (pbW h a1 a2 a3 a4 cA (nI P) mR nC (upd fA ((k1 * nC) + k2) (nI (xv % P))) fB fW fP rd pv pp) := hD
        refine lv_aload_n hx hb dX0_set_41 rfl (lv_at hl 0 rfl) ?_
        refine lv_iconst (v := nI 0) hx hb dX0_set_42 (by decide +kernel) ?_
        refine x0_put S hin hK hP hD hS rfl 8 (by decide) rfl (by decide +kernel) rfl (ty := .boolean) (v := .int (nI 0)) rfl (by decide +kernel) rfl (Nat.le_of_ble_eq_true rfl) dX0_set_43 (fun H locs hP hD hS => ?_)
        have hP : va_P D vwCl (pbW h a1 a2 a3 a4 cA (nI P) mR nC (upd fA ((k1 * nC) + k2) (nI (xv % P))) fB fW fP 0 pv pp) H := hP
        have hD : va_D A (pbW h a1 a2 a3 a4 cA (nI P) mR nC (upd fA ((k1 * nC) + k2) (nI (xv % P))) fB fW fP 0 pv pp) := hD
        refine lv_iconst (v := nI 1) hx hb dX0_set_46 (by decide +kernel) ?_
        exact hret (nI 1) (upd fA ((k1 * nC) + k2) (nI (xv % P)), 0) 47 ls _ _ dX0_set_47 (by decide +kernel) hP hD hS (by
            refine Or.inl ⟨⟨inb_t hk1 (by omega), inb_t hk2 (by omega), nn_t hxv⟩, rfl, ?_, rfl⟩
            rw [ix_n (show k1 < 2 ^ 31 by omega), ix_n (show k2 < 2 ^ 31 by omega), ix_n hxv]
            exact hA0.up hk2)
      · refine lv_iconst (v := nI 0) hx hb dX0_set_20 (by decide +kernel) ?_
        exact hret (nI 0) (fA, rd) 21 ls _ _ dX0_set_21 (by decide +kernel) hP hD hS (Or.inr ⟨by simp [okSet, nn_f c_5], rfl, rfl⟩)
    · refine nv_if_eq (tgt := 20) hx hb dX0_set_13 (by decide) (by decide) (fun _ => ?_) (fun q => absurd q (by decide))
      refine lv_iconst (v := nI 0) hx hb dX0_set_20 (by decide +kernel) ?_
      exact hret (nI 0) (fA, rd) 21 ls _ _ dX0_set_21 (by decide +kernel) hP hD hS (Or.inr ⟨by simp [okSet, inb_f nok2 (show nC < 2 ^ 31 by omega)], rfl, rfl⟩)
  · refine nv_if_eq (tgt := 20) hx hb dX0_set_5 (by decide) (by decide) (fun _ => ?_) (fun q => absurd q (by decide))
    refine lv_iconst (v := nI 0) hx hb dX0_set_20 (by decide +kernel) ?_
    exact hret (nI 0) (fA, rd) 21 ls _ _ dX0_set_21 (by decide +kernel) hP hD hS (Or.inr ⟨by simp [okSet, inb_f nok1 (show mR < 2 ^ 31 by omega)], rfl, rfl⟩)
set_option maxHeartbeats 4000000 in
set_option maxRecDepth 100000 in
theorem c_X0_setRhs (l : Launch) (D : va_G) {h a1 a2 a3 a4 : Nat} {cA : ClassId} {mR nC : Nat} {fA fB fW fP : Nat → Int32} {rd pv pp : Nat} {pr : Int32} {P : Nat} {b : Nat → Nat} (i x : Int32) (hm : mR ≤ 10) (hn : nC ≤ 10) (hV : 0 < mR → pr = nI P ∧ 2 ≤ P ∧ P < 2 ^ 31) (hb1 : ∀ a, a < mR → fB a = nI (b a)) : WrI (U := Nat → Int32) l yX0_setRhs wsX0_setRhs ({ frames := 1, cells := 0, slots := 0, locals := 21 }) [.ref h, .int i, .int x] D (pbW h a1 a2 a3 a4 cA pr mR nC fA fB fW fP rd pv pp) [(cA, .int)] (fun r u => (okRhs mR i x ∧ r = nI 1 ∧ ∀ a, a < mR → u a = nI (nb b (ix i) (ix x % P) a)) ∨ (¬ okRhs mR i x ∧ r = nI 0 ∧ u = fB)) (fun u => pbW h a1 a2 a3 a4 cA pr mR nC fA u fW fP rd pv pp) := by
  refine WrI.mk (cc := cX0_setRhs) (maxL := 3) (rt := .boolean) (by decide) rfl (Nat.le_of_ble_eq_true rfl) ?_
  intro p e s mm args below meth c Q ls A S hK hP hD hA hS hl hret
  have hx := S.1
  have hb := S.2.1
  have hts := S.2.2.2.2
  have hown := S.2.2.2.1
  have hin : ∀ w ∈ wsX00, w ∈ wsX0_setRhs := fun w h => List.mem_cons_of_mem _ (List.mem_append_right _ h)
  have hl : lv_has ls 3 [(0, .ref h), (1, .int i), (2, .int x)] := hl
  refine lv_aload_n hx hb dX0_setRhs_0 rfl (lv_at hl 0 rfl) ?_
  refine lv_iload_n hx hb dX0_setRhs_1 rfl (lv_at hl 1 rfl) ?_
  refine rdv_i S (c_X0_isRow l D i hm) (cwV 1 hts gX0_setRhs_X0_isRow rfl rfl rfl (by decide +kernel) ⟨Nat.le_of_ble_eq_true rfl, Nat.le_of_ble_eq_true rfl⟩) rfl hK hP (ci := 0) rfl rfl hl.1 (rest := []) rfl (Nat.le_of_ble_eq_true rfl) dX0_setRhs_2 ⟨Nat.zero_le _, Nat.zero_le _⟩ hP hS hA (fun r_1 H locs er_1 hP hS => ?_)
  rcases er_1 with ⟨k1, hk1, rfl, rfl⟩ | ⟨nok1, rfl⟩
  · refine nv_if_eq (tgt := 12) hx hb dX0_setRhs_5 (by decide) (by decide) (fun q => absurd q (by decide)) (fun _ => ?_)
    refine lv_iload_n hx hb dX0_setRhs_8 rfl (lv_at hl 2 rfl) ?_
    refine lv_if_ge (tgt := 14) hx hb dX0_setRhs_9 (by decide) (fun c_3 => ?_) (fun c_3 => ?_)
    · obtain ⟨xv, hxv, rfl⟩ := nn_of c_3
      obtain ⟨rfl, hP2, hPl⟩ := hV (by omega)
      refine lv_aload_n hx hb dX0_setRhs_14 rfl (lv_at hl 0 rfl) ?_
      refine x0_get S hin hK hP rfl 4 (by decide) rfl (by decide +kernel) (v := .ref a2) rfl dX0_setRhs_15 ?_
      refine lv_iload_n hx hb dX0_setRhs_18 rfl (lv_at hl 1 rfl) ?_
      refine lv_iload_n hx hb dX0_setRhs_19 rfl (lv_at hl 2 rfl) ?_
      refine lv_aload_n hx hb dX0_setRhs_20 rfl (lv_at hl 0 rfl) ?_
      refine x0_get S hin hK hP rfl 0 (by decide) rfl (by decide +kernel) (v := .int (nI P)) rfl dX0_setRhs_21 ?_
      refine nv_irem hx hb (by omega) (by omega) (by omega) dX0_setRhs_24 ?_
      refine nv_iast hx hb hK hP hD hS 2 0 rfl rfl hk1 (by omega) dX0_setRhs_25 (fun H locs hP hD hS => ?_)
      have hP : va_P D vwCl (pbW h a1 a2 a3 a4 cA (nI P) mR nC fA (upd fB k1 (nI (xv % P))) fW fP rd pv pp) H := hP
      have hD : va_D A (pbW h a1 a2 a3 a4 cA (nI P) mR nC fA (upd fB k1 (nI (xv % P))) fW fP rd pv pp) := hD
      refine lv_iconst (v := nI 1) hx hb dX0_setRhs_26 (by decide +kernel) ?_
      exact hret (nI 1) (upd fB k1 (nI (xv % P))) 27 ls _ _ dX0_setRhs_27 (by decide +kernel) hP hD hS (by
          refine Or.inl ⟨⟨inb_t hk1 (by omega), nn_t hxv⟩, rfl, ?_⟩
          rw [ix_n (show k1 < 2 ^ 31 by omega), ix_n hxv]
          intro a ha
          unfold upd nb
          split
          · rfl
          · exact hb1 a ha)
    · refine lv_iconst (v := nI 0) hx hb dX0_setRhs_12 (by decide +kernel) ?_
      exact hret (nI 0) fB 13 ls _ _ dX0_setRhs_13 (by decide +kernel) hP hD hS (Or.inr ⟨by simp [okRhs, nn_f c_3], rfl, rfl⟩)
  · refine nv_if_eq (tgt := 12) hx hb dX0_setRhs_5 (by decide) (by decide) (fun _ => ?_) (fun q => absurd q (by decide))
    refine lv_iconst (v := nI 0) hx hb dX0_setRhs_12 (by decide +kernel) ?_
    exact hret (nI 0) fB 13 ls _ _ dX0_setRhs_13 (by decide +kernel) hP hD hS (Or.inr ⟨by simp [okRhs, inb_f nok1 (show mR < 2 ^ 31 by omega)], rfl, rfl⟩)
set_option maxHeartbeats 4000000 in
set_option maxRecDepth 100000 in
theorem c_X0_reduce0 (l : Launch) (D : va_G) {h a1 a2 a3 a4 : Nat} {cA : ClassId} {mR nC : Nat} {fA fB fW fP : Nat → Int32} {rd pv pp : Nat} {pr : Int32} (hm0 : mR = 0) : WrI (U := Unit) l yX0_reduce wsX0_reduce ({ frames := 0, cells := 0, slots := 0, locals := 0 }) [.ref h] D (pbW h a1 a2 a3 a4 cA pr mR nC fA fB fW fP rd pv pp) [(cA, .int)] (fun r _ => r = -1) (fun _ => pbW h a1 a2 a3 a4 cA pr mR nC fA fB fW fP rd pv pp) := by
  refine WrI.mk (cc := cX0_reduce) (maxL := 2) (rt := .int) (by decide) rfl (Nat.le_of_ble_eq_true rfl) ?_
  intro p e s mm args below meth c Q ls A S hK hP hD hA hS hl hret
  have hx := S.1
  have hb := S.2.1
  have hts := S.2.2.2.2
  have hown := S.2.2.2.1
  have hin : ∀ w ∈ wsX00, w ∈ wsX0_reduce := fun w h => List.mem_cons_of_mem _ (List.mem_append_right _ h)
  have hl : lv_has ls 2 [(0, .ref h)] := hl
  refine lv_aload_n hx hb dX0_reduce_0 rfl (lv_at hl 0 rfl) ?_
  refine x0_get S hin hK hP rfl 1 (by decide) rfl (by decide +kernel) (v := .int (nI mR)) rfl dX0_reduce_1 ?_
  refine nv_if_ne (tgt := 9) hx hb dX0_reduce_4 (by decide) (by omega) (fun c_1 => ?_) (fun c_1 => ?_)
  · exact absurd hm0 (by omega)
  · refine lv_iconst (v := (-1)) hx hb dX0_reduce_7 (by decide +kernel) ?_
    exact hret ((-1)) () 8 ls _ _ dX0_reduce_8 (rfl) hP hD hS (rfl)
set_option maxHeartbeats 4000000 in
set_option maxRecDepth 100000 in
theorem c_X0_rank (l : Launch) (D : va_G) {h a1 a2 a3 a4 : Nat} {cA : ClassId} {mR nC : Nat} {fA fB fW fP : Nat → Int32} {rd pv pp : Nat} {pr : Int32} (hrd : rd < 2) : RdI l yX0_rank wsX0_rank ({ frames := 0, cells := 0, slots := 0, locals := 0 }) [.ref h] D (pbW h a1 a2 a3 a4 cA pr mR nC fA fB fW fP rd pv pp) [(cA, .int)] (fun r => r = sRank rd pv) := by
  refine RdI.mk (cc := cX0_rank) (maxL := 1) (rt := .int) (by decide) rfl (Nat.le_of_ble_eq_true rfl) ?_
  intro p e s mm args below meth c Q ls A S hK hP hA hS hl hret
  have hx := S.1
  have hb := S.2.1
  have hts := S.2.2.2.2
  have hown := S.2.2.2.1
  have hin : ∀ w ∈ wsX00, w ∈ wsX0_rank := fun w h => List.mem_cons_of_mem _ (List.mem_append_right _ h)
  have hl : lv_has ls 1 [(0, .ref h)] := hl
  refine lv_aload_n hx hb dX0_rank_0 rfl (lv_at hl 0 rfl) ?_
  refine x0_get S hin hK hP rfl 8 (by decide) rfl (by decide +kernel) (v := .int (nI rd)) rfl dX0_rank_1 ?_
  refine nv_if_eq (tgt := 14) hx hb dX0_rank_4 (by decide) (by omega) (fun c_1 => ?_) (fun c_1 => ?_)
  · refine lv_iconst (v := (-1)) hx hb dX0_rank_14 (by decide +kernel) ?_
    exact hret ((-1)) 15 ls _ _ dX0_rank_15 (rfl) hS (by simp [sRank, show rd = 0 by omega])
  · refine lv_aload_n hx hb dX0_rank_7 rfl (lv_at hl 0 rfl) ?_
    refine x0_get S hin hK hP rfl 9 (by decide) rfl (by decide +kernel) (v := .int (nI pv)) rfl dX0_rank_8 ?_
    refine lv_goto (tgt := 15) hx hb dX0_rank_11 (by decide) ?_
    exact hret (nI pv) 15 ls _ _ dX0_rank_15 (rfl) hS (by simp [sRank, show ¬ rd = 0 by omega])
set_option maxHeartbeats 4000000 in
set_option maxRecDepth 100000 in
theorem c_X0_rrefAt (l : Launch) (D : va_G) {h a1 a2 a3 a4 : Nat} {cA : ClassId} {mR nC : Nat} {fA fB fW fP : Nat → Int32} {rd pv pp : Nat} {pr : Int32} {P : Nat} {M : Mat} {po : Nat → Option Nat} (i j : Int32) (hm : mR ≤ 10) (hn : nC ≤ 10) (hV : 0 < mR → pr = nI P ∧ 2 ≤ P ∧ P < 2 ^ 31) (hrd : rd < 2) (hQ : rd ≠ 0 → 0 < mR ∧ PbQ P mR nC fW fP pv pp M po) : RdI l yX0_rrefAt wsX0_rrefAt ({ frames := 1, cells := 0, slots := 0, locals := 21 }) [.ref h, .int i, .int j] D (pbW h a1 a2 a3 a4 cA pr mR nC fA fB fW fP rd pv pp) [(cA, .int)] (fun r => r = sRref rd mR nC M i j) := by
  refine RdI.mk (cc := cX0_rrefAt) (maxL := 3) (rt := .int) (by decide) rfl (Nat.le_of_ble_eq_true rfl) ?_
  intro p e s mm args below meth c Q ls A S hK hP hA hS hl hret
  have hx := S.1
  have hb := S.2.1
  have hts := S.2.2.2.2
  have hown := S.2.2.2.1
  have hin : ∀ w ∈ wsX00, w ∈ wsX0_rrefAt := fun w h => List.mem_cons_of_mem _ (List.mem_append_right _ h)
  have hl : lv_has ls 3 [(0, .ref h), (1, .int i), (2, .int j)] := hl
  refine lv_aload_n hx hb dX0_rrefAt_0 rfl (lv_at hl 0 rfl) ?_
  refine x0_get S hin hK hP rfl 8 (by decide) rfl (by decide +kernel) (v := .int (nI rd)) rfl dX0_rrefAt_1 ?_
  refine nv_if_eq (tgt := 23) hx hb dX0_rrefAt_4 (by decide) (by omega) (fun c_1 => ?_) (fun c_1 => ?_)
  · refine lv_iconst (v := (-1)) hx hb dX0_rrefAt_23 (by decide +kernel) ?_
    exact hret ((-1)) 24 ls _ _ dX0_rrefAt_24 (rfl) hS (by simp [sRref, c_1])
  · have hrd0 : rd ≠ 0 := by omega
    obtain ⟨hm0, hM, hB, hfP, hpo, hpv, hpn, hpp⟩ := hQ hrd0
    obtain ⟨rfl, hP2, hPl⟩ := hV hm0
    refine lv_aload_n hx hb dX0_rrefAt_7 rfl (lv_at hl 0 rfl) ?_
    refine lv_iload_n hx hb dX0_rrefAt_8 rfl (lv_at hl 1 rfl) ?_
    refine rdv_i S (c_X0_isRow l D i hm) (cwV 1 hts gX0_rrefAt_X0_isRow rfl rfl rfl (by decide +kernel) ⟨Nat.le_of_ble_eq_true rfl, Nat.le_of_ble_eq_true rfl⟩) rfl hK hP (ci := 0) rfl rfl hl.1 (rest := []) rfl (Nat.le_of_ble_eq_true rfl) dX0_rrefAt_9 ⟨Nat.zero_le _, Nat.zero_le _⟩ hP hS hA (fun r_2 H locs er_2 hP hS => ?_)
    rcases er_2 with ⟨k1, hk1, rfl, rfl⟩ | ⟨nok1, rfl⟩
    · refine nv_if_eq (tgt := 23) hx hb dX0_rrefAt_12 (by decide) (by decide) (fun q => absurd q (by decide)) (fun _ => ?_)
      refine lv_aload_n hx hb dX0_rrefAt_15 rfl (lv_at hl 0 rfl) ?_
      refine lv_iload_n hx hb dX0_rrefAt_16 rfl (lv_at hl 2 rfl) ?_
      refine rdv_i S (c_X0_isColumn l D j hn) (cwV 1 hts gX0_rrefAt_X0_isColumn rfl rfl rfl (by decide +kernel) ⟨Nat.le_of_ble_eq_true rfl, Nat.le_of_ble_eq_true rfl⟩) rfl hK hP (ci := 0) rfl rfl hl.1 (rest := []) rfl (Nat.le_of_ble_eq_true rfl) dX0_rrefAt_17 ⟨Nat.zero_le _, Nat.zero_le _⟩ hP hS hA (fun r_4 H locs er_4 hP hS => ?_)
      rcases er_4 with ⟨k2, hk2, rfl, rfl⟩ | ⟨nok2, rfl⟩
      · refine nv_if_ne (tgt := 25) hx hb dX0_rrefAt_20 (by decide) (by decide) (fun _ => ?_) (fun q => absurd q (by decide))
        refine lv_aload_n hx hb dX0_rrefAt_25 rfl (lv_at hl 0 rfl) ?_
        refine x0_get S hin hK hP rfl 5 (by decide) rfl (by decide +kernel) (v := .ref a3) rfl dX0_rrefAt_26 ?_
        refine lv_iload_n hx hb dX0_rrefAt_29 rfl (lv_at hl 1 rfl) ?_
        refine lv_aload_n hx hb dX0_rrefAt_30 rfl (lv_at hl 0 rfl) ?_
        refine x0_get S hin hK hP rfl 6 (by decide) rfl (by decide +kernel) (v := .int (nI (nC + mR))) rfl dX0_rrefAt_31 ?_
        refine nv_imul hx hb dX0_rrefAt_34 ?_
        refine lv_iload_n hx hb dX0_rrefAt_35 rfl (lv_at hl 2 rfl) ?_
        refine nv_iadd hx hb dX0_rrefAt_36 ?_
        refine nv_iald hx hb hK hP 3 0 rfl rfl (v := nI (M k1 k2)) (ix_lt hk1 (by omega)) (bd3 hm hn) (by rw [hM k1 hk1 k2 (by omega), lm_lt hk2]) dX0_rrefAt_37 ?_
        exact hret (nI (M k1 k2)) 38 ls _ _ dX0_rrefAt_38 (rfl) hS (by simp [sRref, hrd0, inb_t hk1 (show mR < 2 ^ 31 by omega), ix_n (show k1 < 2 ^ 31 by omega), inb_t hk2 (show nC < 2 ^ 31 by omega), ix_n (show k2 < 2 ^ 31 by omega)])
      · refine nv_if_ne (tgt := 25) hx hb dX0_rrefAt_20 (by decide) (by decide) (fun q => absurd q (by decide)) (fun _ => ?_)
        refine lv_iconst (v := (-1)) hx hb dX0_rrefAt_23 (by decide +kernel) ?_
        exact hret ((-1)) 24 ls _ _ dX0_rrefAt_24 (rfl) hS (by simp [sRref, inb_f nok2 (show nC < 2 ^ 31 by omega)])
    · refine nv_if_eq (tgt := 23) hx hb dX0_rrefAt_12 (by decide) (by decide) (fun _ => ?_) (fun q => absurd q (by decide))
      refine lv_iconst (v := (-1)) hx hb dX0_rrefAt_23 (by decide +kernel) ?_
      exact hret ((-1)) 24 ls _ _ dX0_rrefAt_24 (rfl) hS (by simp [sRref, inb_f nok1 (show mR < 2 ^ 31 by omega)])
set_option maxHeartbeats 4000000 in
set_option maxRecDepth 100000 in
theorem c_X0_transformAt (l : Launch) (D : va_G) {h a1 a2 a3 a4 : Nat} {cA : ClassId} {mR nC : Nat} {fA fB fW fP : Nat → Int32} {rd pv pp : Nat} {pr : Int32} {P : Nat} {M : Mat} {po : Nat → Option Nat} (i j : Int32) (hm : mR ≤ 10) (hn : nC ≤ 10) (hV : 0 < mR → pr = nI P ∧ 2 ≤ P ∧ P < 2 ^ 31) (hrd : rd < 2) (hQ : rd ≠ 0 → 0 < mR ∧ PbQ P mR nC fW fP pv pp M po) : RdI l yX0_transformAt wsX0_transformAt ({ frames := 1, cells := 0, slots := 0, locals := 22 }) [.ref h, .int i, .int j] D (pbW h a1 a2 a3 a4 cA pr mR nC fA fB fW fP rd pv pp) [(cA, .int)] (fun r => r = sTr rd mR M i j) := by
  refine RdI.mk (cc := cX0_transformAt) (maxL := 3) (rt := .int) (by decide) rfl (Nat.le_of_ble_eq_true rfl) ?_
  intro p e s mm args below meth c Q ls A S hK hP hA hS hl hret
  have hx := S.1
  have hb := S.2.1
  have hts := S.2.2.2.2
  have hown := S.2.2.2.1
  have hin : ∀ w ∈ wsX00, w ∈ wsX0_transformAt := fun w h => List.mem_cons_of_mem _ (List.mem_append_right _ h)
  have hl : lv_has ls 3 [(0, .ref h), (1, .int i), (2, .int j)] := hl
  refine lv_aload_n hx hb dX0_transformAt_0 rfl (lv_at hl 0 rfl) ?_
  refine x0_get S hin hK hP rfl 8 (by decide) rfl (by decide +kernel) (v := .int (nI rd)) rfl dX0_transformAt_1 ?_
  refine nv_if_eq (tgt := 23) hx hb dX0_transformAt_4 (by decide) (by omega) (fun c_1 => ?_) (fun c_1 => ?_)
  · refine lv_iconst (v := (-1)) hx hb dX0_transformAt_23 (by decide +kernel) ?_
    exact hret ((-1)) 24 ls _ _ dX0_transformAt_24 (rfl) hS (by simp [sTr, c_1])
  · have hrd0 : rd ≠ 0 := by omega
    obtain ⟨hm0, hM, hB, hfP, hpo, hpv, hpn, hpp⟩ := hQ hrd0
    obtain ⟨rfl, hP2, hPl⟩ := hV hm0
    refine lv_aload_n hx hb dX0_transformAt_7 rfl (lv_at hl 0 rfl) ?_
    refine lv_iload_n hx hb dX0_transformAt_8 rfl (lv_at hl 1 rfl) ?_
    refine rdv_i S (c_X0_isRow l D i hm) (cwV 1 hts gX0_transformAt_X0_isRow rfl rfl rfl (by decide +kernel) ⟨Nat.le_of_ble_eq_true rfl, Nat.le_of_ble_eq_true rfl⟩) rfl hK hP (ci := 0) rfl rfl hl.1 (rest := []) rfl (Nat.le_of_ble_eq_true rfl) dX0_transformAt_9 ⟨Nat.zero_le _, Nat.zero_le _⟩ hP hS hA (fun r_2 H locs er_2 hP hS => ?_)
    rcases er_2 with ⟨k1, hk1, rfl, rfl⟩ | ⟨nok1, rfl⟩
    · refine nv_if_eq (tgt := 23) hx hb dX0_transformAt_12 (by decide) (by decide) (fun q => absurd q (by decide)) (fun _ => ?_)
      refine lv_aload_n hx hb dX0_transformAt_15 rfl (lv_at hl 0 rfl) ?_
      refine lv_iload_n hx hb dX0_transformAt_16 rfl (lv_at hl 2 rfl) ?_
      refine rdv_i S (c_X0_isRow l D j hm) (cwV 1 hts gX0_transformAt_X0_isRow rfl rfl rfl (by decide +kernel) ⟨Nat.le_of_ble_eq_true rfl, Nat.le_of_ble_eq_true rfl⟩) rfl hK hP (ci := 0) rfl rfl hl.1 (rest := []) rfl (Nat.le_of_ble_eq_true rfl) dX0_transformAt_17 ⟨Nat.zero_le _, Nat.zero_le _⟩ hP hS hA (fun r_4 H locs er_4 hP hS => ?_)
      rcases er_4 with ⟨k2, hk2, rfl, rfl⟩ | ⟨nok2, rfl⟩
      · refine nv_if_ne (tgt := 25) hx hb dX0_transformAt_20 (by decide) (by decide) (fun _ => ?_) (fun q => absurd q (by decide))
        refine lv_aload_n hx hb dX0_transformAt_25 rfl (lv_at hl 0 rfl) ?_
        refine lv_iload_n hx hb dX0_transformAt_26 rfl (lv_at hl 1 rfl) ?_
        refine lv_iload_n hx hb dX0_transformAt_27 rfl (lv_at hl 2 rfl) ?_
        refine rdv_i S (c_X0_transformNumber l D (M := lm nC M) k1 k2 hm hn hk1 hk2 hM) (cwV 2 hts gX0_transformAt_X0_transformNumber rfl rfl rfl (by decide +kernel) ⟨Nat.le_of_ble_eq_true rfl, Nat.le_of_ble_eq_true rfl⟩) rfl hK hP (ci := 0) rfl rfl hl.1 (rest := []) rfl (Nat.le_of_ble_eq_true rfl) dX0_transformAt_28 ⟨Nat.zero_le _, Nat.zero_le _⟩ hP hS hA (fun r_6 H locs er_6 hP hS => ?_)
        have er_6 : r_6 = nI (M k1 (10 + k2)) := by rw [er_6]; show nI (M k1 (lay nC (nC + k2))) = _; rw [lay_T]
        subst er_6
        exact hret (nI (M k1 (10 + k2))) 31 ls _ _ dX0_transformAt_31 (rfl) hS (by simp [sTr, hrd0, inb_t hk1 (show mR < 2 ^ 31 by omega), ix_n (show k1 < 2 ^ 31 by omega), inb_t hk2 (show mR < 2 ^ 31 by omega), ix_n (show k2 < 2 ^ 31 by omega)])
      · refine nv_if_ne (tgt := 25) hx hb dX0_transformAt_20 (by decide) (by decide) (fun q => absurd q (by decide)) (fun _ => ?_)
        refine lv_iconst (v := (-1)) hx hb dX0_transformAt_23 (by decide +kernel) ?_
        exact hret ((-1)) 24 ls _ _ dX0_transformAt_24 (rfl) hS (by simp [sTr, inb_f nok2 (show mR < 2 ^ 31 by omega)])
    · refine nv_if_eq (tgt := 23) hx hb dX0_transformAt_12 (by decide) (by decide) (fun _ => ?_) (fun q => absurd q (by decide))
      refine lv_iconst (v := (-1)) hx hb dX0_transformAt_23 (by decide +kernel) ?_
      exact hret ((-1)) 24 ls _ _ dX0_transformAt_24 (rfl) hS (by simp [sTr, inb_f nok1 (show mR < 2 ^ 31 by omega)])
set_option maxHeartbeats 4000000 in
set_option maxRecDepth 100000 in
theorem c_X0_det (l : Launch) (D : va_G) {h a1 a2 a3 a4 : Nat} {cA : ClassId} {mR nC : Nat} {fA fB fW fP : Nat → Int32} {rd pv pp : Nat} {pr : Int32} {P : Nat} {M : Mat} {po : Nat → Option Nat} (hm : mR ≤ 10) (hn : nC ≤ 10) (hV : 0 < mR → pr = nI P ∧ 2 ≤ P ∧ P < 2 ^ 31) (hrd : rd < 2) (hQ : rd ≠ 0 → 0 < mR ∧ PbQ P mR nC fW fP pv pp M po) : RdI l yX0_det wsX0_det ({ frames := 0, cells := 0, slots := 0, locals := 0 }) [.ref h] D (pbW h a1 a2 a3 a4 cA pr mR nC fA fB fW fP rd pv pp) [(cA, .int)] (fun r => r = sDet rd mR nC pv pp) := by
  refine RdI.mk (cc := cX0_det) (maxL := 1) (rt := .int) (by decide) rfl (Nat.le_of_ble_eq_true rfl) ?_
  intro p e s mm args below meth c Q ls A S hK hP hA hS hl hret
  have hx := S.1
  have hb := S.2.1
  have hts := S.2.2.2.2
  have hown := S.2.2.2.1
  have hin : ∀ w ∈ wsX00, w ∈ wsX0_det := fun w h => List.mem_cons_of_mem _ (List.mem_append_right _ h)
  have hl : lv_has ls 1 [(0, .ref h)] := hl
  refine lv_aload_n hx hb dX0_det_0 rfl (lv_at hl 0 rfl) ?_
  refine x0_get S hin hK hP rfl 8 (by decide) rfl (by decide +kernel) (v := .int (nI rd)) rfl dX0_det_1 ?_
  refine nv_if_eq (tgt := 18) hx hb dX0_det_4 (by decide) (by omega) (fun c_1 => ?_) (fun c_1 => ?_)
  · refine lv_iconst (v := (-1)) hx hb dX0_det_18 (by decide +kernel) ?_
    exact hret ((-1)) 19 ls _ _ dX0_det_19 (rfl) hS (by simp [sDet, c_1])
  · have hrd0 : rd ≠ 0 := by omega
    obtain ⟨hm0, hM, hB, hfP, hpo, hpv, hpn, hpp⟩ := hQ hrd0
    obtain ⟨rfl, hP2, hPl⟩ := hV hm0
    refine lv_aload_n hx hb dX0_det_7 rfl (lv_at hl 0 rfl) ?_
    refine x0_get S hin hK hP rfl 1 (by decide) rfl (by decide +kernel) (v := .int (nI mR)) rfl dX0_det_8 ?_
    refine lv_aload_n hx hb dX0_det_11 rfl (lv_at hl 0 rfl) ?_
    refine x0_get S hin hK hP rfl 2 (by decide) rfl (by decide +kernel) (v := .int (nI nC)) rfl dX0_det_12 ?_
    refine nv_icmp_eq (tgt := 20) hx hb dX0_det_15 (by decide) (by omega) (by omega) (fun c_2 => ?_) (fun c_2 => ?_)
    · refine lv_aload_n hx hb dX0_det_20 rfl (lv_at hl 0 rfl) ?_
      refine x0_get S hin hK hP rfl 9 (by decide) rfl (by decide +kernel) (v := .int (nI pv)) rfl dX0_det_21 ?_
      refine lv_aload_n hx hb dX0_det_24 rfl (lv_at hl 0 rfl) ?_
      refine x0_get S hin hK hP rfl 2 (by decide) rfl (by decide +kernel) (v := .int (nI nC)) rfl dX0_det_25 ?_
      refine nv_icmp_ge (tgt := 35) hx hb dX0_det_28 (by decide) (by omega) (by omega) (fun c_3 => ?_) (fun c_3 => ?_)
      · refine lv_aload_n hx hb dX0_det_35 rfl (lv_at hl 0 rfl) ?_
        refine x0_get S hin hK hP rfl 10 (by decide) rfl (by decide +kernel) (v := .long (lN pp)) rfl dX0_det_36 ?_
        refine nv_l2i hx hb dX0_det_39 ?_
        exact hret (nI pp) 40 ls _ _ dX0_det_40 (rfl) hS (by simp [sDet, hrd0, c_2, show ¬ pv < nC by omega])
      · refine lv_iconst (v := nI 0) hx hb dX0_det_31 (by decide +kernel) ?_
        refine lv_goto (tgt := 40) hx hb dX0_det_32 (by decide) ?_
        exact hret (nI 0) 40 ls _ _ dX0_det_40 (rfl) hS (by simp [sDet, hrd0, c_2, show pv < nC by omega])
    · refine lv_iconst (v := (-1)) hx hb dX0_det_18 (by decide +kernel) ?_
      exact hret ((-1)) 19 ls _ _ dX0_det_19 (rfl) hS (by simp [sDet, c_2])
set_option maxHeartbeats 4000000 in
set_option maxRecDepth 100000 in
theorem c_X0_inverseAt (l : Launch) (D : va_G) {h a1 a2 a3 a4 : Nat} {cA : ClassId} {mR nC : Nat} {fA fB fW fP : Nat → Int32} {rd pv pp : Nat} {pr : Int32} {P : Nat} {M : Mat} {po : Nat → Option Nat} (i j : Int32) (hm : mR ≤ 10) (hn : nC ≤ 10) (hV : 0 < mR → pr = nI P ∧ 2 ≤ P ∧ P < 2 ^ 31) (hrd : rd < 2) (hQ : rd ≠ 0 → 0 < mR ∧ PbQ P mR nC fW fP pv pp M po) (hpv9 : pv < 2 ^ 31) : RdI l yX0_inverseAt wsX0_inverseAt ({ frames := 1, cells := 0, slots := 0, locals := 22 }) [.ref h, .int i, .int j] D (pbW h a1 a2 a3 a4 cA pr mR nC fA fB fW fP rd pv pp) [(cA, .int)] (fun r => r = sInv rd mR nC pv M i j) := by
  refine RdI.mk (cc := cX0_inverseAt) (maxL := 3) (rt := .int) (by decide) rfl (Nat.le_of_ble_eq_true rfl) ?_
  intro p e s mm args below meth c Q ls A S hK hP hA hS hl hret
  have hx := S.1
  have hb := S.2.1
  have hts := S.2.2.2.2
  have hown := S.2.2.2.1
  have hin : ∀ w ∈ wsX00, w ∈ wsX0_inverseAt := fun w h => List.mem_cons_of_mem _ (List.mem_append_right _ h)
  have hl : lv_has ls 3 [(0, .ref h), (1, .int i), (2, .int j)] := hl
  refine lv_aload_n hx hb dX0_inverseAt_0 rfl (lv_at hl 0 rfl) ?_
  refine rdv_i S (c_X0_hasInverse l D hm hn (by omega) hpv9) (cwV 0 hts gX0_inverseAt_X0_hasInverse rfl rfl rfl (by decide +kernel) ⟨Nat.le_of_ble_eq_true rfl, Nat.le_of_ble_eq_true rfl⟩) rfl hK hP (ci := 0) rfl rfl hl.1 (rest := []) rfl (Nat.le_of_ble_eq_true rfl) dX0_inverseAt_1 ⟨Nat.zero_le _, Nat.zero_le _⟩ hP hS hA (fun r_1 H locs er_1 hP hS => ?_)
  by_cases hI : rd ≠ 0 ∧ mR = nC ∧ pv = nC
  · rw [if_pos hI] at er_1
    subst er_1
    have hrd0 : rd ≠ 0 := by omega
    obtain ⟨hm0, hM, hB, hfP, hpo, hpv, hpn, hpp⟩ := hQ hrd0
    obtain ⟨rfl, hP2, hPl⟩ := hV hm0
    refine nv_if_eq (tgt := 23) hx hb dX0_inverseAt_4 (by decide) (by decide) (fun q => absurd q (by decide)) (fun _ => ?_)
    refine lv_aload_n hx hb dX0_inverseAt_7 rfl (lv_at hl 0 rfl) ?_
    refine lv_iload_n hx hb dX0_inverseAt_8 rfl (lv_at hl 1 rfl) ?_
    refine rdv_i S (c_X0_isRow l D i hm) (cwV 1 hts gX0_inverseAt_X0_isRow rfl rfl rfl (by decide +kernel) ⟨Nat.le_of_ble_eq_true rfl, Nat.le_of_ble_eq_true rfl⟩) rfl hK hP (ci := 0) rfl rfl hl.1 (rest := []) rfl (Nat.le_of_ble_eq_true rfl) dX0_inverseAt_9 ⟨Nat.zero_le _, Nat.zero_le _⟩ hP hS hA (fun r_3 H locs er_3 hP hS => ?_)
    rcases er_3 with ⟨k1, hk1, rfl, rfl⟩ | ⟨nok1, rfl⟩
    · refine nv_if_eq (tgt := 23) hx hb dX0_inverseAt_12 (by decide) (by decide) (fun q => absurd q (by decide)) (fun _ => ?_)
      refine lv_aload_n hx hb dX0_inverseAt_15 rfl (lv_at hl 0 rfl) ?_
      refine lv_iload_n hx hb dX0_inverseAt_16 rfl (lv_at hl 2 rfl) ?_
      refine rdv_i S (c_X0_isRow l D j hm) (cwV 1 hts gX0_inverseAt_X0_isRow rfl rfl rfl (by decide +kernel) ⟨Nat.le_of_ble_eq_true rfl, Nat.le_of_ble_eq_true rfl⟩) rfl hK hP (ci := 0) rfl rfl hl.1 (rest := []) rfl (Nat.le_of_ble_eq_true rfl) dX0_inverseAt_17 ⟨Nat.zero_le _, Nat.zero_le _⟩ hP hS hA (fun r_5 H locs er_5 hP hS => ?_)
      rcases er_5 with ⟨k2, hk2, rfl, rfl⟩ | ⟨nok2, rfl⟩
      · refine nv_if_ne (tgt := 25) hx hb dX0_inverseAt_20 (by decide) (by decide) (fun _ => ?_) (fun q => absurd q (by decide))
        refine lv_aload_n hx hb dX0_inverseAt_25 rfl (lv_at hl 0 rfl) ?_
        refine lv_iload_n hx hb dX0_inverseAt_26 rfl (lv_at hl 1 rfl) ?_
        refine lv_iload_n hx hb dX0_inverseAt_27 rfl (lv_at hl 2 rfl) ?_
        refine rdv_i S (c_X0_transformNumber l D (M := lm nC M) k1 k2 hm hn hk1 hk2 hM) (cwV 2 hts gX0_inverseAt_X0_transformNumber rfl rfl rfl (by decide +kernel) ⟨Nat.le_of_ble_eq_true rfl, Nat.le_of_ble_eq_true rfl⟩) rfl hK hP (ci := 0) rfl rfl hl.1 (rest := []) rfl (Nat.le_of_ble_eq_true rfl) dX0_inverseAt_28 ⟨Nat.zero_le _, Nat.zero_le _⟩ hP hS hA (fun r_7 H locs er_7 hP hS => ?_)
        have er_7 : r_7 = nI (M k1 (10 + k2)) := by rw [er_7]; show nI (M k1 (lay nC (nC + k2))) = _; rw [lay_T]
        subst er_7
        exact hret (nI (M k1 (10 + k2))) 31 ls _ _ dX0_inverseAt_31 (rfl) hS (by
            unfold sInv
            rw [if_pos ⟨hI, inb_t hk1 (by omega), inb_t hk2 (by omega)⟩, ix_n (show k1 < 2 ^ 31 by omega), ix_n (show k2 < 2 ^ 31 by omega)])
      · refine nv_if_ne (tgt := 25) hx hb dX0_inverseAt_20 (by decide) (by decide) (fun q => absurd q (by decide)) (fun _ => ?_)
        refine lv_iconst (v := (-1)) hx hb dX0_inverseAt_23 (by decide +kernel) ?_
        exact hret ((-1)) 24 ls _ _ dX0_inverseAt_24 (rfl) hS (by
            unfold sInv
            rw [if_neg]
            simp [inb_f nok2 (show mR < 2 ^ 31 by omega)])
    · refine nv_if_eq (tgt := 23) hx hb dX0_inverseAt_12 (by decide) (by decide) (fun _ => ?_) (fun q => absurd q (by decide))
      refine lv_iconst (v := (-1)) hx hb dX0_inverseAt_23 (by decide +kernel) ?_
      exact hret ((-1)) 24 ls _ _ dX0_inverseAt_24 (rfl) hS (by
          unfold sInv
          rw [if_neg]
          simp [inb_f nok1 (show mR < 2 ^ 31 by omega)])
  · rw [if_neg hI] at er_1
    subst er_1
    refine nv_if_eq (tgt := 23) hx hb dX0_inverseAt_4 (by decide) (by decide) (fun _ => ?_) (fun q => absurd q (by decide))
    refine lv_iconst (v := (-1)) hx hb dX0_inverseAt_23 (by decide +kernel) ?_
    exact hret ((-1)) 24 ls _ _ dX0_inverseAt_24 (rfl) hS (by
        unfold sInv
        rw [if_neg]
        exact fun z => hI z.1)
set_option maxHeartbeats 4000000 in
set_option maxRecDepth 100000 in
theorem c_X0_solvable (l : Launch) (D : va_G) {h a1 a2 a3 a4 : Nat} {cA : ClassId} {mR nC : Nat} {fA fB fW fP : Nat → Int32} {rd pv pp : Nat} {pr : Int32} {P : Nat} {M : Mat} {po : Nat → Option Nat} {b : Nat → Nat} (hm : mR ≤ 10) (hn : nC ≤ 10) (hV : 0 < mR → pr = nI P ∧ 2 ≤ P ∧ P < 2 ^ 31) (hrd : rd < 2) (hQ : rd ≠ 0 → 0 < mR ∧ PbQ P mR nC fW fP pv pp M po) (hbb : 0 < mR → ∀ i, b i < P) (hb1 : ∀ i, i < mR → fB i = nI (b i)) : RdI l yX0_solvable wsX0_solvable ({ frames := 2, cells := 0, slots := 0, locals := 46 }) [.ref h] D (pbW h a1 a2 a3 a4 cA pr mR nC fA fB fW fP rd pv pp) [(cA, .int)] (fun r => r = sSlv rd P mR M b pv) := by
  refine RdI.mk (cc := cX0_solvable) (maxL := 2) (rt := .boolean) (by decide) rfl (Nat.le_of_ble_eq_true rfl) ?_
  intro p e s mm args below meth c Q ls A S hK hP hA hS hl hret
  have hx := S.1
  have hb := S.2.1
  have hts := S.2.2.2.2
  have hown := S.2.2.2.1
  have hin : ∀ w ∈ wsX00, w ∈ wsX0_solvable := fun w h => List.mem_cons_of_mem _ (List.mem_append_right _ h)
  have hl : lv_has ls 2 [(0, .ref h)] := hl
  refine lv_aload_n hx hb dX0_solvable_0 rfl (lv_at hl 0 rfl) ?_
  refine x0_get S hin hK hP rfl 8 (by decide) rfl (by decide +kernel) (v := .int (nI rd)) rfl dX0_solvable_1 ?_
  refine nv_if_ne (tgt := 9) hx hb dX0_solvable_4 (by decide) (by omega) (fun c_1 => ?_) (fun c_1 => ?_)
  · have hrd0 : rd ≠ 0 := by omega
    obtain ⟨hm0, hM, hB, hfP, hpo, hpv, hpn, hpp⟩ := hQ hrd0
    obtain ⟨rfl, hP2, hPl⟩ := hV hm0
    refine lv_aload_n hx hb dX0_solvable_9 rfl (lv_at hl 0 rfl) ?_
    refine x0_get S hin hK hP rfl 9 (by decide) rfl (by decide +kernel) (v := .int (nI pv)) rfl dX0_solvable_10 ?_
    refine lv_istore_n (lv' := [(1, .int (nI pv)), (0, .ref h)]) hx hb dX0_solvable_13 rfl hl (by decide) rfl (fun ls hl => ?_)
    have L : ∀ (nL : Nat) (i : Nat), (i ≤ mR) → (allz (fun row => chg P (fun k => M row (10 + k)) b mR) (mR - i) i = slv P mR M b pv) → (mR + 1 ≤ i + nL) → ∀ (ls : Array Slot) (H : Heap) (locs : List Loc), lv_has ls 2 [(0, .ref h), (1, .int (nI i))] → va_P D vwCl (pbW h a1 a2 a3 a4 cA (nI P) mR nC fA fB fW fP rd pv pp) H → va_S A s.heap H locs → W p l e ({ frames := 2, cells := 0, slots := 0, locals := 46 }) s mm args below meth c H locs 0 0 Q (F0 mm 14 ls []) := by
      intro nL
      induction nL with
      | zero => intro i hi hinv hfuel; exfalso; omega
      | succ nL ihL =>
        intro i hi hinv hfuel ls H locs hl hP hS
        refine lv_iload_n hx hb dX0_solvable_14 rfl (lv_at hl 1 rfl) ?_
        refine lv_aload_n hx hb dX0_solvable_15 rfl (lv_at hl 0 rfl) ?_
        refine x0_get S hin hK hP rfl 1 (by decide) rfl (by decide +kernel) (v := .int (nI mR)) rfl dX0_solvable_16 ?_
        refine nv_icmp_ge (tgt := 38) hx hb dX0_solvable_19 (by decide) (by omega) (by omega) (fun c_2 => ?_) (fun c_2 => ?_)
        · refine lv_iconst (v := nI 1) hx hb dX0_solvable_38 (by decide +kernel) ?_
          exact hret (nI 1) 39 ls _ _ dX0_solvable_39 (by decide +kernel) hS (by
              have e1 : slv P mR M b pv = true := by rw [← hinv]; exact allz_e c_2
              simp [sSlv, e1, hrd0])
        · refine lv_aload_n hx hb dX0_solvable_22 rfl (lv_at hl 0 rfl) ?_
          refine lv_iload_n hx hb dX0_solvable_23 rfl (lv_at hl 1 rfl) ?_
          refine rdv_i S (c_X0_changedRightSide l D (M := lm nC M) (b := b) i hP2 hPl hm hn (by omega) (fun a k => hB a (lay nC k)) hM (hbb hm0) hb1) (cwV 1 hts gX0_solvable_X0_changedRightSide rfl rfl rfl (by decide +kernel) ⟨Nat.le_of_ble_eq_true rfl, Nat.le_of_ble_eq_true rfl⟩) rfl hK hP (ci := 0) rfl rfl hl.1 (rest := []) rfl (Nat.le_of_ble_eq_true rfl) dX0_solvable_24 ⟨Nat.zero_le _, Nat.zero_le _⟩ hP hS hA (fun r_3 H locs er_3 hP hS => ?_)
          rw [chg_lm] at er_3
          subst er_3
          refine nv_if_eq (tgt := 32) hx hb dX0_solvable_27 (by decide) (Nat.lt_trans (chg_lt (show 0 < P by omega) _ _ _) hPl) (fun c_4 => ?_) (fun c_4 => ?_)
          · refine lv_iinc (v := nI (i + 1)) (lv' := [(1, .int (nI (i + 1))), (0, .ref h)]) hx hb dX0_solvable_32 hl (k := 1) rfl (nv_inc i 1) (by decide) rfl (fun ls hl => ?_)
            refine lv_goto (tgt := 14) hx hb dX0_solvable_35 (by decide) ?_
            exact ihL (i + 1) (by omega) (by rw [← hinv, allz_z c_2 c_4]) (by omega) ls _ _ (lv_sub hl [1, 0] rfl) hP hS
          · refine lv_iconst (v := nI 0) hx hb dX0_solvable_30 (by decide +kernel) ?_
            exact hret (nI 0) 31 ls _ _ dX0_solvable_31 (by decide +kernel) hS (by
                have e1 : slv P mR M b pv = false := by rw [← hinv]; exact allz_n c_2 (by show (chg P (fun k => M i (10 + k)) b mR) ≠ 0; omega)
                simp [sSlv, e1])
    exact L (mR + 1) pv hpv rfl (by omega) ls _ _ (lv_sub hl [1, 0] rfl) hP hS
  · refine lv_iconst (v := nI 0) hx hb dX0_solvable_7 (by decide +kernel) ?_
    exact hret (nI 0) 8 ls _ _ dX0_solvable_8 (by decide +kernel) hS (by simp [sSlv, c_1])
set_option maxHeartbeats 4000000 in
set_option maxRecDepth 100000 in
theorem c_X0_solution (l : Launch) (D : va_G) {h a1 a2 a3 a4 : Nat} {cA : ClassId} {mR nC : Nat} {fA fB fW fP : Nat → Int32} {rd pv pp : Nat} {pr : Int32} {P : Nat} {M : Mat} {po : Nat → Option Nat} {b : Nat → Nat} (j : Int32) (hm : mR ≤ 10) (hn : nC ≤ 10) (hV : 0 < mR → pr = nI P ∧ 2 ≤ P ∧ P < 2 ^ 31) (hrd : rd < 2) (hQ : rd ≠ 0 → 0 < mR ∧ PbQ P mR nC fW fP pv pp M po) (hbb : 0 < mR → ∀ i, b i < P) (hb1 : ∀ i, i < mR → fB i = nI (b i)) : RdI l yX0_solution wsX0_solution ({ frames := 3, cells := 0, slots := 0, locals := 67 }) [.ref h, .int j] D (pbW h a1 a2 a3 a4 cA pr mR nC fA fB fW fP rd pv pp) [(cA, .int)] (fun r => r = sSol rd P mR nC M b pv po j) := by
  refine RdI.mk (cc := cX0_solution) (maxL := 3) (rt := .int) (by decide) rfl (Nat.le_of_ble_eq_true rfl) ?_
  intro p e s mm args below meth c Q ls A S hK hP hA hS hl hret
  have hx := S.1
  have hb := S.2.1
  have hts := S.2.2.2.2
  have hown := S.2.2.2.1
  have hin : ∀ w ∈ wsX00, w ∈ wsX0_solution := fun w h => List.mem_cons_of_mem _ (List.mem_append_right _ h)
  have hl : lv_has ls 3 [(0, .ref h), (1, .int j)] := hl
  refine lv_aload_n hx hb dX0_solution_0 rfl (lv_at hl 0 rfl) ?_
  refine lv_iload_n hx hb dX0_solution_1 rfl (lv_at hl 1 rfl) ?_
  refine rdv_i S (c_X0_isColumn l D j hn) (cwV 1 hts gX0_solution_X0_isColumn rfl rfl rfl (by decide +kernel) ⟨Nat.le_of_ble_eq_true rfl, Nat.le_of_ble_eq_true rfl⟩) rfl hK hP (ci := 0) rfl rfl hl.1 (rest := []) rfl (Nat.le_of_ble_eq_true rfl) dX0_solution_2 ⟨Nat.zero_le _, Nat.zero_le _⟩ hP hS hA (fun r_1 H locs er_1 hP hS => ?_)
  rcases er_1 with ⟨k1, hk1, rfl, rfl⟩ | ⟨nok1, rfl⟩
  · refine nv_if_eq (tgt := 15) hx hb dX0_solution_5 (by decide) (by decide) (fun q => absurd q (by decide)) (fun _ => ?_)
    refine lv_aload_n hx hb dX0_solution_8 rfl (lv_at hl 0 rfl) ?_
    refine rdv_i S (c_X0_solvable l D (M := M) (po := po) (b := b) hm hn hV hrd hQ hbb hb1) (cwV 0 hts gX0_solution_X0_solvable rfl rfl rfl (by decide +kernel) ⟨Nat.le_of_ble_eq_true rfl, Nat.le_of_ble_eq_true rfl⟩) rfl hK hP (ci := 0) rfl rfl hl.1 (rest := []) rfl (Nat.le_of_ble_eq_true rfl) dX0_solution_9 ⟨Nat.zero_le _, Nat.zero_le _⟩ hP hS hA (fun r_3 H locs er_3 hP hS => ?_)
    by_cases hI : rd ≠ 0 ∧ slv P mR M b pv = true
    · unfold sSlv at er_3
      rw [if_pos hI] at er_3
      subst er_3
      have hrd0 : rd ≠ 0 := by omega
      obtain ⟨hm0, hM, hB, hfP, hpo, hpv, hpn, hpp⟩ := hQ hrd0
      obtain ⟨rfl, hP2, hPl⟩ := hV hm0
      refine nv_if_ne (tgt := 17) hx hb dX0_solution_12 (by decide) (by decide) (fun _ => ?_) (fun q => absurd q (by decide))
      refine lv_aload_n hx hb dX0_solution_17 rfl (lv_at hl 0 rfl) ?_
      refine x0_get S hin hK hP rfl 7 (by decide) rfl (by decide +kernel) (v := .ref a4) rfl dX0_solution_18 ?_
      refine lv_iload_n hx hb dX0_solution_21 rfl (lv_at hl 1 rfl) ?_
      refine nv_iald hx hb hK hP 4 0 rfl rfl (v := opt (po k1)) hk1 (by omega) (hfP k1 hk1) dX0_solution_22 ?_
      cases hpo1 : po k1 with
      | none =>
        rw [show opt (none : Option Nat) = -1 from rfl]
        refine lv_istore_n (lv' := [(2, .int (-1)), (0, .ref h), (1, .int (nI k1))]) hx hb dX0_solution_23 rfl hl (by decide) rfl (fun ls hl => ?_)
        refine lv_iload_n hx hb dX0_solution_24 rfl (lv_at hl 0 rfl) ?_
        refine lv_iconst (v := (-1)) hx hb dX0_solution_25 (by decide +kernel) ?_
        refine lv_icmp_ne (tgt := 33) hx hb dX0_solution_26 (by decide) (fun c_5 => ?_) (fun c_5 => ?_)
        · exact absurd rfl c_5
        · refine lv_iconst (v := nI 0) hx hb dX0_solution_29 (by decide +kernel) ?_
          refine lv_goto (tgt := 38) hx hb dX0_solution_30 (by decide) ?_
          exact hret (nI 0) 38 ls _ _ dX0_solution_38 (rfl) hS (by
              unfold sSol
              rw [if_pos ⟨inb_t hk1 (by omega), hI.1, hI.2⟩, ix_n (show k1 < 2 ^ 31 by omega), hpo1]
              rfl)
      | some pi =>
        rw [show opt (some pi) = nI pi from rfl]
        have hpi := hpo k1 pi hpo1
        refine lv_istore_n (lv' := [(2, .int (nI pi)), (0, .ref h), (1, .int (nI k1))]) hx hb dX0_solution_23 rfl hl (by decide) rfl (fun ls hl => ?_)
        refine lv_iload_n hx hb dX0_solution_24 rfl (lv_at hl 0 rfl) ?_
        refine lv_iconst (v := (-1)) hx hb dX0_solution_25 (by decide +kernel) ?_
        refine lv_icmp_ne (tgt := 33) hx hb dX0_solution_26 (by decide) (fun c_6 => ?_) (fun c_6 => ?_)
        · refine lv_aload_n hx hb dX0_solution_33 rfl (lv_at hl 1 rfl) ?_
          refine lv_iload_n hx hb dX0_solution_34 rfl (lv_at hl 0 rfl) ?_
          refine rdv_i S (c_X0_changedRightSide l D (M := lm nC M) (b := b) pi hP2 hPl hm hn hpi (fun a k => hB a (lay nC k)) hM (hbb hm0) hb1) (cwV 1 hts gX0_solution_X0_changedRightSide rfl rfl rfl (by decide +kernel) ⟨Nat.le_of_ble_eq_true rfl, Nat.le_of_ble_eq_true rfl⟩) rfl hK hP (ci := 0) rfl rfl hl.1 (rest := []) rfl (Nat.le_of_ble_eq_true rfl) dX0_solution_35 ⟨Nat.zero_le _, Nat.zero_le _⟩ hP hS hA (fun r_7 H locs er_7 hP hS => ?_)
          rw [chg_lm] at er_7
          subst er_7
          exact hret (nI (chg P (fun k => M pi (10 + k)) b mR)) 38 ls _ _ dX0_solution_38 (rfl) hS (by
              unfold sSol
              rw [if_pos ⟨inb_t hk1 (by omega), hI.1, hI.2⟩, ix_n (show k1 < 2 ^ 31 by omega), hpo1]
              rfl)
        · exact absurd c_6 (nI_m1 (by omega))
    · unfold sSlv at er_3
      rw [if_neg hI] at er_3
      subst er_3
      refine nv_if_ne (tgt := 17) hx hb dX0_solution_12 (by decide) (by decide) (fun q => absurd q (by decide)) (fun _ => ?_)
      refine lv_iconst (v := (-1)) hx hb dX0_solution_15 (by decide +kernel) ?_
      exact hret ((-1)) 16 ls _ _ dX0_solution_16 (rfl) hS (by
          unfold sSol
          rw [if_neg]
          exact fun z => hI ⟨z.2.1, z.2.2⟩)
  · refine nv_if_eq (tgt := 15) hx hb dX0_solution_5 (by decide) (by decide) (fun _ => ?_) (fun q => absurd q (by decide))
    refine lv_iconst (v := (-1)) hx hb dX0_solution_15 (by decide +kernel) ?_
    exact hret ((-1)) 16 ls _ _ dX0_solution_16 (rfl) hS (by
        unfold sSol
        rw [if_neg]
        simp [inb_f nok1 (show nC < 2 ^ 31 by omega)])
set_option maxHeartbeats 4000000 in
set_option maxRecDepth 100000 in
theorem c_X0_kernelDim (l : Launch) (D : va_G) {h a1 a2 a3 a4 : Nat} {cA : ClassId} {mR nC : Nat} {fA fB fW fP : Nat → Int32} {rd pv pp : Nat} {pr : Int32} {P : Nat} {M : Mat} {po : Nat → Option Nat} (hm : mR ≤ 10) (hn : nC ≤ 10) (hV : 0 < mR → pr = nI P ∧ 2 ≤ P ∧ P < 2 ^ 31) (hrd : rd < 2) (hQ : rd ≠ 0 → 0 < mR ∧ PbQ P mR nC fW fP pv pp M po) : RdI l yX0_kernelDim wsX0_kernelDim ({ frames := 0, cells := 0, slots := 0, locals := 0 }) [.ref h] D (pbW h a1 a2 a3 a4 cA pr mR nC fA fB fW fP rd pv pp) [(cA, .int)] (fun r => r = sKd rd nC pv) := by
  refine RdI.mk (cc := cX0_kernelDim) (maxL := 1) (rt := .int) (by decide) rfl (Nat.le_of_ble_eq_true rfl) ?_
  intro p e s mm args below meth c Q ls A S hK hP hA hS hl hret
  have hx := S.1
  have hb := S.2.1
  have hts := S.2.2.2.2
  have hown := S.2.2.2.1
  have hin : ∀ w ∈ wsX00, w ∈ wsX0_kernelDim := fun w h => List.mem_cons_of_mem _ (List.mem_append_right _ h)
  have hl : lv_has ls 1 [(0, .ref h)] := hl
  refine lv_aload_n hx hb dX0_kernelDim_0 rfl (lv_at hl 0 rfl) ?_
  refine x0_get S hin hK hP rfl 8 (by decide) rfl (by decide +kernel) (v := .int (nI rd)) rfl dX0_kernelDim_1 ?_
  refine nv_if_eq (tgt := 19) hx hb dX0_kernelDim_4 (by decide) (by omega) (fun c_1 => ?_) (fun c_1 => ?_)
  · refine lv_iconst (v := (-1)) hx hb dX0_kernelDim_19 (by decide +kernel) ?_
    exact hret ((-1)) 20 ls _ _ dX0_kernelDim_20 (rfl) hS (by simp [sKd, show rd = 0 by omega])
  · have hrd0 : rd ≠ 0 := by omega
    obtain ⟨hm0, hM, hB, hfP, hpo, hpv, hpn, hpp⟩ := hQ hrd0
    obtain ⟨rfl, hP2, hPl⟩ := hV hm0
    refine lv_aload_n hx hb dX0_kernelDim_7 rfl (lv_at hl 0 rfl) ?_
    refine x0_get S hin hK hP rfl 2 (by decide) rfl (by decide +kernel) (v := .int (nI nC)) rfl dX0_kernelDim_8 ?_
    refine lv_aload_n hx hb dX0_kernelDim_11 rfl (lv_at hl 0 rfl) ?_
    refine x0_get S hin hK hP rfl 9 (by decide) rfl (by decide +kernel) (v := .int (nI pv)) rfl dX0_kernelDim_12 ?_
    refine nv_isub hx hb (by omega) dX0_kernelDim_15 ?_
    refine lv_goto (tgt := 20) hx hb dX0_kernelDim_16 (by decide) ?_
    exact hret (nI (nC - pv)) 20 ls _ _ dX0_kernelDim_20 (rfl) hS (by simp [sKd, show ¬ rd = 0 by omega])
set_option maxHeartbeats 4000000 in
set_option maxRecDepth 100000 in
theorem c_X0_kernelAt (l : Launch) (D : va_G) {h a1 a2 a3 a4 : Nat} {cA : ClassId} {mR nC : Nat} {fA fB fW fP : Nat → Int32} {rd pv pp : Nat} {pr : Int32} {P : Nat} {M : Mat} {po : Nat → Option Nat} (k j : Int32) (hm : mR ≤ 10) (hn : nC ≤ 10) (hV : 0 < mR → pr = nI P ∧ 2 ≤ P ∧ P < 2 ^ 31) (hrd : rd < 2) (hQ : rd ≠ 0 → 0 < mR ∧ PbQ P mR nC fW fP pv pp M po) : RdI l yX0_kernelAt wsX0_kernelAt ({ frames := 1, cells := 0, slots := 0, locals := 23 }) [.ref h, .int k, .int j] D (pbW h a1 a2 a3 a4 cA pr mR nC fA fB fW fP rd pv pp) [(cA, .int)] (fun r => r = sKer rd P nC M po k j) := by
  refine RdI.mk (cc := cX0_kernelAt) (maxL := 5) (rt := .int) (by decide) rfl (Nat.le_of_ble_eq_true rfl) ?_
  intro p e s mm args below meth c Q ls A S hK hP hA hS hl hret
  have hx := S.1
  have hb := S.2.1
  have hts := S.2.2.2.2
  have hown := S.2.2.2.1
  have hin : ∀ w ∈ wsX00, w ∈ wsX0_kernelAt := fun w h => List.mem_cons_of_mem _ (List.mem_append_right _ h)
  have hl : lv_has ls 5 [(0, .ref h), (1, .int k), (2, .int j)] := hl
  refine lv_aload_n hx hb dX0_kernelAt_0 rfl (lv_at hl 0 rfl) ?_
  refine x0_get S hin hK hP rfl 8 (by decide) rfl (by decide +kernel) (v := .int (nI rd)) rfl dX0_kernelAt_1 ?_
  refine nv_if_eq (tgt := 15) hx hb dX0_kernelAt_4 (by decide) (by omega) (fun c_1 => ?_) (fun c_1 => ?_)
  · refine lv_iconst (v := (-1)) hx hb dX0_kernelAt_15 (by decide +kernel) ?_
    exact hret ((-1)) 16 ls _ _ dX0_kernelAt_16 (rfl) hS (by simp [sKer, c_1])
  · have hrd0 : rd ≠ 0 := by omega
    obtain ⟨hm0, hM, hB, hfP, hpo, hpv, hpn, hpp⟩ := hQ hrd0
    obtain ⟨rfl, hP2, hPl⟩ := hV hm0
    refine lv_aload_n hx hb dX0_kernelAt_7 rfl (lv_at hl 0 rfl) ?_
    refine lv_iload_n hx hb dX0_kernelAt_8 rfl (lv_at hl 2 rfl) ?_
    refine rdv_i S (c_X0_isColumn l D j hn) (cwV 1 hts gX0_kernelAt_X0_isColumn rfl rfl rfl (by decide +kernel) ⟨Nat.le_of_ble_eq_true rfl, Nat.le_of_ble_eq_true rfl⟩) rfl hK hP (ci := 0) rfl rfl hl.1 (rest := []) rfl (Nat.le_of_ble_eq_true rfl) dX0_kernelAt_9 ⟨Nat.zero_le _, Nat.zero_le _⟩ hP hS hA (fun r_2 H locs er_2 hP hS => ?_)
    rcases er_2 with ⟨k1, hk1, rfl, rfl⟩ | ⟨nok1, rfl⟩
    · refine nv_if_ne (tgt := 17) hx hb dX0_kernelAt_12 (by decide) (by decide) (fun _ => ?_) (fun q => absurd q (by decide))
      refine lv_aload_n hx hb dX0_kernelAt_17 rfl (lv_at hl 0 rfl) ?_
      refine lv_iload_n hx hb dX0_kernelAt_18 rfl (lv_at hl 1 rfl) ?_
      refine rdv_i S (c_X0_freeColumn l D (po := po) k hm hn hpo hfP) (cwV 1 hts gX0_kernelAt_X0_freeColumn rfl rfl rfl (by decide +kernel) ⟨Nat.le_of_ble_eq_true rfl, Nat.le_of_ble_eq_true rfl⟩) rfl hK hP (ci := 0) rfl rfl hl.1 (rest := []) rfl (Nat.le_of_ble_eq_true rfl) dX0_kernelAt_19 ⟨Nat.zero_le _, Nat.zero_le _⟩ hP hS hA (fun r_4 H locs er_4 hP hS => ?_)
      cases hkt : kth po k nC 0 with
      | none =>
        rw [hkt] at er_4
        have er_4 : r_4 = -1 := er_4
        subst er_4
        refine lv_istore_n (lv' := [(3, .int (-1)), (0, .ref h), (1, .int k), (2, .int (nI k1))]) hx hb dX0_kernelAt_22 rfl hl (by decide) rfl (fun ls hl => ?_)
        refine lv_iload_n hx hb dX0_kernelAt_23 rfl (lv_at hl 0 rfl) ?_
        refine lv_iconst (v := (-1)) hx hb dX0_kernelAt_24 (by decide +kernel) ?_
        refine lv_icmp_ne (tgt := 30) hx hb dX0_kernelAt_25 (by decide) (fun c_5 => ?_) (fun c_5 => ?_)
        · exact absurd rfl c_5
        · refine lv_iconst (v := (-1)) hx hb dX0_kernelAt_28 (by decide +kernel) ?_
          exact hret ((-1)) 29 ls _ _ dX0_kernelAt_29 (rfl) hS (by
              unfold sKer
              rw [if_pos ⟨hrd0, inb_t hk1 (by omega)⟩, hkt]
              rfl)
      | some fc =>
        rw [hkt] at er_4
        have er_4 : r_4 = nI fc := er_4
        have hfc := (kth_lt _ _ _ hkt).2.1
        subst er_4
        refine lv_istore_n (lv' := [(3, .int (nI fc)), (0, .ref h), (1, .int k), (2, .int (nI k1))]) hx hb dX0_kernelAt_22 rfl hl (by decide) rfl (fun ls hl => ?_)
        refine lv_iload_n hx hb dX0_kernelAt_23 rfl (lv_at hl 0 rfl) ?_
        refine lv_iconst (v := (-1)) hx hb dX0_kernelAt_24 (by decide +kernel) ?_
        refine lv_icmp_ne (tgt := 30) hx hb dX0_kernelAt_25 (by decide) (fun c_6 => ?_) (fun c_6 => ?_)
        · refine lv_aload_n hx hb dX0_kernelAt_30 rfl (lv_at hl 1 rfl) ?_
          refine x0_get S hin hK hP rfl 7 (by decide) rfl (by decide +kernel) (v := .ref a4) rfl dX0_kernelAt_31 ?_
          refine lv_iload_n hx hb dX0_kernelAt_34 rfl (lv_at hl 3 rfl) ?_
          refine nv_iald hx hb hK hP 4 0 rfl rfl (v := opt (po k1)) hk1 (by omega) (hfP k1 hk1) dX0_kernelAt_35 ?_
          cases hpo1 : po k1 with
          | none =>
            rw [show opt (none : Option Nat) = -1 from rfl]
            refine lv_istore (lv' := [(4, .int (-1)), (3, .int (nI fc)), (0, .ref h), (1, .int k), (2, .int (nI k1))]) hx hb dX0_kernelAt_36 hl (by decide) rfl (fun ls hl => ?_)
            refine lv_iload hx hb dX0_kernelAt_38 (lv_at hl 0 rfl) ?_
            refine lv_iconst (v := (-1)) hx hb dX0_kernelAt_40 (by decide +kernel) ?_
            refine lv_icmp_ne (tgt := 55) hx hb dX0_kernelAt_41 (by decide) (fun c_7 => ?_) (fun c_7 => ?_)
            · exact absurd rfl c_7
            · refine lv_iload_n hx hb dX0_kernelAt_44 rfl (lv_at hl 4 rfl) ?_
              refine lv_iload_n hx hb dX0_kernelAt_45 rfl (lv_at hl 1 rfl) ?_
              refine nv_icmp_ne (tgt := 53) hx hb dX0_kernelAt_46 (by decide) (by omega) (by omega) (fun c_8 => ?_) (fun c_8 => ?_)
              · refine lv_iconst (v := nI 0) hx hb dX0_kernelAt_53 (by decide +kernel) ?_
                exact hret (nI 0) 54 ls _ _ dX0_kernelAt_54 (rfl) hS (by
                    unfold sKer
                    rw [if_pos ⟨hrd0, inb_t hk1 (by omega)⟩, ix_n (show k1 < 2 ^ 31 by omega), hpo1, hkt]
                    show _ = if k1 = fc then nI 1 else nI 0
                    rw [if_neg c_8])
              · refine lv_iconst (v := nI 1) hx hb dX0_kernelAt_49 (by decide +kernel) ?_
                refine lv_goto (tgt := 54) hx hb dX0_kernelAt_50 (by decide) ?_
                exact hret (nI 1) 54 ls _ _ dX0_kernelAt_54 (rfl) hS (by
                    unfold sKer
                    rw [if_pos ⟨hrd0, inb_t hk1 (by omega)⟩, ix_n (show k1 < 2 ^ 31 by omega), hpo1, hkt]
                    show _ = if k1 = fc then nI 1 else nI 0
                    rw [if_pos c_8])
          | some pi =>
            rw [show opt (some pi) = nI pi from rfl]
            have hpi := hpo k1 pi hpo1
            refine lv_istore (lv' := [(4, .int (nI pi)), (3, .int (nI fc)), (0, .ref h), (1, .int k), (2, .int (nI k1))]) hx hb dX0_kernelAt_36 hl (by decide) rfl (fun ls hl => ?_)
            refine lv_iload hx hb dX0_kernelAt_38 (lv_at hl 0 rfl) ?_
            refine lv_iconst (v := (-1)) hx hb dX0_kernelAt_40 (by decide +kernel) ?_
            refine lv_icmp_ne (tgt := 55) hx hb dX0_kernelAt_41 (by decide) (fun c_9 => ?_) (fun c_9 => ?_)
            · refine lv_aload_n hx hb dX0_kernelAt_55 rfl (lv_at hl 2 rfl) ?_
              refine lv_aload_n hx hb dX0_kernelAt_56 rfl (lv_at hl 2 rfl) ?_
              refine x0_get S hin hK hP rfl 5 (by decide) rfl (by decide +kernel) (v := .ref a3) rfl dX0_kernelAt_57 ?_
              refine lv_iload hx hb dX0_kernelAt_60 (lv_at hl 0 rfl) ?_
              refine lv_aload_n hx hb dX0_kernelAt_62 rfl (lv_at hl 2 rfl) ?_
              refine x0_get S hin hK hP rfl 6 (by decide) rfl (by decide +kernel) (v := .int (nI (nC + mR))) rfl dX0_kernelAt_63 ?_
              refine nv_imul hx hb dX0_kernelAt_66 ?_
              refine lv_iload_n hx hb dX0_kernelAt_67 rfl (lv_at hl 1 rfl) ?_
              refine nv_iadd hx hb dX0_kernelAt_68 ?_
              refine nv_iald hx hb hK hP 3 0 rfl rfl (v := nI (M pi fc)) (ix_lt hpi (by omega)) (bd3 hm hn) (by rw [hM pi hpi fc (by omega), lm_lt (by omega)]) dX0_kernelAt_69 ?_
              refine nv_i2l hx hb (Nat.lt_trans (hB pi fc) hPl) dX0_kernelAt_70 ?_
              refine rdv_l S (c_X0_negative l D (M pi fc) hPl (hB pi fc)) (cwV 1 hts gX0_kernelAt_X0_negative rfl rfl rfl (by decide +kernel) ⟨Nat.le_of_ble_eq_true rfl, Nat.le_of_ble_eq_true rfl⟩) rfl hK hP (ci := 0) rfl rfl hl.1 (rest := []) rfl (Nat.le_of_ble_eq_true rfl) dX0_kernelAt_71 ⟨Nat.zero_le _, Nat.zero_le _⟩ hP hS hA (fun r_10 H locs er_10 hP hS => ?_)
              subst er_10
              refine nv_l2i hx hb dX0_kernelAt_74 ?_
              exact hret (nI (ng P (M pi fc))) 75 ls _ _ dX0_kernelAt_75 (rfl) hS (by
                  unfold sKer
                  rw [if_pos ⟨hrd0, inb_t hk1 (by omega)⟩, ix_n (show k1 < 2 ^ 31 by omega), hpo1, hkt]
                  rfl)
            · exact absurd c_9 (nI_m1 (by omega))
        · exact absurd c_6 (nI_m1 (by omega))
    · refine nv_if_ne (tgt := 17) hx hb dX0_kernelAt_12 (by decide) (by decide) (fun q => absurd q (by decide)) (fun _ => ?_)
      refine lv_iconst (v := (-1)) hx hb dX0_kernelAt_15 (by decide +kernel) ?_
      exact hret ((-1)) 16 ls _ _ dX0_kernelAt_16 (rfl) hS (by simp [sKer, inb_f nok1 (show nC < 2 ^ 31 by omega)])
