set_option maxHeartbeats 4000000 in
set_option maxRecDepth 100000 in
theorem c_X0_init (l : Launch) (D : va_G) {h : Nat} (p9 m9 n9 : Int32)  : MkV (U := Nat × Nat × Nat × Nat × ClassId × Nat × Nat × Nat) l yX0_init wsX0_init ({ frames := 1, cells := 4, slots := 320, locals := 21 }) [.ref h, .int p9, .int m9, .int n9] D [(h, .inr (0, [.int 0, .int 0, .int 0, .null, .null, .null, .int 0, .null, .int 0, .int 0, .long 0]))] 4 320 (fun u => Dims p9 m9 n9 u.2.2.2.2.2.1 u.2.2.2.2.2.2.1 u.2.2.2.2.2.2.2) (fun u => pbW h u.1 u.2.1 u.2.2.1 u.2.2.2.1 u.2.2.2.2.1 p9 u.2.2.2.2.2.2.1 u.2.2.2.2.2.2.2 (fun _ => 0) (fun _ => 0) (fun _ => 0) (fun _ => 0) 0 0 1) (fun u => [(u.2.2.2.2.1, .int)]) := by
  refine MkV.mk (cc := cX0_init) (maxL := 5) (by decide) rfl rfl (Nat.le_of_ble_eq_true rfl) ?_
  intro p e s mm args below meth c Q ls A S hini hK hP hD hA hS hl hret
  have hx := S.1
  have hb := S.2.1
  have hml := S.2.2.1
  have hts := S.2.2.2.2
  have hown := S.2.2.2.1
  have hin : ∀ w ∈ wsX00, w ∈ wsX0_init := fun w h => List.mem_cons_of_mem _ (List.mem_append_right _ h)
  have hl : lv_has ls 5 [(0, .ref h), (1, .int p9), (2, .int m9), (3, .int n9)] := hl
  refine lv_aload_n hx hb dX0_init_0 rfl (lv_at hl 0 rfl) ?_
  refine W.objInit hx hb hown (hts (.methodLink RX0 1 objectInit) (by decide +kernel)) (hts (.instanceMethod objectInit) (by decide +kernel)) (hts (.code objectInit ⟨#[0xb1]⟩ 1 none) (by decide +kernel)) rfl (by rw [hml]; exact hl.1) rfl dX0_init_1 (Nat.le_of_ble_eq_true rfl) (Nat.le_of_ble_eq_true rfl) ?_
  refine W.eq (g2 := F0 mm 4 ls []) rfl ?_
  refine lv_iload_n hx hb dX0_init_4 rfl (lv_at hl 2 rfl) ?_
  refine rds_i S (c_X0_isSide l D m9) (va_cwS 1 hts gX0_init_X0_isSide rfl rfl rfl (by decide +kernel) ⟨Nat.le_of_ble_eq_true rfl, Nat.le_of_ble_eq_true rfl⟩) rfl (hK.sub [] rfl) (hP.sub [] rfl) hl.1 (rest := []) rfl (Nat.le_of_ble_eq_true rfl) dX0_init_5 ⟨Nat.zero_le _, Nat.zero_le _⟩ hP hS hA (fun r_1 H locs er_1 hP hS => ?_)
  rcases er_1 with ⟨k1, hk1a, hk1b, rfl, rfl⟩ | ⟨nok1, rfl⟩
  · refine nv_if_eq (tgt := 29) hx hb dX0_init_8 (by decide) (by decide) (fun q => absurd q (by decide)) (fun _ => ?_)
    refine lv_iload_n hx hb dX0_init_11 rfl (lv_at hl 3 rfl) ?_
    refine rds_i S (c_X0_isSide l D n9) (va_cwS 1 hts gX0_init_X0_isSide rfl rfl rfl (by decide +kernel) ⟨Nat.le_of_ble_eq_true rfl, Nat.le_of_ble_eq_true rfl⟩) rfl (hK.sub [] rfl) (hP.sub [] rfl) hl.1 (rest := []) rfl (Nat.le_of_ble_eq_true rfl) dX0_init_12 ⟨Nat.zero_le _, Nat.zero_le _⟩ hP hS hA (fun r_3 H locs er_3 hP hS => ?_)
    rcases er_3 with ⟨k2, hk2a, hk2b, rfl, rfl⟩ | ⟨nok2, rfl⟩
    · refine nv_if_eq (tgt := 29) hx hb dX0_init_15 (by decide) (by decide) (fun q => absurd q (by decide)) (fun _ => ?_)
      refine lv_iload_n hx hb dX0_init_18 rfl (lv_at hl 1 rfl) ?_
      refine rds_i S (c_X0_isPrime l D p9) (va_cwS 1 hts gX0_init_X0_isPrime rfl rfl rfl (by decide +kernel) ⟨Nat.le_of_ble_eq_true rfl, Nat.le_of_ble_eq_true rfl⟩) rfl (hK.sub [] rfl) (hP.sub [] rfl) hl.1 (rest := []) rfl (Nat.le_of_ble_eq_true rfl) dX0_init_19 ⟨Nat.zero_le _, Nat.zero_le _⟩ hP hS hA (fun r_5 H locs er_5 hP hS => ?_)
      rcases er_5 with ⟨v, hvl, hvp, hpe, rfl⟩ | ⟨nop, rfl⟩
      · have hz1 : k1 * k2 ≤ 10 * 10 := Nat.mul_le_mul hk1b hk2b
        have hz2 : k1 * (k2 + k1) ≤ 10 * 20 := Nat.mul_le_mul hk1b (by omega)
        refine nv_if_eq (tgt := 29) hx hb dX0_init_22 (by decide) (by decide) (fun q => absurd q (by decide)) (fun _ => ?_)
        refine lv_iconst (v := nI 1) hx hb dX0_init_25 (by decide +kernel) ?_
        refine lv_goto (tgt := 30) hx hb dX0_init_26 (by decide) ?_
        refine lv_istore (lv' := [(4, .int (nI 1)), (0, .ref h), (1, .int p9), (2, .int (nI k1)), (3, .int (nI k2))]) hx hb dX0_init_30 hl (by decide) rfl (fun ls hl => ?_)
        refine lv_aload_n hx hb dX0_init_32 rfl (lv_at hl 1 rfl) ?_
        refine lv_iload_n hx hb dX0_init_33 rfl (lv_at hl 2 rfl) ?_
        refine x0_putF S hin hini hK hP hD hS rfl 0 (by decide) rfl (by decide +kernel) rfl (ty := .int) (v := .int p9) rfl rfl rfl (Nat.le_of_ble_eq_true rfl) dX0_init_34 (fun H locs hP hD hS => ?_)
        have hP : va_P D vwCl ([(h, .inr (0, [.int p9, .int 0, .int 0, .null, .null, .null, .int 0, .null, .int 0, .int 0, .long 0]))]) H := hP
        have hD : va_D A ([(h, .inr (0, [.int p9, .int 0, .int 0, .null, .null, .null, .int 0, .null, .int 0, .int 0, .long 0]))]) := hD
        refine lv_aload_n hx hb dX0_init_37 rfl (lv_at hl 1 rfl) ?_
        refine lv_iload hx hb dX0_init_38 (lv_at hl 0 rfl) ?_
        refine nv_if_eq (tgt := 47) hx hb dX0_init_40 (by decide) (by decide) (fun q => absurd q (by decide)) (fun _ => ?_)
        refine lv_iload_n hx hb dX0_init_43 rfl (lv_at hl 3 rfl) ?_
        refine lv_goto (tgt := 48) hx hb dX0_init_44 (by decide) ?_
        refine x0_putF S hin hini hK hP hD hS rfl 1 (by decide) rfl (by decide +kernel) rfl (ty := .int) (v := .int (nI k1)) rfl rfl rfl (Nat.le_of_ble_eq_true rfl) dX0_init_48 (fun H locs hP hD hS => ?_)
        have hP : va_P D vwCl ([(h, .inr (0, [.int p9, .int (nI k1), .int 0, .null, .null, .null, .int 0, .null, .int 0, .int 0, .long 0]))]) H := hP
        have hD : va_D A ([(h, .inr (0, [.int p9, .int (nI k1), .int 0, .null, .null, .null, .int 0, .null, .int 0, .int 0, .long 0]))]) := hD
        refine lv_aload_n hx hb dX0_init_51 rfl (lv_at hl 1 rfl) ?_
        refine lv_iload hx hb dX0_init_52 (lv_at hl 0 rfl) ?_
        refine nv_if_eq (tgt := 61) hx hb dX0_init_54 (by decide) (by decide) (fun q => absurd q (by decide)) (fun _ => ?_)
        refine lv_iload_n hx hb dX0_init_57 rfl (lv_at hl 4 rfl) ?_
        refine lv_goto (tgt := 62) hx hb dX0_init_58 (by decide) ?_
        refine x0_putF S hin hini hK hP hD hS rfl 2 (by decide) rfl (by decide +kernel) rfl (ty := .int) (v := .int (nI k2)) rfl rfl rfl (Nat.le_of_ble_eq_true rfl) dX0_init_62 (fun H locs hP hD hS => ?_)
        have hP : va_P D vwCl ([(h, .inr (0, [.int p9, .int (nI k1), .int (nI k2), .null, .null, .null, .int 0, .null, .int 0, .int 0, .long 0]))]) H := hP
        have hD : va_D A ([(h, .inr (0, [.int p9, .int (nI k1), .int (nI k2), .null, .null, .null, .int 0, .null, .int 0, .int 0, .long 0]))]) := hD
        refine lv_aload_n hx hb dX0_init_65 rfl (lv_at hl 1 rfl) ?_
        refine lv_aload_n hx hb dX0_init_66 rfl (lv_at hl 1 rfl) ?_
        refine x0_get S hin hK hP rfl 2 (by decide) rfl (by decide +kernel) (v := .int (nI k2)) rfl dX0_init_67 ?_
        refine lv_aload_n hx hb dX0_init_70 rfl (lv_at hl 1 rfl) ?_
        refine x0_get S hin hK hP rfl 1 (by decide) rfl (by decide +kernel) (v := .int (nI k1)) rfl dX0_init_71 ?_
        refine nv_iadd hx hb dX0_init_74 ?_
        refine x0_putF S hin hini hK hP hD hS rfl 6 (by decide) rfl (by decide +kernel) rfl (ty := .int) (v := .int (nI (k2 + k1))) rfl rfl rfl (Nat.le_of_ble_eq_true rfl) dX0_init_75 (fun H locs hP hD hS => ?_)
        have hP : va_P D vwCl ([(h, .inr (0, [.int p9, .int (nI k1), .int (nI k2), .null, .null, .null, .int (nI (k2 + k1)), .null, .int 0, .int 0, .long 0]))]) H := hP
        have hD : va_D A ([(h, .inr (0, [.int p9, .int (nI k1), .int (nI k2), .null, .null, .null, .int (nI (k2 + k1)), .null, .int 0, .int 0, .long 0]))]) := hD
        refine lv_aload_n hx hb dX0_init_78 rfl (lv_at hl 1 rfl) ?_
        refine lv_aload_n hx hb dX0_init_79 rfl (lv_at hl 1 rfl) ?_
        refine x0_get S hin hK hP rfl 1 (by decide) rfl (by decide +kernel) (v := .int (nI k1)) rfl dX0_init_80 ?_
        refine lv_aload_n hx hb dX0_init_83 rfl (lv_at hl 1 rfl) ?_
        refine x0_get S hin hK hP rfl 2 (by decide) rfl (by decide +kernel) (v := .int (nI k2)) rfl dX0_init_84 ?_
        refine nv_imul hx hb dX0_init_87 ?_
        refine va_newa hx hb (atype := .int) (hts (.arrayClass .int) (by decide +kernel)) rfl hK hP hD hS hA (N' := (k1 * k2)) (a0 := (k1 * k2, .inl (fun _ => 0))) (fun _ => rfl) (nI_pos (by omega)) (nI_clamp (by omega)) (by show _ * 4 ≤ _; omega) (Nat.le_of_ble_eq_true rfl) (by show _ ≤ 320; omega) dX0_init_88 (fun q1 c1 H hK hP hD hS => ?_)
        have hK : va_K D vwCl [(c1, .int)] s := hK
        have hP : va_P D vwCl ([(h, .inr (0, [.int p9, .int (nI k1), .int (nI k2), .null, .null, .null, .int (nI (k2 + k1)), .null, .int 0, .int 0, .long 0])), (q1, .inl (c1, k1 * k2, .inl (fun _ => 0)))]) H := hP
        have hD : va_D A ([(h, .inr (0, [.int p9, .int (nI k1), .int (nI k2), .null, .null, .null, .int (nI (k2 + k1)), .null, .int 0, .int 0, .long 0])), (q1, .inl (c1, k1 * k2, .inl (fun _ => 0)))]) := hD
        refine x0_putF S hin hini hK hP hD hS rfl 3 (by decide) rfl (by decide +kernel) rfl (ty := .array .int) (v := .ref q1) rfl rfl rfl (Nat.le_of_ble_eq_true rfl) dX0_init_90 (fun H locs hP hD hS => ?_)
        have hP : va_P D vwCl ([(h, .inr (0, [.int p9, .int (nI k1), .int (nI k2), .ref q1, .null, .null, .int (nI (k2 + k1)), .null, .int 0, .int 0, .long 0])), (q1, .inl (c1, k1 * k2, .inl (fun _ => 0)))]) H := hP
        have hD : va_D A ([(h, .inr (0, [.int p9, .int (nI k1), .int (nI k2), .ref q1, .null, .null, .int (nI (k2 + k1)), .null, .int 0, .int 0, .long 0])), (q1, .inl (c1, k1 * k2, .inl (fun _ => 0)))]) := hD
        refine lv_aload_n hx hb dX0_init_93 rfl (lv_at hl 1 rfl) ?_
        refine lv_aload_n hx hb dX0_init_94 rfl (lv_at hl 1 rfl) ?_
        refine x0_get S hin hK hP rfl 1 (by decide) rfl (by decide +kernel) (v := .int (nI k1)) rfl dX0_init_95 ?_
        refine va_newa hx hb (atype := .int) (hts (.arrayClass .int) (by decide +kernel)) rfl hK hP hD hS hA (N' := k1) (a0 := (k1, .inl (fun _ => 0))) (fun _ => rfl) (nI_pos (by omega)) (nI_clamp (by omega)) (by show _ * 4 ≤ _; omega) (Nat.le_of_ble_eq_true rfl) (by show _ ≤ 320; omega) dX0_init_98 (fun q2 c2 H hK hP hD hS => ?_)
        have hK : va_K D vwCl [(c1, .int), (c2, .int)] s := hK
        have hP : va_P D vwCl ([(h, .inr (0, [.int p9, .int (nI k1), .int (nI k2), .ref q1, .null, .null, .int (nI (k2 + k1)), .null, .int 0, .int 0, .long 0])), (q1, .inl (c1, k1 * k2, .inl (fun _ => 0))), (q2, .inl (c2, k1, .inl (fun _ => 0)))]) H := hP
        have hD : va_D A ([(h, .inr (0, [.int p9, .int (nI k1), .int (nI k2), .ref q1, .null, .null, .int (nI (k2 + k1)), .null, .int 0, .int 0, .long 0])), (q1, .inl (c1, k1 * k2, .inl (fun _ => 0))), (q2, .inl (c2, k1, .inl (fun _ => 0)))]) := hD
        refine x0_putF S hin hini hK hP hD hS rfl 4 (by decide) rfl (by decide +kernel) rfl (ty := .array .int) (v := .ref q2) rfl rfl rfl (Nat.le_of_ble_eq_true rfl) dX0_init_100 (fun H locs hP hD hS => ?_)
        have hP : va_P D vwCl ([(h, .inr (0, [.int p9, .int (nI k1), .int (nI k2), .ref q1, .ref q2, .null, .int (nI (k2 + k1)), .null, .int 0, .int 0, .long 0])), (q1, .inl (c1, k1 * k2, .inl (fun _ => 0))), (q2, .inl (c2, k1, .inl (fun _ => 0)))]) H := hP
        have hD : va_D A ([(h, .inr (0, [.int p9, .int (nI k1), .int (nI k2), .ref q1, .ref q2, .null, .int (nI (k2 + k1)), .null, .int 0, .int 0, .long 0])), (q1, .inl (c1, k1 * k2, .inl (fun _ => 0))), (q2, .inl (c2, k1, .inl (fun _ => 0)))]) := hD
        refine lv_aload_n hx hb dX0_init_103 rfl (lv_at hl 1 rfl) ?_
        refine lv_aload_n hx hb dX0_init_104 rfl (lv_at hl 1 rfl) ?_
        refine x0_get S hin hK hP rfl 1 (by decide) rfl (by decide +kernel) (v := .int (nI k1)) rfl dX0_init_105 ?_
        refine lv_aload_n hx hb dX0_init_108 rfl (lv_at hl 1 rfl) ?_
        refine x0_get S hin hK hP rfl 6 (by decide) rfl (by decide +kernel) (v := .int (nI (k2 + k1))) rfl dX0_init_109 ?_
        refine nv_imul hx hb dX0_init_112 ?_
        refine va_newa hx hb (atype := .int) (hts (.arrayClass .int) (by decide +kernel)) rfl hK hP hD hS hA (N' := (k1 * (k2 + k1))) (a0 := (k1 * (k2 + k1), .inl (fun _ => 0))) (fun _ => rfl) (nI_pos (by omega)) (nI_clamp (by omega)) (by show _ * 4 ≤ _; omega) (Nat.le_of_ble_eq_true rfl) (by show _ ≤ 320; omega) dX0_init_113 (fun q3 c3 H hK hP hD hS => ?_)
        have hK : va_K D vwCl [(c1, .int), (c2, .int), (c3, .int)] s := hK
        have hP : va_P D vwCl ([(h, .inr (0, [.int p9, .int (nI k1), .int (nI k2), .ref q1, .ref q2, .null, .int (nI (k2 + k1)), .null, .int 0, .int 0, .long 0])), (q1, .inl (c1, k1 * k2, .inl (fun _ => 0))), (q2, .inl (c2, k1, .inl (fun _ => 0))), (q3, .inl (c3, k1 * (k2 + k1), .inl (fun _ => 0)))]) H := hP
        have hD : va_D A ([(h, .inr (0, [.int p9, .int (nI k1), .int (nI k2), .ref q1, .ref q2, .null, .int (nI (k2 + k1)), .null, .int 0, .int 0, .long 0])), (q1, .inl (c1, k1 * k2, .inl (fun _ => 0))), (q2, .inl (c2, k1, .inl (fun _ => 0))), (q3, .inl (c3, k1 * (k2 + k1), .inl (fun _ => 0)))]) := hD
        refine x0_putF S hin hini hK hP hD hS rfl 5 (by decide) rfl (by decide +kernel) rfl (ty := .array .int) (v := .ref q3) rfl rfl rfl (Nat.le_of_ble_eq_true rfl) dX0_init_115 (fun H locs hP hD hS => ?_)
        have hP : va_P D vwCl ([(h, .inr (0, [.int p9, .int (nI k1), .int (nI k2), .ref q1, .ref q2, .ref q3, .int (nI (k2 + k1)), .null, .int 0, .int 0, .long 0])), (q1, .inl (c1, k1 * k2, .inl (fun _ => 0))), (q2, .inl (c2, k1, .inl (fun _ => 0))), (q3, .inl (c3, k1 * (k2 + k1), .inl (fun _ => 0)))]) H := hP
        have hD : va_D A ([(h, .inr (0, [.int p9, .int (nI k1), .int (nI k2), .ref q1, .ref q2, .ref q3, .int (nI (k2 + k1)), .null, .int 0, .int 0, .long 0])), (q1, .inl (c1, k1 * k2, .inl (fun _ => 0))), (q2, .inl (c2, k1, .inl (fun _ => 0))), (q3, .inl (c3, k1 * (k2 + k1), .inl (fun _ => 0)))]) := hD
        refine lv_aload_n hx hb dX0_init_118 rfl (lv_at hl 1 rfl) ?_
        refine lv_aload_n hx hb dX0_init_119 rfl (lv_at hl 1 rfl) ?_
        refine x0_get S hin hK hP rfl 2 (by decide) rfl (by decide +kernel) (v := .int (nI k2)) rfl dX0_init_120 ?_
        refine va_newa hx hb (atype := .int) (hts (.arrayClass .int) (by decide +kernel)) rfl hK hP hD hS hA (N' := k2) (a0 := (k2, .inl (fun _ => 0))) (fun _ => rfl) (nI_pos (by omega)) (nI_clamp (by omega)) (by show _ * 4 ≤ _; omega) (Nat.le_of_ble_eq_true rfl) (by show _ ≤ 320; omega) dX0_init_123 (fun q4 c4 H hK hP hD hS => ?_)
        have hK : va_K D vwCl [(c1, .int), (c2, .int), (c3, .int), (c4, .int)] s := hK
        have hP : va_P D vwCl ([(h, .inr (0, [.int p9, .int (nI k1), .int (nI k2), .ref q1, .ref q2, .ref q3, .int (nI (k2 + k1)), .null, .int 0, .int 0, .long 0])), (q1, .inl (c1, k1 * k2, .inl (fun _ => 0))), (q2, .inl (c2, k1, .inl (fun _ => 0))), (q3, .inl (c3, k1 * (k2 + k1), .inl (fun _ => 0))), (q4, .inl (c4, k2, .inl (fun _ => 0)))]) H := hP
        have hD : va_D A ([(h, .inr (0, [.int p9, .int (nI k1), .int (nI k2), .ref q1, .ref q2, .ref q3, .int (nI (k2 + k1)), .null, .int 0, .int 0, .long 0])), (q1, .inl (c1, k1 * k2, .inl (fun _ => 0))), (q2, .inl (c2, k1, .inl (fun _ => 0))), (q3, .inl (c3, k1 * (k2 + k1), .inl (fun _ => 0))), (q4, .inl (c4, k2, .inl (fun _ => 0)))]) := hD
        refine x0_putF S hin hini hK hP hD hS rfl 7 (by decide) rfl (by decide +kernel) rfl (ty := .array .int) (v := .ref q4) rfl rfl rfl (Nat.le_of_ble_eq_true rfl) dX0_init_125 (fun H locs hP hD hS => ?_)
        have hP : va_P D vwCl ([(h, .inr (0, [.int p9, .int (nI k1), .int (nI k2), .ref q1, .ref q2, .ref q3, .int (nI (k2 + k1)), .ref q4, .int 0, .int 0, .long 0])), (q1, .inl (c1, k1 * k2, .inl (fun _ => 0))), (q2, .inl (c2, k1, .inl (fun _ => 0))), (q3, .inl (c3, k1 * (k2 + k1), .inl (fun _ => 0))), (q4, .inl (c4, k2, .inl (fun _ => 0)))]) H := hP
        have hD : va_D A ([(h, .inr (0, [.int p9, .int (nI k1), .int (nI k2), .ref q1, .ref q2, .ref q3, .int (nI (k2 + k1)), .ref q4, .int 0, .int 0, .long 0])), (q1, .inl (c1, k1 * k2, .inl (fun _ => 0))), (q2, .inl (c2, k1, .inl (fun _ => 0))), (q3, .inl (c3, k1 * (k2 + k1), .inl (fun _ => 0))), (q4, .inl (c4, k2, .inl (fun _ => 0)))]) := hD
        refine lv_aload_n hx hb dX0_init_128 rfl (lv_at hl 1 rfl) ?_
        refine lv_iconst (v := nI 0) hx hb dX0_init_129 (by decide +kernel) ?_
        refine x0_put S hin hK hP hD hS rfl 8 (by decide) rfl (by decide +kernel) rfl (ty := .boolean) (v := .int (nI 0)) rfl (by decide +kernel) rfl (Nat.le_of_ble_eq_true rfl) dX0_init_130 (fun H locs hP hD hS => ?_)
        have hP : va_P D vwCl ([(h, .inr (0, [.int p9, .int (nI k1), .int (nI k2), .ref q1, .ref q2, .ref q3, .int (nI (k2 + k1)), .ref q4, .int (nI 0), .int 0, .long 0])), (q1, .inl (c1, k1 * k2, .inl (fun _ => 0))), (q2, .inl (c2, k1, .inl (fun _ => 0))), (q3, .inl (c3, k1 * (k2 + k1), .inl (fun _ => 0))), (q4, .inl (c4, k2, .inl (fun _ => 0)))]) H := hP
        have hD : va_D A ([(h, .inr (0, [.int p9, .int (nI k1), .int (nI k2), .ref q1, .ref q2, .ref q3, .int (nI (k2 + k1)), .ref q4, .int (nI 0), .int 0, .long 0])), (q1, .inl (c1, k1 * k2, .inl (fun _ => 0))), (q2, .inl (c2, k1, .inl (fun _ => 0))), (q3, .inl (c3, k1 * (k2 + k1), .inl (fun _ => 0))), (q4, .inl (c4, k2, .inl (fun _ => 0)))]) := hD
        refine lv_aload_n hx hb dX0_init_133 rfl (lv_at hl 1 rfl) ?_
        refine lv_iconst (v := nI 0) hx hb dX0_init_134 (by decide +kernel) ?_
        refine x0_put S hin hK hP hD hS rfl 9 (by decide) rfl (by decide +kernel) rfl (ty := .int) (v := .int (nI 0)) rfl rfl rfl (Nat.le_of_ble_eq_true rfl) dX0_init_135 (fun H locs hP hD hS => ?_)
        have hP : va_P D vwCl ([(h, .inr (0, [.int p9, .int (nI k1), .int (nI k2), .ref q1, .ref q2, .ref q3, .int (nI (k2 + k1)), .ref q4, .int (nI 0), .int (nI 0), .long 0])), (q1, .inl (c1, k1 * k2, .inl (fun _ => 0))), (q2, .inl (c2, k1, .inl (fun _ => 0))), (q3, .inl (c3, k1 * (k2 + k1), .inl (fun _ => 0))), (q4, .inl (c4, k2, .inl (fun _ => 0)))]) H := hP
        have hD : va_D A ([(h, .inr (0, [.int p9, .int (nI k1), .int (nI k2), .ref q1, .ref q2, .ref q3, .int (nI (k2 + k1)), .ref q4, .int (nI 0), .int (nI 0), .long 0])), (q1, .inl (c1, k1 * k2, .inl (fun _ => 0))), (q2, .inl (c2, k1, .inl (fun _ => 0))), (q3, .inl (c3, k1 * (k2 + k1), .inl (fun _ => 0))), (q4, .inl (c4, k2, .inl (fun _ => 0)))]) := hD
        refine lv_aload_n hx hb dX0_init_138 rfl (lv_at hl 1 rfl) ?_
        refine lv_lconst (v := lN 1) hx hb dX0_init_139 rfl ?_
        refine x0_put S hin hK hP hD hS rfl 10 (by decide) rfl (by decide +kernel) rfl (ty := .long) (v := .long (lN 1)) rfl rfl rfl (Nat.le_of_ble_eq_true rfl) dX0_init_140 (fun H locs hP hD hS => ?_)
        have hP : va_P D vwCl ([(h, .inr (0, [.int p9, .int (nI k1), .int (nI k2), .ref q1, .ref q2, .ref q3, .int (nI (k2 + k1)), .ref q4, .int (nI 0), .int (nI 0), .long (lN 1)])), (q1, .inl (c1, k1 * k2, .inl (fun _ => 0))), (q2, .inl (c2, k1, .inl (fun _ => 0))), (q3, .inl (c3, k1 * (k2 + k1), .inl (fun _ => 0))), (q4, .inl (c4, k2, .inl (fun _ => 0)))]) H := hP
        have hD : va_D A ([(h, .inr (0, [.int p9, .int (nI k1), .int (nI k2), .ref q1, .ref q2, .ref q3, .int (nI (k2 + k1)), .ref q4, .int (nI 0), .int (nI 0), .long (lN 1)])), (q1, .inl (c1, k1 * k2, .inl (fun _ => 0))), (q2, .inl (c2, k1, .inl (fun _ => 0))), (q3, .inl (c3, k1 * (k2 + k1), .inl (fun _ => 0))), (q4, .inl (c4, k2, .inl (fun _ => 0)))]) := hD
        have ec2 := K_eq hK 0 1 rfl rfl
        have ec3 := K_eq hK 0 2 rfl rfl
        have ec4 := K_eq hK 0 3 rfl rfl
        subst ec2 ec3 ec4
        refine W.widen (k := 4) (n := 320) (by omega) (by omega) ?_
        exact hret (q1, q2, q3, q4, c1, v, k1, k2) 143 ls _ _ dX0_init_143 hP hD (hK.sub [0] rfl) hS (Or.inl ⟨hpe, hvl, hvp, rfl, rfl, hk1a, hk1b, hk2a, hk2b⟩)
      · refine nv_if_eq (tgt := 29) hx hb dX0_init_22 (by decide) (by decide) (fun _ => ?_) (fun q => absurd q (by decide))
        refine lv_iconst (v := nI 0) hx hb dX0_init_29 (by decide +kernel) ?_
        refine lv_istore (lv' := [(4, .int (nI 0)), (0, .ref h), (1, .int p9), (2, .int (nI k1)), (3, .int (nI k2))]) hx hb dX0_init_30 hl (by decide) rfl (fun ls hl => ?_)
        refine lv_aload_n hx hb dX0_init_32 rfl (lv_at hl 1 rfl) ?_
        refine lv_iload_n hx hb dX0_init_33 rfl (lv_at hl 2 rfl) ?_
        refine x0_putF S hin hini hK hP hD hS rfl 0 (by decide) rfl (by decide +kernel) rfl (ty := .int) (v := .int p9) rfl rfl rfl (Nat.le_of_ble_eq_true rfl) dX0_init_34 (fun H locs hP hD hS => ?_)
        have hP : va_P D vwCl ([(h, .inr (0, [.int p9, .int 0, .int 0, .null, .null, .null, .int 0, .null, .int 0, .int 0, .long 0]))]) H := hP
        have hD : va_D A ([(h, .inr (0, [.int p9, .int 0, .int 0, .null, .null, .null, .int 0, .null, .int 0, .int 0, .long 0]))]) := hD
        refine lv_aload_n hx hb dX0_init_37 rfl (lv_at hl 1 rfl) ?_
        refine lv_iload hx hb dX0_init_38 (lv_at hl 0 rfl) ?_
        refine nv_if_eq (tgt := 47) hx hb dX0_init_40 (by decide) (by decide) (fun _ => ?_) (fun q => absurd q (by decide))
        refine lv_iconst (v := nI 0) hx hb dX0_init_47 (by decide +kernel) ?_
        refine x0_putF S hin hini hK hP hD hS rfl 1 (by decide) rfl (by decide +kernel) rfl (ty := .int) (v := .int (nI 0)) rfl rfl rfl (Nat.le_of_ble_eq_true rfl) dX0_init_48 (fun H locs hP hD hS => ?_)
        have hP : va_P D vwCl ([(h, .inr (0, [.int p9, .int (nI 0), .int 0, .null, .null, .null, .int 0, .null, .int 0, .int 0, .long 0]))]) H := hP
        have hD : va_D A ([(h, .inr (0, [.int p9, .int (nI 0), .int 0, .null, .null, .null, .int 0, .null, .int 0, .int 0, .long 0]))]) := hD
        refine lv_aload_n hx hb dX0_init_51 rfl (lv_at hl 1 rfl) ?_
        refine lv_iload hx hb dX0_init_52 (lv_at hl 0 rfl) ?_
        refine nv_if_eq (tgt := 61) hx hb dX0_init_54 (by decide) (by decide) (fun _ => ?_) (fun q => absurd q (by decide))
        refine lv_iconst (v := nI 0) hx hb dX0_init_61 (by decide +kernel) ?_
        refine x0_putF S hin hini hK hP hD hS rfl 2 (by decide) rfl (by decide +kernel) rfl (ty := .int) (v := .int (nI 0)) rfl rfl rfl (Nat.le_of_ble_eq_true rfl) dX0_init_62 (fun H locs hP hD hS => ?_)
        have hP : va_P D vwCl ([(h, .inr (0, [.int p9, .int (nI 0), .int (nI 0), .null, .null, .null, .int 0, .null, .int 0, .int 0, .long 0]))]) H := hP
        have hD : va_D A ([(h, .inr (0, [.int p9, .int (nI 0), .int (nI 0), .null, .null, .null, .int 0, .null, .int 0, .int 0, .long 0]))]) := hD
        refine lv_aload_n hx hb dX0_init_65 rfl (lv_at hl 1 rfl) ?_
        refine lv_aload_n hx hb dX0_init_66 rfl (lv_at hl 1 rfl) ?_
        refine x0_get S hin hK hP rfl 2 (by decide) rfl (by decide +kernel) (v := .int (nI 0)) rfl dX0_init_67 ?_
        refine lv_aload_n hx hb dX0_init_70 rfl (lv_at hl 1 rfl) ?_
        refine x0_get S hin hK hP rfl 1 (by decide) rfl (by decide +kernel) (v := .int (nI 0)) rfl dX0_init_71 ?_
        refine nv_iadd hx hb dX0_init_74 ?_
        refine x0_putF S hin hini hK hP hD hS rfl 6 (by decide) rfl (by decide +kernel) rfl (ty := .int) (v := .int (nI (0 + 0))) rfl rfl rfl (Nat.le_of_ble_eq_true rfl) dX0_init_75 (fun H locs hP hD hS => ?_)
        have hP : va_P D vwCl ([(h, .inr (0, [.int p9, .int (nI 0), .int (nI 0), .null, .null, .null, .int (nI (0 + 0)), .null, .int 0, .int 0, .long 0]))]) H := hP
        have hD : va_D A ([(h, .inr (0, [.int p9, .int (nI 0), .int (nI 0), .null, .null, .null, .int (nI (0 + 0)), .null, .int 0, .int 0, .long 0]))]) := hD
        refine lv_aload_n hx hb dX0_init_78 rfl (lv_at hl 1 rfl) ?_
        refine lv_aload_n hx hb dX0_init_79 rfl (lv_at hl 1 rfl) ?_
        refine x0_get S hin hK hP rfl 1 (by decide) rfl (by decide +kernel) (v := .int (nI 0)) rfl dX0_init_80 ?_
        refine lv_aload_n hx hb dX0_init_83 rfl (lv_at hl 1 rfl) ?_
        refine x0_get S hin hK hP rfl 2 (by decide) rfl (by decide +kernel) (v := .int (nI 0)) rfl dX0_init_84 ?_
        refine nv_imul hx hb dX0_init_87 ?_
        refine va_newa hx hb (atype := .int) (hts (.arrayClass .int) (by decide +kernel)) rfl hK hP hD hS hA (N' := (0 * 0)) (a0 := (0 * 0, .inl (fun _ => 0))) (fun _ => rfl) (nI_pos (by omega)) (nI_clamp (by omega)) (by show _ * 4 ≤ _; omega) (Nat.le_of_ble_eq_true rfl) (by show _ ≤ 320; omega) dX0_init_88 (fun q1 c1 H hK hP hD hS => ?_)
        have hK : va_K D vwCl [(c1, .int)] s := hK
        have hP : va_P D vwCl ([(h, .inr (0, [.int p9, .int (nI 0), .int (nI 0), .null, .null, .null, .int (nI (0 + 0)), .null, .int 0, .int 0, .long 0])), (q1, .inl (c1, 0 * 0, .inl (fun _ => 0)))]) H := hP
        have hD : va_D A ([(h, .inr (0, [.int p9, .int (nI 0), .int (nI 0), .null, .null, .null, .int (nI (0 + 0)), .null, .int 0, .int 0, .long 0])), (q1, .inl (c1, 0 * 0, .inl (fun _ => 0)))]) := hD
        refine x0_putF S hin hini hK hP hD hS rfl 3 (by decide) rfl (by decide +kernel) rfl (ty := .array .int) (v := .ref q1) rfl rfl rfl (Nat.le_of_ble_eq_true rfl) dX0_init_90 (fun H locs hP hD hS => ?_)
        have hP : va_P D vwCl ([(h, .inr (0, [.int p9, .int (nI 0), .int (nI 0), .ref q1, .null, .null, .int (nI (0 + 0)), .null, .int 0, .int 0, .long 0])), (q1, .inl (c1, 0 * 0, .inl (fun _ => 0)))]) H := hP
        have hD : va_D A ([(h, .inr (0, [.int p9, .int (nI 0), .int (nI 0), .ref q1, .null, .null, .int (nI (0 + 0)), .null, .int 0, .int 0, .long 0])), (q1, .inl (c1, 0 * 0, .inl (fun _ => 0)))]) := hD
        refine lv_aload_n hx hb dX0_init_93 rfl (lv_at hl 1 rfl) ?_
        refine lv_aload_n hx hb dX0_init_94 rfl (lv_at hl 1 rfl) ?_
        refine x0_get S hin hK hP rfl 1 (by decide) rfl (by decide +kernel) (v := .int (nI 0)) rfl dX0_init_95 ?_
        refine va_newa hx hb (atype := .int) (hts (.arrayClass .int) (by decide +kernel)) rfl hK hP hD hS hA (N' := 0) (a0 := (0, .inl (fun _ => 0))) (fun _ => rfl) (nI_pos (by omega)) (nI_clamp (by omega)) (by show _ * 4 ≤ _; omega) (Nat.le_of_ble_eq_true rfl) (by show _ ≤ 320; omega) dX0_init_98 (fun q2 c2 H hK hP hD hS => ?_)
        have hK : va_K D vwCl [(c1, .int), (c2, .int)] s := hK
        have hP : va_P D vwCl ([(h, .inr (0, [.int p9, .int (nI 0), .int (nI 0), .ref q1, .null, .null, .int (nI (0 + 0)), .null, .int 0, .int 0, .long 0])), (q1, .inl (c1, 0 * 0, .inl (fun _ => 0))), (q2, .inl (c2, 0, .inl (fun _ => 0)))]) H := hP
        have hD : va_D A ([(h, .inr (0, [.int p9, .int (nI 0), .int (nI 0), .ref q1, .null, .null, .int (nI (0 + 0)), .null, .int 0, .int 0, .long 0])), (q1, .inl (c1, 0 * 0, .inl (fun _ => 0))), (q2, .inl (c2, 0, .inl (fun _ => 0)))]) := hD
        refine x0_putF S hin hini hK hP hD hS rfl 4 (by decide) rfl (by decide +kernel) rfl (ty := .array .int) (v := .ref q2) rfl rfl rfl (Nat.le_of_ble_eq_true rfl) dX0_init_100 (fun H locs hP hD hS => ?_)
        have hP : va_P D vwCl ([(h, .inr (0, [.int p9, .int (nI 0), .int (nI 0), .ref q1, .ref q2, .null, .int (nI (0 + 0)), .null, .int 0, .int 0, .long 0])), (q1, .inl (c1, 0 * 0, .inl (fun _ => 0))), (q2, .inl (c2, 0, .inl (fun _ => 0)))]) H := hP
        have hD : va_D A ([(h, .inr (0, [.int p9, .int (nI 0), .int (nI 0), .ref q1, .ref q2, .null, .int (nI (0 + 0)), .null, .int 0, .int 0, .long 0])), (q1, .inl (c1, 0 * 0, .inl (fun _ => 0))), (q2, .inl (c2, 0, .inl (fun _ => 0)))]) := hD
        refine lv_aload_n hx hb dX0_init_103 rfl (lv_at hl 1 rfl) ?_
        refine lv_aload_n hx hb dX0_init_104 rfl (lv_at hl 1 rfl) ?_
        refine x0_get S hin hK hP rfl 1 (by decide) rfl (by decide +kernel) (v := .int (nI 0)) rfl dX0_init_105 ?_
        refine lv_aload_n hx hb dX0_init_108 rfl (lv_at hl 1 rfl) ?_
        refine x0_get S hin hK hP rfl 6 (by decide) rfl (by decide +kernel) (v := .int (nI (0 + 0))) rfl dX0_init_109 ?_
        refine nv_imul hx hb dX0_init_112 ?_
        refine va_newa hx hb (atype := .int) (hts (.arrayClass .int) (by decide +kernel)) rfl hK hP hD hS hA (N' := (0 * (0 + 0))) (a0 := (0 * (0 + 0), .inl (fun _ => 0))) (fun _ => rfl) (nI_pos (by omega)) (nI_clamp (by omega)) (by show _ * 4 ≤ _; omega) (Nat.le_of_ble_eq_true rfl) (by show _ ≤ 320; omega) dX0_init_113 (fun q3 c3 H hK hP hD hS => ?_)
        have hK : va_K D vwCl [(c1, .int), (c2, .int), (c3, .int)] s := hK
        have hP : va_P D vwCl ([(h, .inr (0, [.int p9, .int (nI 0), .int (nI 0), .ref q1, .ref q2, .null, .int (nI (0 + 0)), .null, .int 0, .int 0, .long 0])), (q1, .inl (c1, 0 * 0, .inl (fun _ => 0))), (q2, .inl (c2, 0, .inl (fun _ => 0))), (q3, .inl (c3, 0 * (0 + 0), .inl (fun _ => 0)))]) H := hP
        have hD : va_D A ([(h, .inr (0, [.int p9, .int (nI 0), .int (nI 0), .ref q1, .ref q2, .null, .int (nI (0 + 0)), .null, .int 0, .int 0, .long 0])), (q1, .inl (c1, 0 * 0, .inl (fun _ => 0))), (q2, .inl (c2, 0, .inl (fun _ => 0))), (q3, .inl (c3, 0 * (0 + 0), .inl (fun _ => 0)))]) := hD
        refine x0_putF S hin hini hK hP hD hS rfl 5 (by decide) rfl (by decide +kernel) rfl (ty := .array .int) (v := .ref q3) rfl rfl rfl (Nat.le_of_ble_eq_true rfl) dX0_init_115 (fun H locs hP hD hS => ?_)
        have hP : va_P D vwCl ([(h, .inr (0, [.int p9, .int (nI 0), .int (nI 0), .ref q1, .ref q2, .ref q3, .int (nI (0 + 0)), .null, .int 0, .int 0, .long 0])), (q1, .inl (c1, 0 * 0, .inl (fun _ => 0))), (q2, .inl (c2, 0, .inl (fun _ => 0))), (q3, .inl (c3, 0 * (0 + 0), .inl (fun _ => 0)))]) H := hP
        have hD : va_D A ([(h, .inr (0, [.int p9, .int (nI 0), .int (nI 0), .ref q1, .ref q2, .ref q3, .int (nI (0 + 0)), .null, .int 0, .int 0, .long 0])), (q1, .inl (c1, 0 * 0, .inl (fun _ => 0))), (q2, .inl (c2, 0, .inl (fun _ => 0))), (q3, .inl (c3, 0 * (0 + 0), .inl (fun _ => 0)))]) := hD
        refine lv_aload_n hx hb dX0_init_118 rfl (lv_at hl 1 rfl) ?_
        refine lv_aload_n hx hb dX0_init_119 rfl (lv_at hl 1 rfl) ?_
        refine x0_get S hin hK hP rfl 2 (by decide) rfl (by decide +kernel) (v := .int (nI 0)) rfl dX0_init_120 ?_
        refine va_newa hx hb (atype := .int) (hts (.arrayClass .int) (by decide +kernel)) rfl hK hP hD hS hA (N' := 0) (a0 := (0, .inl (fun _ => 0))) (fun _ => rfl) (nI_pos (by omega)) (nI_clamp (by omega)) (by show _ * 4 ≤ _; omega) (Nat.le_of_ble_eq_true rfl) (by show _ ≤ 320; omega) dX0_init_123 (fun q4 c4 H hK hP hD hS => ?_)
        have hK : va_K D vwCl [(c1, .int), (c2, .int), (c3, .int), (c4, .int)] s := hK
        have hP : va_P D vwCl ([(h, .inr (0, [.int p9, .int (nI 0), .int (nI 0), .ref q1, .ref q2, .ref q3, .int (nI (0 + 0)), .null, .int 0, .int 0, .long 0])), (q1, .inl (c1, 0 * 0, .inl (fun _ => 0))), (q2, .inl (c2, 0, .inl (fun _ => 0))), (q3, .inl (c3, 0 * (0 + 0), .inl (fun _ => 0))), (q4, .inl (c4, 0, .inl (fun _ => 0)))]) H := hP
        have hD : va_D A ([(h, .inr (0, [.int p9, .int (nI 0), .int (nI 0), .ref q1, .ref q2, .ref q3, .int (nI (0 + 0)), .null, .int 0, .int 0, .long 0])), (q1, .inl (c1, 0 * 0, .inl (fun _ => 0))), (q2, .inl (c2, 0, .inl (fun _ => 0))), (q3, .inl (c3, 0 * (0 + 0), .inl (fun _ => 0))), (q4, .inl (c4, 0, .inl (fun _ => 0)))]) := hD
        refine x0_putF S hin hini hK hP hD hS rfl 7 (by decide) rfl (by decide +kernel) rfl (ty := .array .int) (v := .ref q4) rfl rfl rfl (Nat.le_of_ble_eq_true rfl) dX0_init_125 (fun H locs hP hD hS => ?_)
        have hP : va_P D vwCl ([(h, .inr (0, [.int p9, .int (nI 0), .int (nI 0), .ref q1, .ref q2, .ref q3, .int (nI (0 + 0)), .ref q4, .int 0, .int 0, .long 0])), (q1, .inl (c1, 0 * 0, .inl (fun _ => 0))), (q2, .inl (c2, 0, .inl (fun _ => 0))), (q3, .inl (c3, 0 * (0 + 0), .inl (fun _ => 0))), (q4, .inl (c4, 0, .inl (fun _ => 0)))]) H := hP
        have hD : va_D A ([(h, .inr (0, [.int p9, .int (nI 0), .int (nI 0), .ref q1, .ref q2, .ref q3, .int (nI (0 + 0)), .ref q4, .int 0, .int 0, .long 0])), (q1, .inl (c1, 0 * 0, .inl (fun _ => 0))), (q2, .inl (c2, 0, .inl (fun _ => 0))), (q3, .inl (c3, 0 * (0 + 0), .inl (fun _ => 0))), (q4, .inl (c4, 0, .inl (fun _ => 0)))]) := hD
        refine lv_aload_n hx hb dX0_init_128 rfl (lv_at hl 1 rfl) ?_
        refine lv_iconst (v := nI 0) hx hb dX0_init_129 (by decide +kernel) ?_
        refine x0_put S hin hK hP hD hS rfl 8 (by decide) rfl (by decide +kernel) rfl (ty := .boolean) (v := .int (nI 0)) rfl (by decide +kernel) rfl (Nat.le_of_ble_eq_true rfl) dX0_init_130 (fun H locs hP hD hS => ?_)
        have hP : va_P D vwCl ([(h, .inr (0, [.int p9, .int (nI 0), .int (nI 0), .ref q1, .ref q2, .ref q3, .int (nI (0 + 0)), .ref q4, .int (nI 0), .int 0, .long 0])), (q1, .inl (c1, 0 * 0, .inl (fun _ => 0))), (q2, .inl (c2, 0, .inl (fun _ => 0))), (q3, .inl (c3, 0 * (0 + 0), .inl (fun _ => 0))), (q4, .inl (c4, 0, .inl (fun _ => 0)))]) H := hP
        have hD : va_D A ([(h, .inr (0, [.int p9, .int (nI 0), .int (nI 0), .ref q1, .ref q2, .ref q3, .int (nI (0 + 0)), .ref q4, .int (nI 0), .int 0, .long 0])), (q1, .inl (c1, 0 * 0, .inl (fun _ => 0))), (q2, .inl (c2, 0, .inl (fun _ => 0))), (q3, .inl (c3, 0 * (0 + 0), .inl (fun _ => 0))), (q4, .inl (c4, 0, .inl (fun _ => 0)))]) := hD
        refine lv_aload_n hx hb dX0_init_133 rfl (lv_at hl 1 rfl) ?_
        refine lv_iconst (v := nI 0) hx hb dX0_init_134 (by decide +kernel) ?_
        refine x0_put S hin hK hP hD hS rfl 9 (by decide) rfl (by decide +kernel) rfl (ty := .int) (v := .int (nI 0)) rfl rfl rfl (Nat.le_of_ble_eq_true rfl) dX0_init_135 (fun H locs hP hD hS => ?_)
        have hP : va_P D vwCl ([(h, .inr (0, [.int p9, .int (nI 0), .int (nI 0), .ref q1, .ref q2, .ref q3, .int (nI (0 + 0)), .ref q4, .int (nI 0), .int (nI 0), .long 0])), (q1, .inl (c1, 0 * 0, .inl (fun _ => 0))), (q2, .inl (c2, 0, .inl (fun _ => 0))), (q3, .inl (c3, 0 * (0 + 0), .inl (fun _ => 0))), (q4, .inl (c4, 0, .inl (fun _ => 0)))]) H := hP
        have hD : va_D A ([(h, .inr (0, [.int p9, .int (nI 0), .int (nI 0), .ref q1, .ref q2, .ref q3, .int (nI (0 + 0)), .ref q4, .int (nI 0), .int (nI 0), .long 0])), (q1, .inl (c1, 0 * 0, .inl (fun _ => 0))), (q2, .inl (c2, 0, .inl (fun _ => 0))), (q3, .inl (c3, 0 * (0 + 0), .inl (fun _ => 0))), (q4, .inl (c4, 0, .inl (fun _ => 0)))]) := hD
        refine lv_aload_n hx hb dX0_init_138 rfl (lv_at hl 1 rfl) ?_
        refine lv_lconst (v := lN 1) hx hb dX0_init_139 rfl ?_
        refine x0_put S hin hK hP hD hS rfl 10 (by decide) rfl (by decide +kernel) rfl (ty := .long) (v := .long (lN 1)) rfl rfl rfl (Nat.le_of_ble_eq_true rfl) dX0_init_140 (fun H locs hP hD hS => ?_)
        have hP : va_P D vwCl ([(h, .inr (0, [.int p9, .int (nI 0), .int (nI 0), .ref q1, .ref q2, .ref q3, .int (nI (0 + 0)), .ref q4, .int (nI 0), .int (nI 0), .long (lN 1)])), (q1, .inl (c1, 0 * 0, .inl (fun _ => 0))), (q2, .inl (c2, 0, .inl (fun _ => 0))), (q3, .inl (c3, 0 * (0 + 0), .inl (fun _ => 0))), (q4, .inl (c4, 0, .inl (fun _ => 0)))]) H := hP
        have hD : va_D A ([(h, .inr (0, [.int p9, .int (nI 0), .int (nI 0), .ref q1, .ref q2, .ref q3, .int (nI (0 + 0)), .ref q4, .int (nI 0), .int (nI 0), .long (lN 1)])), (q1, .inl (c1, 0 * 0, .inl (fun _ => 0))), (q2, .inl (c2, 0, .inl (fun _ => 0))), (q3, .inl (c3, 0 * (0 + 0), .inl (fun _ => 0))), (q4, .inl (c4, 0, .inl (fun _ => 0)))]) := hD
        have ec2 := K_eq hK 0 1 rfl rfl
        have ec3 := K_eq hK 0 2 rfl rfl
        have ec4 := K_eq hK 0 3 rfl rfl
        subst ec2 ec3 ec4
        refine W.widen (k := 4) (n := 320) (by omega) (by omega) ?_
        exact hret (q1, q2, q3, q4, c1, 0, 0, 0) 143 ls _ _ dX0_init_143 hP hD (hK.sub [0] rfl) hS (inval_p nop)
    · refine nv_if_eq (tgt := 29) hx hb dX0_init_15 (by decide) (by decide) (fun _ => ?_) (fun q => absurd q (by decide))
      refine lv_iconst (v := nI 0) hx hb dX0_init_29 (by decide +kernel) ?_
      refine lv_istore (lv' := [(4, .int (nI 0)), (0, .ref h), (1, .int p9), (2, .int (nI k1)), (3, .int n9)]) hx hb dX0_init_30 hl (by decide) rfl (fun ls hl => ?_)
      refine lv_aload_n hx hb dX0_init_32 rfl (lv_at hl 1 rfl) ?_
      refine lv_iload_n hx hb dX0_init_33 rfl (lv_at hl 2 rfl) ?_
      refine x0_putF S hin hini hK hP hD hS rfl 0 (by decide) rfl (by decide +kernel) rfl (ty := .int) (v := .int p9) rfl rfl rfl (Nat.le_of_ble_eq_true rfl) dX0_init_34 (fun H locs hP hD hS => ?_)
      have hP : va_P D vwCl ([(h, .inr (0, [.int p9, .int 0, .int 0, .null, .null, .null, .int 0, .null, .int 0, .int 0, .long 0]))]) H := hP
      have hD : va_D A ([(h, .inr (0, [.int p9, .int 0, .int 0, .null, .null, .null, .int 0, .null, .int 0, .int 0, .long 0]))]) := hD
      refine lv_aload_n hx hb dX0_init_37 rfl (lv_at hl 1 rfl) ?_
      refine lv_iload hx hb dX0_init_38 (lv_at hl 0 rfl) ?_
      refine nv_if_eq (tgt := 47) hx hb dX0_init_40 (by decide) (by decide) (fun _ => ?_) (fun q => absurd q (by decide))
      refine lv_iconst (v := nI 0) hx hb dX0_init_47 (by decide +kernel) ?_
      refine x0_putF S hin hini hK hP hD hS rfl 1 (by decide) rfl (by decide +kernel) rfl (ty := .int) (v := .int (nI 0)) rfl rfl rfl (Nat.le_of_ble_eq_true rfl) dX0_init_48 (fun H locs hP hD hS => ?_)
      have hP : va_P D vwCl ([(h, .inr (0, [.int p9, .int (nI 0), .int 0, .null, .null, .null, .int 0, .null, .int 0, .int 0, .long 0]))]) H := hP
      have hD : va_D A ([(h, .inr (0, [.int p9, .int (nI 0), .int 0, .null, .null, .null, .int 0, .null, .int 0, .int 0, .long 0]))]) := hD
      refine lv_aload_n hx hb dX0_init_51 rfl (lv_at hl 1 rfl) ?_
      refine lv_iload hx hb dX0_init_52 (lv_at hl 0 rfl) ?_
      refine nv_if_eq (tgt := 61) hx hb dX0_init_54 (by decide) (by decide) (fun _ => ?_) (fun q => absurd q (by decide))
      refine lv_iconst (v := nI 0) hx hb dX0_init_61 (by decide +kernel) ?_
      refine x0_putF S hin hini hK hP hD hS rfl 2 (by decide) rfl (by decide +kernel) rfl (ty := .int) (v := .int (nI 0)) rfl rfl rfl (Nat.le_of_ble_eq_true rfl) dX0_init_62 (fun H locs hP hD hS => ?_)
      have hP : va_P D vwCl ([(h, .inr (0, [.int p9, .int (nI 0), .int (nI 0), .null, .null, .null, .int 0, .null, .int 0, .int 0, .long 0]))]) H := hP
      have hD : va_D A ([(h, .inr (0, [.int p9, .int (nI 0), .int (nI 0), .null, .null, .null, .int 0, .null, .int 0, .int 0, .long 0]))]) := hD
      refine lv_aload_n hx hb dX0_init_65 rfl (lv_at hl 1 rfl) ?_
      refine lv_aload_n hx hb dX0_init_66 rfl (lv_at hl 1 rfl) ?_
      refine x0_get S hin hK hP rfl 2 (by decide) rfl (by decide +kernel) (v := .int (nI 0)) rfl dX0_init_67 ?_
      refine lv_aload_n hx hb dX0_init_70 rfl (lv_at hl 1 rfl) ?_
      refine x0_get S hin hK hP rfl 1 (by decide) rfl (by decide +kernel) (v := .int (nI 0)) rfl dX0_init_71 ?_
      refine nv_iadd hx hb dX0_init_74 ?_
      refine x0_putF S hin hini hK hP hD hS rfl 6 (by decide) rfl (by decide +kernel) rfl (ty := .int) (v := .int (nI (0 + 0))) rfl rfl rfl (Nat.le_of_ble_eq_true rfl) dX0_init_75 (fun H locs hP hD hS => ?_)
      have hP : va_P D vwCl ([(h, .inr (0, [.int p9, .int (nI 0), .int (nI 0), .null, .null, .null, .int (nI (0 + 0)), .null, .int 0, .int 0, .long 0]))]) H := hP
      have hD : va_D A ([(h, .inr (0, [.int p9, .int (nI 0), .int (nI 0), .null, .null, .null, .int (nI (0 + 0)), .null, .int 0, .int 0, .long 0]))]) := hD
      refine lv_aload_n hx hb dX0_init_78 rfl (lv_at hl 1 rfl) ?_
      refine lv_aload_n hx hb dX0_init_79 rfl (lv_at hl 1 rfl) ?_
      refine x0_get S hin hK hP rfl 1 (by decide) rfl (by decide +kernel) (v := .int (nI 0)) rfl dX0_init_80 ?_
      refine lv_aload_n hx hb dX0_init_83 rfl (lv_at hl 1 rfl) ?_
      refine x0_get S hin hK hP rfl 2 (by decide) rfl (by decide +kernel) (v := .int (nI 0)) rfl dX0_init_84 ?_
      refine nv_imul hx hb dX0_init_87 ?_
      refine va_newa hx hb (atype := .int) (hts (.arrayClass .int) (by decide +kernel)) rfl hK hP hD hS hA (N' := (0 * 0)) (a0 := (0 * 0, .inl (fun _ => 0))) (fun _ => rfl) (nI_pos (by omega)) (nI_clamp (by omega)) (by show _ * 4 ≤ _; omega) (Nat.le_of_ble_eq_true rfl) (by show _ ≤ 320; omega) dX0_init_88 (fun q1 c1 H hK hP hD hS => ?_)
      have hK : va_K D vwCl [(c1, .int)] s := hK
      have hP : va_P D vwCl ([(h, .inr (0, [.int p9, .int (nI 0), .int (nI 0), .null, .null, .null, .int (nI (0 + 0)), .null, .int 0, .int 0, .long 0])), (q1, .inl (c1, 0 * 0, .inl (fun _ => 0)))]) H := hP
      have hD : va_D A ([(h, .inr (0, [.int p9, .int (nI 0), .int (nI 0), .null, .null, .null, .int (nI (0 + 0)), .null, .int 0, .int 0, .long 0])), (q1, .inl (c1, 0 * 0, .inl (fun _ => 0)))]) := hD
      refine x0_putF S hin hini hK hP hD hS rfl 3 (by decide) rfl (by decide +kernel) rfl (ty := .array .int) (v := .ref q1) rfl rfl rfl (Nat.le_of_ble_eq_true rfl) dX0_init_90 (fun H locs hP hD hS => ?_)
      have hP : va_P D vwCl ([(h, .inr (0, [.int p9, .int (nI 0), .int (nI 0), .ref q1, .null, .null, .int (nI (0 + 0)), .null, .int 0, .int 0, .long 0])), (q1, .inl (c1, 0 * 0, .inl (fun _ => 0)))]) H := hP
      have hD : va_D A ([(h, .inr (0, [.int p9, .int (nI 0), .int (nI 0), .ref q1, .null, .null, .int (nI (0 + 0)), .null, .int 0, .int 0, .long 0])), (q1, .inl (c1, 0 * 0, .inl (fun _ => 0)))]) := hD
      refine lv_aload_n hx hb dX0_init_93 rfl (lv_at hl 1 rfl) ?_
      refine lv_aload_n hx hb dX0_init_94 rfl (lv_at hl 1 rfl) ?_
      refine x0_get S hin hK hP rfl 1 (by decide) rfl (by decide +kernel) (v := .int (nI 0)) rfl dX0_init_95 ?_
      refine va_newa hx hb (atype := .int) (hts (.arrayClass .int) (by decide +kernel)) rfl hK hP hD hS hA (N' := 0) (a0 := (0, .inl (fun _ => 0))) (fun _ => rfl) (nI_pos (by omega)) (nI_clamp (by omega)) (by show _ * 4 ≤ _; omega) (Nat.le_of_ble_eq_true rfl) (by show _ ≤ 320; omega) dX0_init_98 (fun q2 c2 H hK hP hD hS => ?_)
      have hK : va_K D vwCl [(c1, .int), (c2, .int)] s := hK
      have hP : va_P D vwCl ([(h, .inr (0, [.int p9, .int (nI 0), .int (nI 0), .ref q1, .null, .null, .int (nI (0 + 0)), .null, .int 0, .int 0, .long 0])), (q1, .inl (c1, 0 * 0, .inl (fun _ => 0))), (q2, .inl (c2, 0, .inl (fun _ => 0)))]) H := hP
      have hD : va_D A ([(h, .inr (0, [.int p9, .int (nI 0), .int (nI 0), .ref q1, .null, .null, .int (nI (0 + 0)), .null, .int 0, .int 0, .long 0])), (q1, .inl (c1, 0 * 0, .inl (fun _ => 0))), (q2, .inl (c2, 0, .inl (fun _ => 0)))]) := hD
      refine x0_putF S hin hini hK hP hD hS rfl 4 (by decide) rfl (by decide +kernel) rfl (ty := .array .int) (v := .ref q2) rfl rfl rfl (Nat.le_of_ble_eq_true rfl) dX0_init_100 (fun H locs hP hD hS => ?_)
      have hP : va_P D vwCl ([(h, .inr (0, [.int p9, .int (nI 0), .int (nI 0), .ref q1, .ref q2, .null, .int (nI (0 + 0)), .null, .int 0, .int 0, .long 0])), (q1, .inl (c1, 0 * 0, .inl (fun _ => 0))), (q2, .inl (c2, 0, .inl (fun _ => 0)))]) H := hP
      have hD : va_D A ([(h, .inr (0, [.int p9, .int (nI 0), .int (nI 0), .ref q1, .ref q2, .null, .int (nI (0 + 0)), .null, .int 0, .int 0, .long 0])), (q1, .inl (c1, 0 * 0, .inl (fun _ => 0))), (q2, .inl (c2, 0, .inl (fun _ => 0)))]) := hD
      refine lv_aload_n hx hb dX0_init_103 rfl (lv_at hl 1 rfl) ?_
      refine lv_aload_n hx hb dX0_init_104 rfl (lv_at hl 1 rfl) ?_
      refine x0_get S hin hK hP rfl 1 (by decide) rfl (by decide +kernel) (v := .int (nI 0)) rfl dX0_init_105 ?_
      refine lv_aload_n hx hb dX0_init_108 rfl (lv_at hl 1 rfl) ?_
      refine x0_get S hin hK hP rfl 6 (by decide) rfl (by decide +kernel) (v := .int (nI (0 + 0))) rfl dX0_init_109 ?_
      refine nv_imul hx hb dX0_init_112 ?_
      refine va_newa hx hb (atype := .int) (hts (.arrayClass .int) (by decide +kernel)) rfl hK hP hD hS hA (N' := (0 * (0 + 0))) (a0 := (0 * (0 + 0), .inl (fun _ => 0))) (fun _ => rfl) (nI_pos (by omega)) (nI_clamp (by omega)) (by show _ * 4 ≤ _; omega) (Nat.le_of_ble_eq_true rfl) (by show _ ≤ 320; omega) dX0_init_113 (fun q3 c3 H hK hP hD hS => ?_)
      have hK : va_K D vwCl [(c1, .int), (c2, .int), (c3, .int)] s := hK
      have hP : va_P D vwCl ([(h, .inr (0, [.int p9, .int (nI 0), .int (nI 0), .ref q1, .ref q2, .null, .int (nI (0 + 0)), .null, .int 0, .int 0, .long 0])), (q1, .inl (c1, 0 * 0, .inl (fun _ => 0))), (q2, .inl (c2, 0, .inl (fun _ => 0))), (q3, .inl (c3, 0 * (0 + 0), .inl (fun _ => 0)))]) H := hP
      have hD : va_D A ([(h, .inr (0, [.int p9, .int (nI 0), .int (nI 0), .ref q1, .ref q2, .null, .int (nI (0 + 0)), .null, .int 0, .int 0, .long 0])), (q1, .inl (c1, 0 * 0, .inl (fun _ => 0))), (q2, .inl (c2, 0, .inl (fun _ => 0))), (q3, .inl (c3, 0 * (0 + 0), .inl (fun _ => 0)))]) := hD
      refine x0_putF S hin hini hK hP hD hS rfl 5 (by decide) rfl (by decide +kernel) rfl (ty := .array .int) (v := .ref q3) rfl rfl rfl (Nat.le_of_ble_eq_true rfl) dX0_init_115 (fun H locs hP hD hS => ?_)
      have hP : va_P D vwCl ([(h, .inr (0, [.int p9, .int (nI 0), .int (nI 0), .ref q1, .ref q2, .ref q3, .int (nI (0 + 0)), .null, .int 0, .int 0, .long 0])), (q1, .inl (c1, 0 * 0, .inl (fun _ => 0))), (q2, .inl (c2, 0, .inl (fun _ => 0))), (q3, .inl (c3, 0 * (0 + 0), .inl (fun _ => 0)))]) H := hP
      have hD : va_D A ([(h, .inr (0, [.int p9, .int (nI 0), .int (nI 0), .ref q1, .ref q2, .ref q3, .int (nI (0 + 0)), .null, .int 0, .int 0, .long 0])), (q1, .inl (c1, 0 * 0, .inl (fun _ => 0))), (q2, .inl (c2, 0, .inl (fun _ => 0))), (q3, .inl (c3, 0 * (0 + 0), .inl (fun _ => 0)))]) := hD
      refine lv_aload_n hx hb dX0_init_118 rfl (lv_at hl 1 rfl) ?_
      refine lv_aload_n hx hb dX0_init_119 rfl (lv_at hl 1 rfl) ?_
      refine x0_get S hin hK hP rfl 2 (by decide) rfl (by decide +kernel) (v := .int (nI 0)) rfl dX0_init_120 ?_
      refine va_newa hx hb (atype := .int) (hts (.arrayClass .int) (by decide +kernel)) rfl hK hP hD hS hA (N' := 0) (a0 := (0, .inl (fun _ => 0))) (fun _ => rfl) (nI_pos (by omega)) (nI_clamp (by omega)) (by show _ * 4 ≤ _; omega) (Nat.le_of_ble_eq_true rfl) (by show _ ≤ 320; omega) dX0_init_123 (fun q4 c4 H hK hP hD hS => ?_)
      have hK : va_K D vwCl [(c1, .int), (c2, .int), (c3, .int), (c4, .int)] s := hK
      have hP : va_P D vwCl ([(h, .inr (0, [.int p9, .int (nI 0), .int (nI 0), .ref q1, .ref q2, .ref q3, .int (nI (0 + 0)), .null, .int 0, .int 0, .long 0])), (q1, .inl (c1, 0 * 0, .inl (fun _ => 0))), (q2, .inl (c2, 0, .inl (fun _ => 0))), (q3, .inl (c3, 0 * (0 + 0), .inl (fun _ => 0))), (q4, .inl (c4, 0, .inl (fun _ => 0)))]) H := hP
      have hD : va_D A ([(h, .inr (0, [.int p9, .int (nI 0), .int (nI 0), .ref q1, .ref q2, .ref q3, .int (nI (0 + 0)), .null, .int 0, .int 0, .long 0])), (q1, .inl (c1, 0 * 0, .inl (fun _ => 0))), (q2, .inl (c2, 0, .inl (fun _ => 0))), (q3, .inl (c3, 0 * (0 + 0), .inl (fun _ => 0))), (q4, .inl (c4, 0, .inl (fun _ => 0)))]) := hD
      refine x0_putF S hin hini hK hP hD hS rfl 7 (by decide) rfl (by decide +kernel) rfl (ty := .array .int) (v := .ref q4) rfl rfl rfl (Nat.le_of_ble_eq_true rfl) dX0_init_125 (fun H locs hP hD hS => ?_)
      have hP : va_P D vwCl ([(h, .inr (0, [.int p9, .int (nI 0), .int (nI 0), .ref q1, .ref q2, .ref q3, .int (nI (0 + 0)), .ref q4, .int 0, .int 0, .long 0])), (q1, .inl (c1, 0 * 0, .inl (fun _ => 0))), (q2, .inl (c2, 0, .inl (fun _ => 0))), (q3, .inl (c3, 0 * (0 + 0), .inl (fun _ => 0))), (q4, .inl (c4, 0, .inl (fun _ => 0)))]) H := hP
      have hD : va_D A ([(h, .inr (0, [.int p9, .int (nI 0), .int (nI 0), .ref q1, .ref q2, .ref q3, .int (nI (0 + 0)), .ref q4, .int 0, .int 0, .long 0])), (q1, .inl (c1, 0 * 0, .inl (fun _ => 0))), (q2, .inl (c2, 0, .inl (fun _ => 0))), (q3, .inl (c3, 0 * (0 + 0), .inl (fun _ => 0))), (q4, .inl (c4, 0, .inl (fun _ => 0)))]) := hD
      refine lv_aload_n hx hb dX0_init_128 rfl (lv_at hl 1 rfl) ?_
      refine lv_iconst (v := nI 0) hx hb dX0_init_129 (by decide +kernel) ?_
      refine x0_put S hin hK hP hD hS rfl 8 (by decide) rfl (by decide +kernel) rfl (ty := .boolean) (v := .int (nI 0)) rfl (by decide +kernel) rfl (Nat.le_of_ble_eq_true rfl) dX0_init_130 (fun H locs hP hD hS => ?_)
      have hP : va_P D vwCl ([(h, .inr (0, [.int p9, .int (nI 0), .int (nI 0), .ref q1, .ref q2, .ref q3, .int (nI (0 + 0)), .ref q4, .int (nI 0), .int 0, .long 0])), (q1, .inl (c1, 0 * 0, .inl (fun _ => 0))), (q2, .inl (c2, 0, .inl (fun _ => 0))), (q3, .inl (c3, 0 * (0 + 0), .inl (fun _ => 0))), (q4, .inl (c4, 0, .inl (fun _ => 0)))]) H := hP
      have hD : va_D A ([(h, .inr (0, [.int p9, .int (nI 0), .int (nI 0), .ref q1, .ref q2, .ref q3, .int (nI (0 + 0)), .ref q4, .int (nI 0), .int 0, .long 0])), (q1, .inl (c1, 0 * 0, .inl (fun _ => 0))), (q2, .inl (c2, 0, .inl (fun _ => 0))), (q3, .inl (c3, 0 * (0 + 0), .inl (fun _ => 0))), (q4, .inl (c4, 0, .inl (fun _ => 0)))]) := hD
      refine lv_aload_n hx hb dX0_init_133 rfl (lv_at hl 1 rfl) ?_
      refine lv_iconst (v := nI 0) hx hb dX0_init_134 (by decide +kernel) ?_
      refine x0_put S hin hK hP hD hS rfl 9 (by decide) rfl (by decide +kernel) rfl (ty := .int) (v := .int (nI 0)) rfl rfl rfl (Nat.le_of_ble_eq_true rfl) dX0_init_135 (fun H locs hP hD hS => ?_)
      have hP : va_P D vwCl ([(h, .inr (0, [.int p9, .int (nI 0), .int (nI 0), .ref q1, .ref q2, .ref q3, .int (nI (0 + 0)), .ref q4, .int (nI 0), .int (nI 0), .long 0])), (q1, .inl (c1, 0 * 0, .inl (fun _ => 0))), (q2, .inl (c2, 0, .inl (fun _ => 0))), (q3, .inl (c3, 0 * (0 + 0), .inl (fun _ => 0))), (q4, .inl (c4, 0, .inl (fun _ => 0)))]) H := hP
      have hD : va_D A ([(h, .inr (0, [.int p9, .int (nI 0), .int (nI 0), .ref q1, .ref q2, .ref q3, .int (nI (0 + 0)), .ref q4, .int (nI 0), .int (nI 0), .long 0])), (q1, .inl (c1, 0 * 0, .inl (fun _ => 0))), (q2, .inl (c2, 0, .inl (fun _ => 0))), (q3, .inl (c3, 0 * (0 + 0), .inl (fun _ => 0))), (q4, .inl (c4, 0, .inl (fun _ => 0)))]) := hD
      refine lv_aload_n hx hb dX0_init_138 rfl (lv_at hl 1 rfl) ?_
      refine lv_lconst (v := lN 1) hx hb dX0_init_139 rfl ?_
      refine x0_put S hin hK hP hD hS rfl 10 (by decide) rfl (by decide +kernel) rfl (ty := .long) (v := .long (lN 1)) rfl rfl rfl (Nat.le_of_ble_eq_true rfl) dX0_init_140 (fun H locs hP hD hS => ?_)
      have hP : va_P D vwCl ([(h, .inr (0, [.int p9, .int (nI 0), .int (nI 0), .ref q1, .ref q2, .ref q3, .int (nI (0 + 0)), .ref q4, .int (nI 0), .int (nI 0), .long (lN 1)])), (q1, .inl (c1, 0 * 0, .inl (fun _ => 0))), (q2, .inl (c2, 0, .inl (fun _ => 0))), (q3, .inl (c3, 0 * (0 + 0), .inl (fun _ => 0))), (q4, .inl (c4, 0, .inl (fun _ => 0)))]) H := hP
      have hD : va_D A ([(h, .inr (0, [.int p9, .int (nI 0), .int (nI 0), .ref q1, .ref q2, .ref q3, .int (nI (0 + 0)), .ref q4, .int (nI 0), .int (nI 0), .long (lN 1)])), (q1, .inl (c1, 0 * 0, .inl (fun _ => 0))), (q2, .inl (c2, 0, .inl (fun _ => 0))), (q3, .inl (c3, 0 * (0 + 0), .inl (fun _ => 0))), (q4, .inl (c4, 0, .inl (fun _ => 0)))]) := hD
      have ec2 := K_eq hK 0 1 rfl rfl
      have ec3 := K_eq hK 0 2 rfl rfl
      have ec4 := K_eq hK 0 3 rfl rfl
      subst ec2 ec3 ec4
      refine W.widen (k := 4) (n := 320) (by omega) (by omega) ?_
      exact hret (q1, q2, q3, q4, c1, 0, 0, 0) 143 ls _ _ dX0_init_143 hP hD (hK.sub [0] rfl) hS (inval_t nok2)
  · refine nv_if_eq (tgt := 29) hx hb dX0_init_8 (by decide) (by decide) (fun _ => ?_) (fun q => absurd q (by decide))
    refine lv_iconst (v := nI 0) hx hb dX0_init_29 (by decide +kernel) ?_
    refine lv_istore (lv' := [(4, .int (nI 0)), (0, .ref h), (1, .int p9), (2, .int m9), (3, .int n9)]) hx hb dX0_init_30 hl (by decide) rfl (fun ls hl => ?_)
    refine lv_aload_n hx hb dX0_init_32 rfl (lv_at hl 1 rfl) ?_
    refine lv_iload_n hx hb dX0_init_33 rfl (lv_at hl 2 rfl) ?_
    refine x0_putF S hin hini hK hP hD hS rfl 0 (by decide) rfl (by decide +kernel) rfl (ty := .int) (v := .int p9) rfl rfl rfl (Nat.le_of_ble_eq_true rfl) dX0_init_34 (fun H locs hP hD hS => ?_)
    have hP : va_P D vwCl ([(h, .inr (0, [.int p9, .int 0, .int 0, .null, .null, .null, .int 0, .null, .int 0, .int 0, .long 0]))]) H := hP
    have hD : va_D A ([(h, .inr (0, [.int p9, .int 0, .int 0, .null, .null, .null, .int 0, .null, .int 0, .int 0, .long 0]))]) := hD
    refine lv_aload_n hx hb dX0_init_37 rfl (lv_at hl 1 rfl) ?_
    refine lv_iload hx hb dX0_init_38 (lv_at hl 0 rfl) ?_
    refine nv_if_eq (tgt := 47) hx hb dX0_init_40 (by decide) (by decide) (fun _ => ?_) (fun q => absurd q (by decide))
    refine lv_iconst (v := nI 0) hx hb dX0_init_47 (by decide +kernel) ?_
    refine x0_putF S hin hini hK hP hD hS rfl 1 (by decide) rfl (by decide +kernel) rfl (ty := .int) (v := .int (nI 0)) rfl rfl rfl (Nat.le_of_ble_eq_true rfl) dX0_init_48 (fun H locs hP hD hS => ?_)
    have hP : va_P D vwCl ([(h, .inr (0, [.int p9, .int (nI 0), .int 0, .null, .null, .null, .int 0, .null, .int 0, .int 0, .long 0]))]) H := hP
    have hD : va_D A ([(h, .inr (0, [.int p9, .int (nI 0), .int 0, .null, .null, .null, .int 0, .null, .int 0, .int 0, .long 0]))]) := hD
    refine lv_aload_n hx hb dX0_init_51 rfl (lv_at hl 1 rfl) ?_
    refine lv_iload hx hb dX0_init_52 (lv_at hl 0 rfl) ?_
    refine nv_if_eq (tgt := 61) hx hb dX0_init_54 (by decide) (by decide) (fun _ => ?_) (fun q => absurd q (by decide))
    refine lv_iconst (v := nI 0) hx hb dX0_init_61 (by decide +kernel) ?_
    refine x0_putF S hin hini hK hP hD hS rfl 2 (by decide) rfl (by decide +kernel) rfl (ty := .int) (v := .int (nI 0)) rfl rfl rfl (Nat.le_of_ble_eq_true rfl) dX0_init_62 (fun H locs hP hD hS => ?_)
    have hP : va_P D vwCl ([(h, .inr (0, [.int p9, .int (nI 0), .int (nI 0), .null, .null, .null, .int 0, .null, .int 0, .int 0, .long 0]))]) H := hP
    have hD : va_D A ([(h, .inr (0, [.int p9, .int (nI 0), .int (nI 0), .null, .null, .null, .int 0, .null, .int 0, .int 0, .long 0]))]) := hD
    refine lv_aload_n hx hb dX0_init_65 rfl (lv_at hl 1 rfl) ?_
    refine lv_aload_n hx hb dX0_init_66 rfl (lv_at hl 1 rfl) ?_
    refine x0_get S hin hK hP rfl 2 (by decide) rfl (by decide +kernel) (v := .int (nI 0)) rfl dX0_init_67 ?_
    refine lv_aload_n hx hb dX0_init_70 rfl (lv_at hl 1 rfl) ?_
    refine x0_get S hin hK hP rfl 1 (by decide) rfl (by decide +kernel) (v := .int (nI 0)) rfl dX0_init_71 ?_
    refine nv_iadd hx hb dX0_init_74 ?_
    refine x0_putF S hin hini hK hP hD hS rfl 6 (by decide) rfl (by decide +kernel) rfl (ty := .int) (v := .int (nI (0 + 0))) rfl rfl rfl (Nat.le_of_ble_eq_true rfl) dX0_init_75 (fun H locs hP hD hS => ?_)
    have hP : va_P D vwCl ([(h, .inr (0, [.int p9, .int (nI 0), .int (nI 0), .null, .null, .null, .int (nI (0 + 0)), .null, .int 0, .int 0, .long 0]))]) H := hP
    have hD : va_D A ([(h, .inr (0, [.int p9, .int (nI 0), .int (nI 0), .null, .null, .null, .int (nI (0 + 0)), .null, .int 0, .int 0, .long 0]))]) := hD
    refine lv_aload_n hx hb dX0_init_78 rfl (lv_at hl 1 rfl) ?_
    refine lv_aload_n hx hb dX0_init_79 rfl (lv_at hl 1 rfl) ?_
    refine x0_get S hin hK hP rfl 1 (by decide) rfl (by decide +kernel) (v := .int (nI 0)) rfl dX0_init_80 ?_
    refine lv_aload_n hx hb dX0_init_83 rfl (lv_at hl 1 rfl) ?_
    refine x0_get S hin hK hP rfl 2 (by decide) rfl (by decide +kernel) (v := .int (nI 0)) rfl dX0_init_84 ?_
    refine nv_imul hx hb dX0_init_87 ?_
    refine va_newa hx hb (atype := .int) (hts (.arrayClass .int) (by decide +kernel)) rfl hK hP hD hS hA (N' := (0 * 0)) (a0 := (0 * 0, .inl (fun _ => 0))) (fun _ => rfl) (nI_pos (by omega)) (nI_clamp (by omega)) (by show _ * 4 ≤ _; omega) (Nat.le_of_ble_eq_true rfl) (by show _ ≤ 320; omega) dX0_init_88 (fun q1 c1 H hK hP hD hS => ?_)
    have hK : va_K D vwCl [(c1, .int)] s := hK
    have hP : va_P D vwCl ([(h, .inr (0, [.int p9, .int (nI 0), .int (nI 0), .null, .null, .null, .int (nI (0 + 0)), .null, .int 0, .int 0, .long 0])), (q1, .inl (c1, 0 * 0, .inl (fun _ => 0)))]) H := hP
    have hD : va_D A ([(h, .inr (0, [.int p9, .int (nI 0), .int (nI 0), .null, .null, .null, .int (nI (0 + 0)), .null, .int 0, .int 0, .long 0])), (q1, .inl (c1, 0 * 0, .inl (fun _ => 0)))]) := hD
    refine x0_putF S hin hini hK hP hD hS rfl 3 (by decide) rfl (by decide +kernel) rfl (ty := .array .int) (v := .ref q1) rfl rfl rfl (Nat.le_of_ble_eq_true rfl) dX0_init_90 (fun H locs hP hD hS => ?_)
    have hP : va_P D vwCl ([(h, .inr (0, [.int p9, .int (nI 0), .int (nI 0), .ref q1, .null, .null, .int (nI (0 + 0)), .null, .int 0, .int 0, .long 0])), (q1, .inl (c1, 0 * 0, .inl (fun _ => 0)))]) H := hP
    have hD : va_D A ([(h, .inr (0, [.int p9, .int (nI 0), .int (nI 0), .ref q1, .null, .null, .int (nI (0 + 0)), .null, .int 0, .int 0, .long 0])), (q1, .inl (c1, 0 * 0, .inl (fun _ => 0)))]) := hD
    refine lv_aload_n hx hb dX0_init_93 rfl (lv_at hl 1 rfl) ?_
    refine lv_aload_n hx hb dX0_init_94 rfl (lv_at hl 1 rfl) ?_
    refine x0_get S hin hK hP rfl 1 (by decide) rfl (by decide +kernel) (v := .int (nI 0)) rfl dX0_init_95 ?_
    refine va_newa hx hb (atype := .int) (hts (.arrayClass .int) (by decide +kernel)) rfl hK hP hD hS hA (N' := 0) (a0 := (0, .inl (fun _ => 0))) (fun _ => rfl) (nI_pos (by omega)) (nI_clamp (by omega)) (by show _ * 4 ≤ _; omega) (Nat.le_of_ble_eq_true rfl) (by show _ ≤ 320; omega) dX0_init_98 (fun q2 c2 H hK hP hD hS => ?_)
    have hK : va_K D vwCl [(c1, .int), (c2, .int)] s := hK
    have hP : va_P D vwCl ([(h, .inr (0, [.int p9, .int (nI 0), .int (nI 0), .ref q1, .null, .null, .int (nI (0 + 0)), .null, .int 0, .int 0, .long 0])), (q1, .inl (c1, 0 * 0, .inl (fun _ => 0))), (q2, .inl (c2, 0, .inl (fun _ => 0)))]) H := hP
    have hD : va_D A ([(h, .inr (0, [.int p9, .int (nI 0), .int (nI 0), .ref q1, .null, .null, .int (nI (0 + 0)), .null, .int 0, .int 0, .long 0])), (q1, .inl (c1, 0 * 0, .inl (fun _ => 0))), (q2, .inl (c2, 0, .inl (fun _ => 0)))]) := hD
    refine x0_putF S hin hini hK hP hD hS rfl 4 (by decide) rfl (by decide +kernel) rfl (ty := .array .int) (v := .ref q2) rfl rfl rfl (Nat.le_of_ble_eq_true rfl) dX0_init_100 (fun H locs hP hD hS => ?_)
    have hP : va_P D vwCl ([(h, .inr (0, [.int p9, .int (nI 0), .int (nI 0), .ref q1, .ref q2, .null, .int (nI (0 + 0)), .null, .int 0, .int 0, .long 0])), (q1, .inl (c1, 0 * 0, .inl (fun _ => 0))), (q2, .inl (c2, 0, .inl (fun _ => 0)))]) H := hP
    have hD : va_D A ([(h, .inr (0, [.int p9, .int (nI 0), .int (nI 0), .ref q1, .ref q2, .null, .int (nI (0 + 0)), .null, .int 0, .int 0, .long 0])), (q1, .inl (c1, 0 * 0, .inl (fun _ => 0))), (q2, .inl (c2, 0, .inl (fun _ => 0)))]) := hD
    refine lv_aload_n hx hb dX0_init_103 rfl (lv_at hl 1 rfl) ?_
    refine lv_aload_n hx hb dX0_init_104 rfl (lv_at hl 1 rfl) ?_
    refine x0_get S hin hK hP rfl 1 (by decide) rfl (by decide +kernel) (v := .int (nI 0)) rfl dX0_init_105 ?_
    refine lv_aload_n hx hb dX0_init_108 rfl (lv_at hl 1 rfl) ?_
    refine x0_get S hin hK hP rfl 6 (by decide) rfl (by decide +kernel) (v := .int (nI (0 + 0))) rfl dX0_init_109 ?_
    refine nv_imul hx hb dX0_init_112 ?_
    refine va_newa hx hb (atype := .int) (hts (.arrayClass .int) (by decide +kernel)) rfl hK hP hD hS hA (N' := (0 * (0 + 0))) (a0 := (0 * (0 + 0), .inl (fun _ => 0))) (fun _ => rfl) (nI_pos (by omega)) (nI_clamp (by omega)) (by show _ * 4 ≤ _; omega) (Nat.le_of_ble_eq_true rfl) (by show _ ≤ 320; omega) dX0_init_113 (fun q3 c3 H hK hP hD hS => ?_)
    have hK : va_K D vwCl [(c1, .int), (c2, .int), (c3, .int)] s := hK
    have hP : va_P D vwCl ([(h, .inr (0, [.int p9, .int (nI 0), .int (nI 0), .ref q1, .ref q2, .null, .int (nI (0 + 0)), .null, .int 0, .int 0, .long 0])), (q1, .inl (c1, 0 * 0, .inl (fun _ => 0))), (q2, .inl (c2, 0, .inl (fun _ => 0))), (q3, .inl (c3, 0 * (0 + 0), .inl (fun _ => 0)))]) H := hP
    have hD : va_D A ([(h, .inr (0, [.int p9, .int (nI 0), .int (nI 0), .ref q1, .ref q2, .null, .int (nI (0 + 0)), .null, .int 0, .int 0, .long 0])), (q1, .inl (c1, 0 * 0, .inl (fun _ => 0))), (q2, .inl (c2, 0, .inl (fun _ => 0))), (q3, .inl (c3, 0 * (0 + 0), .inl (fun _ => 0)))]) := hD
    refine x0_putF S hin hini hK hP hD hS rfl 5 (by decide) rfl (by decide +kernel) rfl (ty := .array .int) (v := .ref q3) rfl rfl rfl (Nat.le_of_ble_eq_true rfl) dX0_init_115 (fun H locs hP hD hS => ?_)
    have hP : va_P D vwCl ([(h, .inr (0, [.int p9, .int (nI 0), .int (nI 0), .ref q1, .ref q2, .ref q3, .int (nI (0 + 0)), .null, .int 0, .int 0, .long 0])), (q1, .inl (c1, 0 * 0, .inl (fun _ => 0))), (q2, .inl (c2, 0, .inl (fun _ => 0))), (q3, .inl (c3, 0 * (0 + 0), .inl (fun _ => 0)))]) H := hP
    have hD : va_D A ([(h, .inr (0, [.int p9, .int (nI 0), .int (nI 0), .ref q1, .ref q2, .ref q3, .int (nI (0 + 0)), .null, .int 0, .int 0, .long 0])), (q1, .inl (c1, 0 * 0, .inl (fun _ => 0))), (q2, .inl (c2, 0, .inl (fun _ => 0))), (q3, .inl (c3, 0 * (0 + 0), .inl (fun _ => 0)))]) := hD
    refine lv_aload_n hx hb dX0_init_118 rfl (lv_at hl 1 rfl) ?_
    refine lv_aload_n hx hb dX0_init_119 rfl (lv_at hl 1 rfl) ?_
    refine x0_get S hin hK hP rfl 2 (by decide) rfl (by decide +kernel) (v := .int (nI 0)) rfl dX0_init_120 ?_
    refine va_newa hx hb (atype := .int) (hts (.arrayClass .int) (by decide +kernel)) rfl hK hP hD hS hA (N' := 0) (a0 := (0, .inl (fun _ => 0))) (fun _ => rfl) (nI_pos (by omega)) (nI_clamp (by omega)) (by show _ * 4 ≤ _; omega) (Nat.le_of_ble_eq_true rfl) (by show _ ≤ 320; omega) dX0_init_123 (fun q4 c4 H hK hP hD hS => ?_)
    have hK : va_K D vwCl [(c1, .int), (c2, .int), (c3, .int), (c4, .int)] s := hK
    have hP : va_P D vwCl ([(h, .inr (0, [.int p9, .int (nI 0), .int (nI 0), .ref q1, .ref q2, .ref q3, .int (nI (0 + 0)), .null, .int 0, .int 0, .long 0])), (q1, .inl (c1, 0 * 0, .inl (fun _ => 0))), (q2, .inl (c2, 0, .inl (fun _ => 0))), (q3, .inl (c3, 0 * (0 + 0), .inl (fun _ => 0))), (q4, .inl (c4, 0, .inl (fun _ => 0)))]) H := hP
    have hD : va_D A ([(h, .inr (0, [.int p9, .int (nI 0), .int (nI 0), .ref q1, .ref q2, .ref q3, .int (nI (0 + 0)), .null, .int 0, .int 0, .long 0])), (q1, .inl (c1, 0 * 0, .inl (fun _ => 0))), (q2, .inl (c2, 0, .inl (fun _ => 0))), (q3, .inl (c3, 0 * (0 + 0), .inl (fun _ => 0))), (q4, .inl (c4, 0, .inl (fun _ => 0)))]) := hD
    refine x0_putF S hin hini hK hP hD hS rfl 7 (by decide) rfl (by decide +kernel) rfl (ty := .array .int) (v := .ref q4) rfl rfl rfl (Nat.le_of_ble_eq_true rfl) dX0_init_125 (fun H locs hP hD hS => ?_)
    have hP : va_P D vwCl ([(h, .inr (0, [.int p9, .int (nI 0), .int (nI 0), .ref q1, .ref q2, .ref q3, .int (nI (0 + 0)), .ref q4, .int 0, .int 0, .long 0])), (q1, .inl (c1, 0 * 0, .inl (fun _ => 0))), (q2, .inl (c2, 0, .inl (fun _ => 0))), (q3, .inl (c3, 0 * (0 + 0), .inl (fun _ => 0))), (q4, .inl (c4, 0, .inl (fun _ => 0)))]) H := hP
    have hD : va_D A ([(h, .inr (0, [.int p9, .int (nI 0), .int (nI 0), .ref q1, .ref q2, .ref q3, .int (nI (0 + 0)), .ref q4, .int 0, .int 0, .long 0])), (q1, .inl (c1, 0 * 0, .inl (fun _ => 0))), (q2, .inl (c2, 0, .inl (fun _ => 0))), (q3, .inl (c3, 0 * (0 + 0), .inl (fun _ => 0))), (q4, .inl (c4, 0, .inl (fun _ => 0)))]) := hD
    refine lv_aload_n hx hb dX0_init_128 rfl (lv_at hl 1 rfl) ?_
    refine lv_iconst (v := nI 0) hx hb dX0_init_129 (by decide +kernel) ?_
    refine x0_put S hin hK hP hD hS rfl 8 (by decide) rfl (by decide +kernel) rfl (ty := .boolean) (v := .int (nI 0)) rfl (by decide +kernel) rfl (Nat.le_of_ble_eq_true rfl) dX0_init_130 (fun H locs hP hD hS => ?_)
    have hP : va_P D vwCl ([(h, .inr (0, [.int p9, .int (nI 0), .int (nI 0), .ref q1, .ref q2, .ref q3, .int (nI (0 + 0)), .ref q4, .int (nI 0), .int 0, .long 0])), (q1, .inl (c1, 0 * 0, .inl (fun _ => 0))), (q2, .inl (c2, 0, .inl (fun _ => 0))), (q3, .inl (c3, 0 * (0 + 0), .inl (fun _ => 0))), (q4, .inl (c4, 0, .inl (fun _ => 0)))]) H := hP
    have hD : va_D A ([(h, .inr (0, [.int p9, .int (nI 0), .int (nI 0), .ref q1, .ref q2, .ref q3, .int (nI (0 + 0)), .ref q4, .int (nI 0), .int 0, .long 0])), (q1, .inl (c1, 0 * 0, .inl (fun _ => 0))), (q2, .inl (c2, 0, .inl (fun _ => 0))), (q3, .inl (c3, 0 * (0 + 0), .inl (fun _ => 0))), (q4, .inl (c4, 0, .inl (fun _ => 0)))]) := hD
    refine lv_aload_n hx hb dX0_init_133 rfl (lv_at hl 1 rfl) ?_
    refine lv_iconst (v := nI 0) hx hb dX0_init_134 (by decide +kernel) ?_
    refine x0_put S hin hK hP hD hS rfl 9 (by decide) rfl (by decide +kernel) rfl (ty := .int) (v := .int (nI 0)) rfl rfl rfl (Nat.le_of_ble_eq_true rfl) dX0_init_135 (fun H locs hP hD hS => ?_)
    have hP : va_P D vwCl ([(h, .inr (0, [.int p9, .int (nI 0), .int (nI 0), .ref q1, .ref q2, .ref q3, .int (nI (0 + 0)), .ref q4, .int (nI 0), .int (nI 0), .long 0])), (q1, .inl (c1, 0 * 0, .inl (fun _ => 0))), (q2, .inl (c2, 0, .inl (fun _ => 0))), (q3, .inl (c3, 0 * (0 + 0), .inl (fun _ => 0))), (q4, .inl (c4, 0, .inl (fun _ => 0)))]) H := hP
    have hD : va_D A ([(h, .inr (0, [.int p9, .int (nI 0), .int (nI 0), .ref q1, .ref q2, .ref q3, .int (nI (0 + 0)), .ref q4, .int (nI 0), .int (nI 0), .long 0])), (q1, .inl (c1, 0 * 0, .inl (fun _ => 0))), (q2, .inl (c2, 0, .inl (fun _ => 0))), (q3, .inl (c3, 0 * (0 + 0), .inl (fun _ => 0))), (q4, .inl (c4, 0, .inl (fun _ => 0)))]) := hD
    refine lv_aload_n hx hb dX0_init_138 rfl (lv_at hl 1 rfl) ?_
    refine lv_lconst (v := lN 1) hx hb dX0_init_139 rfl ?_
    refine x0_put S hin hK hP hD hS rfl 10 (by decide) rfl (by decide +kernel) rfl (ty := .long) (v := .long (lN 1)) rfl rfl rfl (Nat.le_of_ble_eq_true rfl) dX0_init_140 (fun H locs hP hD hS => ?_)
    have hP : va_P D vwCl ([(h, .inr (0, [.int p9, .int (nI 0), .int (nI 0), .ref q1, .ref q2, .ref q3, .int (nI (0 + 0)), .ref q4, .int (nI 0), .int (nI 0), .long (lN 1)])), (q1, .inl (c1, 0 * 0, .inl (fun _ => 0))), (q2, .inl (c2, 0, .inl (fun _ => 0))), (q3, .inl (c3, 0 * (0 + 0), .inl (fun _ => 0))), (q4, .inl (c4, 0, .inl (fun _ => 0)))]) H := hP
    have hD : va_D A ([(h, .inr (0, [.int p9, .int (nI 0), .int (nI 0), .ref q1, .ref q2, .ref q3, .int (nI (0 + 0)), .ref q4, .int (nI 0), .int (nI 0), .long (lN 1)])), (q1, .inl (c1, 0 * 0, .inl (fun _ => 0))), (q2, .inl (c2, 0, .inl (fun _ => 0))), (q3, .inl (c3, 0 * (0 + 0), .inl (fun _ => 0))), (q4, .inl (c4, 0, .inl (fun _ => 0)))]) := hD
    have ec2 := K_eq hK 0 1 rfl rfl
    have ec3 := K_eq hK 0 2 rfl rfl
    have ec4 := K_eq hK 0 3 rfl rfl
    subst ec2 ec3 ec4
    refine W.widen (k := 4) (n := 320) (by omega) (by omega) ?_
    exact hret (q1, q2, q3, q4, c1, 0, 0, 0) 143 ls _ _ dX0_init_143 hP hD (hK.sub [0] rfl) hS (inval_s nok1)
set_option maxHeartbeats 4000000 in
set_option maxRecDepth 100000 in
theorem c_X1_init (l : Launch) (D : va_G) {h : Nat} (p9 m9 n9 : Int32)  : MkV (U := Nat × Nat × Nat × Nat × Nat × ClassId × ClassId × Nat × Nat × Nat × Nat) l yX1_init wsX1_init ({ frames := 1, cells := 5, slots := 1344, locals := 23 }) [.ref h, .int p9, .int m9, .int n9] D [(h, .inr (1, [.int 0, .long 0, .int 0, .int 0, .int 0, .null, .null, .int 0, .int 0, .null, .null, .null]))] 5 1344 (fun u => Dims p9 m9 n9 u.2.2.2.2.2.2.2.1 u.2.2.2.2.2.2.2.2.1 u.2.2.2.2.2.2.2.2.2.1 ∧ u.2.2.2.2.2.2.2.2.2.2 = if u.2.2.2.2.2.2.2.2.1 = 0 then 0 else 1) (fun u => mdW h u.1 u.2.1 u.2.2.1 u.2.2.2.1 u.2.2.2.2.1 u.2.2.2.2.2.1 u.2.2.2.2.2.2.1 p9.toInt64 m9 n9 u.2.2.2.2.2.2.2.2.2.2 (fun _ => 0) (fun _ => 0) 0 0 (fun _ => 0) (fun _ => 0) (fun _ => 0)) (fun u => [(u.2.2.2.2.2.1, .long), (u.2.2.2.2.2.2.1, .int)]) := by
  refine MkV.mk (cc := cX1_init) (maxL := 4) (by decide) rfl rfl (Nat.le_of_ble_eq_true rfl) ?_
  intro p e s mm args below meth c Q ls A S hini hK hP hD hA hS hl hret
  have hx := S.1
  have hb := S.2.1
  have hml := S.2.2.1
  have hts := S.2.2.2.2
  have hown := S.2.2.2.1
  have hin : ∀ w ∈ wsX10, w ∈ wsX1_init := fun w h => List.mem_cons_of_mem _ (List.mem_append_right _ h)
  have hl : lv_has ls 4 [(0, .ref h), (1, .int p9), (2, .int m9), (3, .int n9)] := hl
  refine lv_aload_n hx hb dX1_init_0 rfl (lv_at hl 0 rfl) ?_
  refine W.objInit hx hb hown (hts (.methodLink RX1 1 objectInit) (by decide +kernel)) (hts (.instanceMethod objectInit) (by decide +kernel)) (hts (.code objectInit ⟨#[0xb1]⟩ 1 none) (by decide +kernel)) rfl (by rw [hml]; exact hl.1) rfl dX1_init_1 (Nat.le_of_ble_eq_true rfl) (Nat.le_of_ble_eq_true rfl) ?_
  refine W.eq (g2 := F0 mm 4 ls []) rfl ?_
  refine lv_aload_n hx hb dX1_init_4 rfl (lv_at hl 0 rfl) ?_
  refine lv_bipush (v := nI 100) hx hb dX1_init_5 (by decide +kernel) ?_
  refine va_newa hx hb (atype := .long) (hts (.arrayClass .long) (by decide +kernel)) rfl hK hP hD hS hA (N' := 100) (a0 := (100, .inr (.inl (fun _ => 0)))) (fun _ => rfl) (nI_pos (by omega)) (nI_clamp (by omega)) (by show _ * 8 ≤ _; omega) (Nat.le_of_ble_eq_true rfl) (by show _ ≤ 1344; omega) dX1_init_7 (fun q1 c1 H hK hP hD hS => ?_)
  have hK : va_K D vwCl [(c1, .long)] s := hK
  have hP : va_P D vwCl ([(h, .inr (1, [.int 0, .long 0, .int 0, .int 0, .int 0, .null, .null, .int 0, .int 0, .null, .null, .null])), (q1, .inl (c1, 100, .inr (.inl (fun _ => 0))))]) H := hP
  have hD : va_D A ([(h, .inr (1, [.int 0, .long 0, .int 0, .int 0, .int 0, .null, .null, .int 0, .int 0, .null, .null, .null])), (q1, .inl (c1, 100, .inr (.inl (fun _ => 0))))]) := hD
  refine x1_putF S hin hini hK hP hD hS rfl 5 (by decide) rfl (by decide +kernel) rfl (ty := .array .long) (v := .ref q1) rfl rfl rfl (Nat.le_of_ble_eq_true rfl) dX1_init_9 (fun H locs hP hD hS => ?_)
  have hP : va_P D vwCl ([(h, .inr (1, [.int 0, .long 0, .int 0, .int 0, .int 0, .ref q1, .null, .int 0, .int 0, .null, .null, .null])), (q1, .inl (c1, 100, .inr (.inl (fun _ => 0))))]) H := hP
  have hD : va_D A ([(h, .inr (1, [.int 0, .long 0, .int 0, .int 0, .int 0, .ref q1, .null, .int 0, .int 0, .null, .null, .null])), (q1, .inl (c1, 100, .inr (.inl (fun _ => 0))))]) := hD
  refine lv_aload_n hx hb dX1_init_12 rfl (lv_at hl 0 rfl) ?_
  refine lv_bipush (v := nI 10) hx hb dX1_init_13 (by decide +kernel) ?_
  refine va_newa hx hb (atype := .long) (hts (.arrayClass .long) (by decide +kernel)) rfl hK hP hD hS hA (N' := 10) (a0 := (10, .inr (.inl (fun _ => 0)))) (fun _ => rfl) (nI_pos (by omega)) (nI_clamp (by omega)) (by show _ * 8 ≤ _; omega) (Nat.le_of_ble_eq_true rfl) (by show _ ≤ 1344; omega) dX1_init_15 (fun q2 c2 H hK hP hD hS => ?_)
  have hK : va_K D vwCl [(c1, .long), (c2, .long)] s := hK
  have hP : va_P D vwCl ([(h, .inr (1, [.int 0, .long 0, .int 0, .int 0, .int 0, .ref q1, .null, .int 0, .int 0, .null, .null, .null])), (q1, .inl (c1, 100, .inr (.inl (fun _ => 0)))), (q2, .inl (c2, 10, .inr (.inl (fun _ => 0))))]) H := hP
  have hD : va_D A ([(h, .inr (1, [.int 0, .long 0, .int 0, .int 0, .int 0, .ref q1, .null, .int 0, .int 0, .null, .null, .null])), (q1, .inl (c1, 100, .inr (.inl (fun _ => 0)))), (q2, .inl (c2, 10, .inr (.inl (fun _ => 0))))]) := hD
  refine x1_putF S hin hini hK hP hD hS rfl 6 (by decide) rfl (by decide +kernel) rfl (ty := .array .long) (v := .ref q2) rfl rfl rfl (Nat.le_of_ble_eq_true rfl) dX1_init_17 (fun H locs hP hD hS => ?_)
  have hP : va_P D vwCl ([(h, .inr (1, [.int 0, .long 0, .int 0, .int 0, .int 0, .ref q1, .ref q2, .int 0, .int 0, .null, .null, .null])), (q1, .inl (c1, 100, .inr (.inl (fun _ => 0)))), (q2, .inl (c2, 10, .inr (.inl (fun _ => 0))))]) H := hP
  have hD : va_D A ([(h, .inr (1, [.int 0, .long 0, .int 0, .int 0, .int 0, .ref q1, .ref q2, .int 0, .int 0, .null, .null, .null])), (q1, .inl (c1, 100, .inr (.inl (fun _ => 0)))), (q2, .inl (c2, 10, .inr (.inl (fun _ => 0))))]) := hD
  refine lv_aload_n hx hb dX1_init_20 rfl (lv_at hl 0 rfl) ?_
  refine lv_sipush (v := nI 200) hx hb dX1_init_21 (by decide +kernel) ?_
  refine va_newa hx hb (atype := .long) (hts (.arrayClass .long) (by decide +kernel)) rfl hK hP hD hS hA (N' := 200) (a0 := (200, .inr (.inl (fun _ => 0)))) (fun _ => rfl) (nI_pos (by omega)) (nI_clamp (by omega)) (by show _ * 8 ≤ _; omega) (Nat.le_of_ble_eq_true rfl) (by show _ ≤ 1344; omega) dX1_init_24 (fun q3 c3 H hK hP hD hS => ?_)
  have hK : va_K D vwCl [(c1, .long), (c2, .long), (c3, .long)] s := hK
  have hP : va_P D vwCl ([(h, .inr (1, [.int 0, .long 0, .int 0, .int 0, .int 0, .ref q1, .ref q2, .int 0, .int 0, .null, .null, .null])), (q1, .inl (c1, 100, .inr (.inl (fun _ => 0)))), (q2, .inl (c2, 10, .inr (.inl (fun _ => 0)))), (q3, .inl (c3, 200, .inr (.inl (fun _ => 0))))]) H := hP
  have hD : va_D A ([(h, .inr (1, [.int 0, .long 0, .int 0, .int 0, .int 0, .ref q1, .ref q2, .int 0, .int 0, .null, .null, .null])), (q1, .inl (c1, 100, .inr (.inl (fun _ => 0)))), (q2, .inl (c2, 10, .inr (.inl (fun _ => 0)))), (q3, .inl (c3, 200, .inr (.inl (fun _ => 0))))]) := hD
  refine x1_putF S hin hini hK hP hD hS rfl 9 (by decide) rfl (by decide +kernel) rfl (ty := .array .long) (v := .ref q3) rfl rfl rfl (Nat.le_of_ble_eq_true rfl) dX1_init_26 (fun H locs hP hD hS => ?_)
  have hP : va_P D vwCl ([(h, .inr (1, [.int 0, .long 0, .int 0, .int 0, .int 0, .ref q1, .ref q2, .int 0, .int 0, .ref q3, .null, .null])), (q1, .inl (c1, 100, .inr (.inl (fun _ => 0)))), (q2, .inl (c2, 10, .inr (.inl (fun _ => 0)))), (q3, .inl (c3, 200, .inr (.inl (fun _ => 0))))]) H := hP
  have hD : va_D A ([(h, .inr (1, [.int 0, .long 0, .int 0, .int 0, .int 0, .ref q1, .ref q2, .int 0, .int 0, .ref q3, .null, .null])), (q1, .inl (c1, 100, .inr (.inl (fun _ => 0)))), (q2, .inl (c2, 10, .inr (.inl (fun _ => 0)))), (q3, .inl (c3, 200, .inr (.inl (fun _ => 0))))]) := hD
  refine lv_aload_n hx hb dX1_init_29 rfl (lv_at hl 0 rfl) ?_
  refine lv_bipush (v := nI 10) hx hb dX1_init_30 (by decide +kernel) ?_
  refine va_newa hx hb (atype := .int) (hts (.arrayClass .int) (by decide +kernel)) rfl hK hP hD hS hA (N' := 10) (a0 := (10, .inl (fun _ => 0))) (fun _ => rfl) (nI_pos (by omega)) (nI_clamp (by omega)) (by show _ * 4 ≤ _; omega) (Nat.le_of_ble_eq_true rfl) (by show _ ≤ 1344; omega) dX1_init_32 (fun q4 c4 H hK hP hD hS => ?_)
  have hK : va_K D vwCl [(c1, .long), (c2, .long), (c3, .long), (c4, .int)] s := hK
  have hP : va_P D vwCl ([(h, .inr (1, [.int 0, .long 0, .int 0, .int 0, .int 0, .ref q1, .ref q2, .int 0, .int 0, .ref q3, .null, .null])), (q1, .inl (c1, 100, .inr (.inl (fun _ => 0)))), (q2, .inl (c2, 10, .inr (.inl (fun _ => 0)))), (q3, .inl (c3, 200, .inr (.inl (fun _ => 0)))), (q4, .inl (c4, 10, .inl (fun _ => 0)))]) H := hP
  have hD : va_D A ([(h, .inr (1, [.int 0, .long 0, .int 0, .int 0, .int 0, .ref q1, .ref q2, .int 0, .int 0, .ref q3, .null, .null])), (q1, .inl (c1, 100, .inr (.inl (fun _ => 0)))), (q2, .inl (c2, 10, .inr (.inl (fun _ => 0)))), (q3, .inl (c3, 200, .inr (.inl (fun _ => 0)))), (q4, .inl (c4, 10, .inl (fun _ => 0)))]) := hD
  refine x1_putF S hin hini hK hP hD hS rfl 10 (by decide) rfl (by decide +kernel) rfl (ty := .array .int) (v := .ref q4) rfl rfl rfl (Nat.le_of_ble_eq_true rfl) dX1_init_34 (fun H locs hP hD hS => ?_)
  have hP : va_P D vwCl ([(h, .inr (1, [.int 0, .long 0, .int 0, .int 0, .int 0, .ref q1, .ref q2, .int 0, .int 0, .ref q3, .ref q4, .null])), (q1, .inl (c1, 100, .inr (.inl (fun _ => 0)))), (q2, .inl (c2, 10, .inr (.inl (fun _ => 0)))), (q3, .inl (c3, 200, .inr (.inl (fun _ => 0)))), (q4, .inl (c4, 10, .inl (fun _ => 0)))]) H := hP
  have hD : va_D A ([(h, .inr (1, [.int 0, .long 0, .int 0, .int 0, .int 0, .ref q1, .ref q2, .int 0, .int 0, .ref q3, .ref q4, .null])), (q1, .inl (c1, 100, .inr (.inl (fun _ => 0)))), (q2, .inl (c2, 10, .inr (.inl (fun _ => 0)))), (q3, .inl (c3, 200, .inr (.inl (fun _ => 0)))), (q4, .inl (c4, 10, .inl (fun _ => 0)))]) := hD
  refine lv_aload_n hx hb dX1_init_37 rfl (lv_at hl 0 rfl) ?_
  refine lv_sipush (v := nI 1024) hx hb dX1_init_38 (by decide +kernel) ?_
  refine va_newa hx hb (atype := .long) (hts (.arrayClass .long) (by decide +kernel)) rfl hK hP hD hS hA (N' := 1024) (a0 := (1024, .inr (.inl (fun _ => 0)))) (fun _ => rfl) (nI_pos (by omega)) (nI_clamp (by omega)) (by show _ * 8 ≤ _; omega) (Nat.le_of_ble_eq_true rfl) (by show _ ≤ 1344; omega) dX1_init_41 (fun q5 c5 H hK hP hD hS => ?_)
  have hK : va_K D vwCl [(c1, .long), (c2, .long), (c3, .long), (c4, .int), (c5, .long)] s := hK
  have hP : va_P D vwCl ([(h, .inr (1, [.int 0, .long 0, .int 0, .int 0, .int 0, .ref q1, .ref q2, .int 0, .int 0, .ref q3, .ref q4, .null])), (q1, .inl (c1, 100, .inr (.inl (fun _ => 0)))), (q2, .inl (c2, 10, .inr (.inl (fun _ => 0)))), (q3, .inl (c3, 200, .inr (.inl (fun _ => 0)))), (q4, .inl (c4, 10, .inl (fun _ => 0))), (q5, .inl (c5, 1024, .inr (.inl (fun _ => 0))))]) H := hP
  have hD : va_D A ([(h, .inr (1, [.int 0, .long 0, .int 0, .int 0, .int 0, .ref q1, .ref q2, .int 0, .int 0, .ref q3, .ref q4, .null])), (q1, .inl (c1, 100, .inr (.inl (fun _ => 0)))), (q2, .inl (c2, 10, .inr (.inl (fun _ => 0)))), (q3, .inl (c3, 200, .inr (.inl (fun _ => 0)))), (q4, .inl (c4, 10, .inl (fun _ => 0))), (q5, .inl (c5, 1024, .inr (.inl (fun _ => 0))))]) := hD
  refine x1_putF S hin hini hK hP hD hS rfl 11 (by decide) rfl (by decide +kernel) rfl (ty := .array .long) (v := .ref q5) rfl rfl rfl (Nat.le_of_ble_eq_true rfl) dX1_init_43 (fun H locs hP hD hS => ?_)
  have hP : va_P D vwCl ([(h, .inr (1, [.int 0, .long 0, .int 0, .int 0, .int 0, .ref q1, .ref q2, .int 0, .int 0, .ref q3, .ref q4, .ref q5])), (q1, .inl (c1, 100, .inr (.inl (fun _ => 0)))), (q2, .inl (c2, 10, .inr (.inl (fun _ => 0)))), (q3, .inl (c3, 200, .inr (.inl (fun _ => 0)))), (q4, .inl (c4, 10, .inl (fun _ => 0))), (q5, .inl (c5, 1024, .inr (.inl (fun _ => 0))))]) H := hP
  have hD : va_D A ([(h, .inr (1, [.int 0, .long 0, .int 0, .int 0, .int 0, .ref q1, .ref q2, .int 0, .int 0, .ref q3, .ref q4, .ref q5])), (q1, .inl (c1, 100, .inr (.inl (fun _ => 0)))), (q2, .inl (c2, 10, .inr (.inl (fun _ => 0)))), (q3, .inl (c3, 200, .inr (.inl (fun _ => 0)))), (q4, .inl (c4, 10, .inl (fun _ => 0))), (q5, .inl (c5, 1024, .inr (.inl (fun _ => 0))))]) := hD
  refine lv_aload_n hx hb dX1_init_46 rfl (lv_at hl 0 rfl) ?_
  refine lv_iload_n hx hb dX1_init_47 rfl (lv_at hl 1 rfl) ?_
  refine lv_i2l hx hb dX1_init_48 rfl ?_
  refine x1_putF S hin hini hK hP hD hS rfl 1 (by decide) rfl (by decide +kernel) rfl (ty := .long) (v := .long p9.toInt64) rfl rfl rfl (Nat.le_of_ble_eq_true rfl) dX1_init_49 (fun H locs hP hD hS => ?_)
  have hP : va_P D vwCl ([(h, .inr (1, [.int 0, .long p9.toInt64, .int 0, .int 0, .int 0, .ref q1, .ref q2, .int 0, .int 0, .ref q3, .ref q4, .ref q5])), (q1, .inl (c1, 100, .inr (.inl (fun _ => 0)))), (q2, .inl (c2, 10, .inr (.inl (fun _ => 0)))), (q3, .inl (c3, 200, .inr (.inl (fun _ => 0)))), (q4, .inl (c4, 10, .inl (fun _ => 0))), (q5, .inl (c5, 1024, .inr (.inl (fun _ => 0))))]) H := hP
  have hD : va_D A ([(h, .inr (1, [.int 0, .long p9.toInt64, .int 0, .int 0, .int 0, .ref q1, .ref q2, .int 0, .int 0, .ref q3, .ref q4, .ref q5])), (q1, .inl (c1, 100, .inr (.inl (fun _ => 0)))), (q2, .inl (c2, 10, .inr (.inl (fun _ => 0)))), (q3, .inl (c3, 200, .inr (.inl (fun _ => 0)))), (q4, .inl (c4, 10, .inl (fun _ => 0))), (q5, .inl (c5, 1024, .inr (.inl (fun _ => 0))))]) := hD
  refine lv_aload_n hx hb dX1_init_52 rfl (lv_at hl 0 rfl) ?_
  refine lv_iload_n hx hb dX1_init_53 rfl (lv_at hl 2 rfl) ?_
  refine x1_putF S hin hini hK hP hD hS rfl 2 (by decide) rfl (by decide +kernel) rfl (ty := .int) (v := .int m9) rfl rfl rfl (Nat.le_of_ble_eq_true rfl) dX1_init_54 (fun H locs hP hD hS => ?_)
  have hP : va_P D vwCl ([(h, .inr (1, [.int 0, .long p9.toInt64, .int m9, .int 0, .int 0, .ref q1, .ref q2, .int 0, .int 0, .ref q3, .ref q4, .ref q5])), (q1, .inl (c1, 100, .inr (.inl (fun _ => 0)))), (q2, .inl (c2, 10, .inr (.inl (fun _ => 0)))), (q3, .inl (c3, 200, .inr (.inl (fun _ => 0)))), (q4, .inl (c4, 10, .inl (fun _ => 0))), (q5, .inl (c5, 1024, .inr (.inl (fun _ => 0))))]) H := hP
  have hD : va_D A ([(h, .inr (1, [.int 0, .long p9.toInt64, .int m9, .int 0, .int 0, .ref q1, .ref q2, .int 0, .int 0, .ref q3, .ref q4, .ref q5])), (q1, .inl (c1, 100, .inr (.inl (fun _ => 0)))), (q2, .inl (c2, 10, .inr (.inl (fun _ => 0)))), (q3, .inl (c3, 200, .inr (.inl (fun _ => 0)))), (q4, .inl (c4, 10, .inl (fun _ => 0))), (q5, .inl (c5, 1024, .inr (.inl (fun _ => 0))))]) := hD
  refine lv_aload_n hx hb dX1_init_57 rfl (lv_at hl 0 rfl) ?_
  refine lv_iload_n hx hb dX1_init_58 rfl (lv_at hl 3 rfl) ?_
  refine x1_putF S hin hini hK hP hD hS rfl 3 (by decide) rfl (by decide +kernel) rfl (ty := .int) (v := .int n9) rfl rfl rfl (Nat.le_of_ble_eq_true rfl) dX1_init_59 (fun H locs hP hD hS => ?_)
  have hP : va_P D vwCl ([(h, .inr (1, [.int 0, .long p9.toInt64, .int m9, .int n9, .int 0, .ref q1, .ref q2, .int 0, .int 0, .ref q3, .ref q4, .ref q5])), (q1, .inl (c1, 100, .inr (.inl (fun _ => 0)))), (q2, .inl (c2, 10, .inr (.inl (fun _ => 0)))), (q3, .inl (c3, 200, .inr (.inl (fun _ => 0)))), (q4, .inl (c4, 10, .inl (fun _ => 0))), (q5, .inl (c5, 1024, .inr (.inl (fun _ => 0))))]) H := hP
  have hD : va_D A ([(h, .inr (1, [.int 0, .long p9.toInt64, .int m9, .int n9, .int 0, .ref q1, .ref q2, .int 0, .int 0, .ref q3, .ref q4, .ref q5])), (q1, .inl (c1, 100, .inr (.inl (fun _ => 0)))), (q2, .inl (c2, 10, .inr (.inl (fun _ => 0)))), (q3, .inl (c3, 200, .inr (.inl (fun _ => 0)))), (q4, .inl (c4, 10, .inl (fun _ => 0))), (q5, .inl (c5, 1024, .inr (.inl (fun _ => 0))))]) := hD
  refine lv_aload_n hx hb dX1_init_62 rfl (lv_at hl 0 rfl) ?_
  refine lv_iload_n hx hb dX1_init_63 rfl (lv_at hl 1 rfl) ?_
  refine rds_i S (c_X1_isPrime l D p9) (va_cwS 1 hts gX1_init_X1_isPrime rfl rfl rfl (by decide +kernel) ⟨Nat.le_of_ble_eq_true rfl, Nat.le_of_ble_eq_true rfl⟩) rfl (hK.sub [] rfl) (hP.sub [] rfl) hl.1 (rest := [.ref h]) rfl (Nat.le_of_ble_eq_true rfl) dX1_init_64 ⟨Nat.le_of_ble_eq_true rfl, Nat.le_of_ble_eq_true rfl⟩ hP hS hA (fun r_1 H locs er_1 hP hS => ?_)
  rcases er_1 with ⟨v, hvl, hvp, hpe, rfl⟩ | ⟨nop, rfl⟩
  · refine nv_if_eq (tgt := 94) hx hb dX1_init_67 (by decide) (by decide) (fun q => absurd q (by decide)) (fun _ => ?_)
    refine lv_iload_n hx hb dX1_init_70 rfl (lv_at hl 2 rfl) ?_
    refine lv_if_le (tgt := 94) hx hb dX1_init_71 (by decide) (fun c_3 => ?_) (fun c_3 => ?_)
    · refine lv_iconst (v := nI 0) hx hb dX1_init_94 (by decide +kernel) ?_
      refine x1_putF S hin hini hK hP hD hS rfl 4 (by decide) rfl (by decide +kernel) rfl (ty := .boolean) (v := .int (nI 0)) rfl (by decide +kernel) rfl (Nat.le_of_ble_eq_true rfl) dX1_init_95 (fun H locs hP hD hS => ?_)
      have hP : va_P D vwCl ([(h, .inr (1, [.int 0, .long p9.toInt64, .int m9, .int n9, .int (nI 0), .ref q1, .ref q2, .int 0, .int 0, .ref q3, .ref q4, .ref q5])), (q1, .inl (c1, 100, .inr (.inl (fun _ => 0)))), (q2, .inl (c2, 10, .inr (.inl (fun _ => 0)))), (q3, .inl (c3, 200, .inr (.inl (fun _ => 0)))), (q4, .inl (c4, 10, .inl (fun _ => 0))), (q5, .inl (c5, 1024, .inr (.inl (fun _ => 0))))]) H := hP
      have hD : va_D A ([(h, .inr (1, [.int 0, .long p9.toInt64, .int m9, .int n9, .int (nI 0), .ref q1, .ref q2, .int 0, .int 0, .ref q3, .ref q4, .ref q5])), (q1, .inl (c1, 100, .inr (.inl (fun _ => 0)))), (q2, .inl (c2, 10, .inr (.inl (fun _ => 0)))), (q3, .inl (c3, 200, .inr (.inl (fun _ => 0)))), (q4, .inl (c4, 10, .inl (fun _ => 0))), (q5, .inl (c5, 1024, .inr (.inl (fun _ => 0))))]) := hD
      have ec2 := K_eqL hK 0 1 rfl rfl
      have ec3 := K_eqL hK 0 2 rfl rfl
      have ec5 := K_eqL hK 0 4 rfl rfl
      subst ec2 ec3 ec5
      refine W.widen (k := 5) (n := 1344) (by omega) (by omega) ?_
      exact hret (q1, q2, q3, q4, q5, c1, c4, 0, 0, 0, 0) 98 ls _ _ dX1_init_98 hP hD (hK.sub [0, 3] rfl) hS ⟨inval_s (no_le c_3), rfl⟩
    · refine lv_iload_n hx hb dX1_init_74 rfl (lv_at hl 2 rfl) ?_
      refine lv_bipush (v := nI 11) hx hb dX1_init_75 (by decide +kernel) ?_
      refine lv_icmp_ge (tgt := 94) hx hb dX1_init_77 (by decide) (fun c_4 => ?_) (fun c_4 => ?_)
      · refine lv_iconst (v := nI 0) hx hb dX1_init_94 (by decide +kernel) ?_
        refine x1_putF S hin hini hK hP hD hS rfl 4 (by decide) rfl (by decide +kernel) rfl (ty := .boolean) (v := .int (nI 0)) rfl (by decide +kernel) rfl (Nat.le_of_ble_eq_true rfl) dX1_init_95 (fun H locs hP hD hS => ?_)
        have hP : va_P D vwCl ([(h, .inr (1, [.int 0, .long p9.toInt64, .int m9, .int n9, .int (nI 0), .ref q1, .ref q2, .int 0, .int 0, .ref q3, .ref q4, .ref q5])), (q1, .inl (c1, 100, .inr (.inl (fun _ => 0)))), (q2, .inl (c2, 10, .inr (.inl (fun _ => 0)))), (q3, .inl (c3, 200, .inr (.inl (fun _ => 0)))), (q4, .inl (c4, 10, .inl (fun _ => 0))), (q5, .inl (c5, 1024, .inr (.inl (fun _ => 0))))]) H := hP
        have hD : va_D A ([(h, .inr (1, [.int 0, .long p9.toInt64, .int m9, .int n9, .int (nI 0), .ref q1, .ref q2, .int 0, .int 0, .ref q3, .ref q4, .ref q5])), (q1, .inl (c1, 100, .inr (.inl (fun _ => 0)))), (q2, .inl (c2, 10, .inr (.inl (fun _ => 0)))), (q3, .inl (c3, 200, .inr (.inl (fun _ => 0)))), (q4, .inl (c4, 10, .inl (fun _ => 0))), (q5, .inl (c5, 1024, .inr (.inl (fun _ => 0))))]) := hD
        have ec2 := K_eqL hK 0 1 rfl rfl
        have ec3 := K_eqL hK 0 2 rfl rfl
        have ec5 := K_eqL hK 0 4 rfl rfl
        subst ec2 ec3 ec5
        refine W.widen (k := 5) (n := 1344) (by omega) (by omega) ?_
        exact hret (q1, q2, q3, q4, q5, c1, c4, 0, 0, 0, 0) 98 ls _ _ dX1_init_98 hP hD (hK.sub [0, 3] rfl) hS ⟨inval_s (no_ge c_4), rfl⟩
      · obtain ⟨k1, hk1, hk1a, hk1b⟩ := side11 c_3 c_4
        refine lv_iload_n hx hb dX1_init_80 rfl (lv_at hl 3 rfl) ?_
        refine lv_if_le (tgt := 94) hx hb dX1_init_81 (by decide) (fun c_5 => ?_) (fun c_5 => ?_)
        · refine lv_iconst (v := nI 0) hx hb dX1_init_94 (by decide +kernel) ?_
          refine x1_putF S hin hini hK hP hD hS rfl 4 (by decide) rfl (by decide +kernel) rfl (ty := .boolean) (v := .int (nI 0)) rfl (by decide +kernel) rfl (Nat.le_of_ble_eq_true rfl) dX1_init_95 (fun H locs hP hD hS => ?_)
          have hP : va_P D vwCl ([(h, .inr (1, [.int 0, .long p9.toInt64, .int m9, .int n9, .int (nI 0), .ref q1, .ref q2, .int 0, .int 0, .ref q3, .ref q4, .ref q5])), (q1, .inl (c1, 100, .inr (.inl (fun _ => 0)))), (q2, .inl (c2, 10, .inr (.inl (fun _ => 0)))), (q3, .inl (c3, 200, .inr (.inl (fun _ => 0)))), (q4, .inl (c4, 10, .inl (fun _ => 0))), (q5, .inl (c5, 1024, .inr (.inl (fun _ => 0))))]) H := hP
          have hD : va_D A ([(h, .inr (1, [.int 0, .long p9.toInt64, .int m9, .int n9, .int (nI 0), .ref q1, .ref q2, .int 0, .int 0, .ref q3, .ref q4, .ref q5])), (q1, .inl (c1, 100, .inr (.inl (fun _ => 0)))), (q2, .inl (c2, 10, .inr (.inl (fun _ => 0)))), (q3, .inl (c3, 200, .inr (.inl (fun _ => 0)))), (q4, .inl (c4, 10, .inl (fun _ => 0))), (q5, .inl (c5, 1024, .inr (.inl (fun _ => 0))))]) := hD
          have ec2 := K_eqL hK 0 1 rfl rfl
          have ec3 := K_eqL hK 0 2 rfl rfl
          have ec5 := K_eqL hK 0 4 rfl rfl
          subst ec2 ec3 ec5
          refine W.widen (k := 5) (n := 1344) (by omega) (by omega) ?_
          exact hret (q1, q2, q3, q4, q5, c1, c4, 0, 0, 0, 0) 98 ls _ _ dX1_init_98 hP hD (hK.sub [0, 3] rfl) hS ⟨inval_t (no_le c_5), rfl⟩
        · refine lv_iload_n hx hb dX1_init_84 rfl (lv_at hl 3 rfl) ?_
          refine lv_bipush (v := nI 11) hx hb dX1_init_85 (by decide +kernel) ?_
          refine lv_icmp_ge (tgt := 94) hx hb dX1_init_87 (by decide) (fun c_6 => ?_) (fun c_6 => ?_)
          · refine lv_iconst (v := nI 0) hx hb dX1_init_94 (by decide +kernel) ?_
            refine x1_putF S hin hini hK hP hD hS rfl 4 (by decide) rfl (by decide +kernel) rfl (ty := .boolean) (v := .int (nI 0)) rfl (by decide +kernel) rfl (Nat.le_of_ble_eq_true rfl) dX1_init_95 (fun H locs hP hD hS => ?_)
            have hP : va_P D vwCl ([(h, .inr (1, [.int 0, .long p9.toInt64, .int m9, .int n9, .int (nI 0), .ref q1, .ref q2, .int 0, .int 0, .ref q3, .ref q4, .ref q5])), (q1, .inl (c1, 100, .inr (.inl (fun _ => 0)))), (q2, .inl (c2, 10, .inr (.inl (fun _ => 0)))), (q3, .inl (c3, 200, .inr (.inl (fun _ => 0)))), (q4, .inl (c4, 10, .inl (fun _ => 0))), (q5, .inl (c5, 1024, .inr (.inl (fun _ => 0))))]) H := hP
            have hD : va_D A ([(h, .inr (1, [.int 0, .long p9.toInt64, .int m9, .int n9, .int (nI 0), .ref q1, .ref q2, .int 0, .int 0, .ref q3, .ref q4, .ref q5])), (q1, .inl (c1, 100, .inr (.inl (fun _ => 0)))), (q2, .inl (c2, 10, .inr (.inl (fun _ => 0)))), (q3, .inl (c3, 200, .inr (.inl (fun _ => 0)))), (q4, .inl (c4, 10, .inl (fun _ => 0))), (q5, .inl (c5, 1024, .inr (.inl (fun _ => 0))))]) := hD
            have ec2 := K_eqL hK 0 1 rfl rfl
            have ec3 := K_eqL hK 0 2 rfl rfl
            have ec5 := K_eqL hK 0 4 rfl rfl
            subst ec2 ec3 ec5
            refine W.widen (k := 5) (n := 1344) (by omega) (by omega) ?_
            exact hret (q1, q2, q3, q4, q5, c1, c4, 0, 0, 0, 0) 98 ls _ _ dX1_init_98 hP hD (hK.sub [0, 3] rfl) hS ⟨inval_t (no_ge c_6), rfl⟩
          · obtain ⟨k2, hk2, hk2a, hk2b⟩ := side11 c_5 c_6
            refine lv_iconst (v := nI 1) hx hb dX1_init_90 (by decide +kernel) ?_
            refine lv_goto (tgt := 95) hx hb dX1_init_91 (by decide) ?_
            refine x1_putF S hin hini hK hP hD hS rfl 4 (by decide) rfl (by decide +kernel) rfl (ty := .boolean) (v := .int (nI 1)) rfl (by decide +kernel) rfl (Nat.le_of_ble_eq_true rfl) dX1_init_95 (fun H locs hP hD hS => ?_)
            have hP : va_P D vwCl ([(h, .inr (1, [.int 0, .long p9.toInt64, .int m9, .int n9, .int (nI 1), .ref q1, .ref q2, .int 0, .int 0, .ref q3, .ref q4, .ref q5])), (q1, .inl (c1, 100, .inr (.inl (fun _ => 0)))), (q2, .inl (c2, 10, .inr (.inl (fun _ => 0)))), (q3, .inl (c3, 200, .inr (.inl (fun _ => 0)))), (q4, .inl (c4, 10, .inl (fun _ => 0))), (q5, .inl (c5, 1024, .inr (.inl (fun _ => 0))))]) H := hP
            have hD : va_D A ([(h, .inr (1, [.int 0, .long p9.toInt64, .int m9, .int n9, .int (nI 1), .ref q1, .ref q2, .int 0, .int 0, .ref q3, .ref q4, .ref q5])), (q1, .inl (c1, 100, .inr (.inl (fun _ => 0)))), (q2, .inl (c2, 10, .inr (.inl (fun _ => 0)))), (q3, .inl (c3, 200, .inr (.inl (fun _ => 0)))), (q4, .inl (c4, 10, .inl (fun _ => 0))), (q5, .inl (c5, 1024, .inr (.inl (fun _ => 0))))]) := hD
            have ec2 := K_eqL hK 0 1 rfl rfl
            have ec3 := K_eqL hK 0 2 rfl rfl
            have ec5 := K_eqL hK 0 4 rfl rfl
            subst ec2 ec3 ec5
            refine W.widen (k := 5) (n := 1344) (by omega) (by omega) ?_
            exact hret (q1, q2, q3, q4, q5, c1, c4, v, k1, k2, 1) 98 ls _ _ dX1_init_98 hP hD (hK.sub [0, 3] rfl) hS ⟨Or.inl ⟨hpe, hvl, hvp, hk1, hk2, hk1a, hk1b, hk2a, hk2b⟩, (by show 1 = if k1 = 0 then 0 else 1; rw [if_neg (by omega)])⟩
  · refine nv_if_eq (tgt := 94) hx hb dX1_init_67 (by decide) (by decide) (fun _ => ?_) (fun q => absurd q (by decide))
    refine lv_iconst (v := nI 0) hx hb dX1_init_94 (by decide +kernel) ?_
    refine x1_putF S hin hini hK hP hD hS rfl 4 (by decide) rfl (by decide +kernel) rfl (ty := .boolean) (v := .int (nI 0)) rfl (by decide +kernel) rfl (Nat.le_of_ble_eq_true rfl) dX1_init_95 (fun H locs hP hD hS => ?_)
    have hP : va_P D vwCl ([(h, .inr (1, [.int 0, .long p9.toInt64, .int m9, .int n9, .int (nI 0), .ref q1, .ref q2, .int 0, .int 0, .ref q3, .ref q4, .ref q5])), (q1, .inl (c1, 100, .inr (.inl (fun _ => 0)))), (q2, .inl (c2, 10, .inr (.inl (fun _ => 0)))), (q3, .inl (c3, 200, .inr (.inl (fun _ => 0)))), (q4, .inl (c4, 10, .inl (fun _ => 0))), (q5, .inl (c5, 1024, .inr (.inl (fun _ => 0))))]) H := hP
    have hD : va_D A ([(h, .inr (1, [.int 0, .long p9.toInt64, .int m9, .int n9, .int (nI 0), .ref q1, .ref q2, .int 0, .int 0, .ref q3, .ref q4, .ref q5])), (q1, .inl (c1, 100, .inr (.inl (fun _ => 0)))), (q2, .inl (c2, 10, .inr (.inl (fun _ => 0)))), (q3, .inl (c3, 200, .inr (.inl (fun _ => 0)))), (q4, .inl (c4, 10, .inl (fun _ => 0))), (q5, .inl (c5, 1024, .inr (.inl (fun _ => 0))))]) := hD
    have ec2 := K_eqL hK 0 1 rfl rfl
    have ec3 := K_eqL hK 0 2 rfl rfl
    have ec5 := K_eqL hK 0 4 rfl rfl
    subst ec2 ec3 ec5
    refine W.widen (k := 5) (n := 1344) (by omega) (by omega) ?_
    exact hret (q1, q2, q3, q4, q5, c1, c4, 0, 0, 0, 0) 98 ls _ _ dX1_init_98 hP hD (hK.sub [0, 3] rfl) hS ⟨inval_p nop, rfl⟩
