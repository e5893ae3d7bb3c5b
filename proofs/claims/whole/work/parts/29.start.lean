theorem apart_D {A : Nat → Prop} {w v : va_W} (h : va_D A (w ++ v)) : Apart w v := by
  intro i j p q h1 h2 e
  have hi := (List.getElem?_eq_some_iff.mp h1).1
  have e1 : (w ++ v)[i]? = some p := by rw [List.getElem?_append_left hi]; exact h1
  have e2 : (w ++ v)[w.length + j]? = some q := by rw [List.getElem?_append_right (Nat.le_add_right _ _), Nat.add_sub_cancel_left]; exact h2
  have := h.1 i (w.length + j) p q e1 e2 e
  omega
theorem LF_of {p m n : Int32} {P mR nC vd : Nat} (h : Dims p m n P mR nC) (hv : vd = if mR = 0 then 0 else 1) : LF p m n P mR nC vd := by
  rcases h with ⟨h1, h2, h3, h4, h5, h6, h7, h8, h9⟩ | ⟨rfl, rfl, -, -⟩
  · rw [if_neg (by omega)] at hv
    subst hv
    have h10 := h3.1
    exact ⟨h7, h9, fun _ => ⟨h1, h10, h2⟩, fun _ => h3, by omega, fun _ => ⟨h4, h5, by rw [h1]; exact nI_l h2, h10, h2, h6, h7, h8, h9⟩, fun q => by omega, fun _ => by omega, fun _ => by omega⟩
  · rw [if_pos rfl] at hv
    subst hv
    exact ⟨by omega, by omega, fun q => by omega, fun q => by omega, by omega, fun q => absurd rfl q, fun _ => ⟨rfl, rfl⟩, fun q => by omega, fun q => absurd rfl q⟩
theorem LI_0 {P mR nC : Nat} (hP : 0 < mR → 2 ≤ P) : LI P mR nC (fun _ _ => 0) (fun _ => 0) 0 (fun _ => 0) (fun _ => 0) (fun _ => 0) (fun _ => 0) 0 1 (fun _ => 0) (fun _ => 0) 0 (fun _ => 0) (fun _ => 0) :=
  ⟨fun h _ _ => by have := hP h; show 0 < P; omega, fun h _ => by have := hP h; show 0 < P; omega, fun _ _ _ _ => nI_0.symm, fun _ _ => nI_0.symm, fun _ _ _ _ => nv_lN0.symm, fun _ _ => nv_lN0.symm, by omega, by decide, fun h => absurd rfl h⟩
theorem gt_len {L i : Nat} (hL : L ≤ 2051) (hi : i ≤ 3000) (h : ¬ nI L - nI 4 < nI i) : i + 4 ≤ L := by
  rw [Int32.lt_iff_toInt_lt, pk_sub_toInt (by omega) (by omega), nI_toInt (by omega)] at h
  omega
set_option maxHeartbeats 4000000 in
set_option maxRecDepth 100000 in
theorem law_loop {p : Program} {l : Launch} {e : Env} {s : State} {m : MethodId} {below : List Frame} {meth : Method} {c : Code} {D : va_G} {b L : Nat} {xs : Nat → Int32} {q1 a1 a2 a3 a4 : Nat} {cA : ClassId} {q2 b1 b2 b3 b4 b5 : Nat} {cJ cI : ClassId} {p9 m9 n9 : Int32} {P mR nC vd : Nat} (C : ∀ i, LC p l e s m below meth c D b L xs q1 a1 a2 a3 a4 cA q2 b1 b2 b3 b4 b5 cJ cI p9 m9 n9 P mR nC vd i) : ∀ n i, i ≤ L + 4 → L + 5 ≤ i + n → LW p l e s m below meth c D b L xs q1 a1 a2 a3 a4 cA q2 b1 b2 b3 b4 b5 cJ cI p9 m9 n9 P mR nC vd i 48 := by
  intro n
  induction n with
  | zero => intro i h1 h2; exfalso; omega
  | succ n ih =>
    intro i h1 h2
    obtain ⟨C0, hL, hF, hK⟩ := C i
    obtain ⟨hx, hb, hr, hml, hown, hts0, hX0, hbl, hlocks, hgv⟩ := id C0
    have hbA : ¬ (fun q : Nat => s.heap.size ≤ q) b := Nat.not_le.mpr hbl
    intro A0 b0 rd fA fB fW fP pv pp gA gB rk gR gP gS hLI ls H locs hl hPx hDx hPm hDm hX hS
    refine lv_iload_n hx hb dL_law_48 rfl (lv_at hl 3 rfl) ?_
    refine lv_aload_n hx hb dL_law_49 rfl (lv_at hl 0 rfl) ?_
    refine nv_slen hx hb hX0 hbl hbA hS dL_law_50 ?_
    refine lv_iconst (v := nI 4) hx hb dL_law_51 (by decide +kernel) ?_
    refine lv_isub hx hb dL_law_52 ?_
    refine lv_icmp_gt (tgt := 463) hx hb dL_law_53 (by decide) (fun _ => ?_) (fun cgt => ?_)
    · refine lv_iconst (v := 1) hx hb dL_law_463 (by decide +kernel) ?_
      refine va_forget (fun q hq => hS.2.2 q hq) ?_
      refine W.widen (k := 600000) (n := 7302250) (by decide) (by decide) ?_
      exact lw_ret hx hb hr hlocks dL_law_464
    · have hi4 : i + 4 ≤ L := gt_len hL (by omega) cgt
      have K : LW p l e s m below meth c D b L xs q1 a1 a2 a3 a4 cA q2 b1 b2 b3 b4 b5 cJ cI p9 m9 n9 P mR nC vd i 457 := by
        intro A0 b0 rd fA fB fW fP pv pp gA gB rk gR gP gS hLI ls H locs hl hPx hDx hPm hDm hX hS
        refine lv_iinc (v := nI (i + 4)) (lv' := [(3, .int (nI (i + 4))), (0, .ref b), (1, .ref q1), (2, .ref q2)]) hx hb dL_law_457 hl (k := 3) rfl (nv_inc i 4) (by decide) rfl (fun ls hl => ?_)
        refine lv_goto (tgt := 48) hx hb dL_law_460 (by decide) ?_
        exact ih (i + 4) (by omega) (by omega) A0 b0 rd fA fB fW fP pv pp gA gB rk gR gP gS hLI ls _ _ (lv_sub hl [1, 2, 3, 0] rfl) hPx hDx hPm hDm hX hS
      refine lv_aload_n hx hb dL_law_56 rfl (lv_at hl 0 rfl) ?_
      refine lv_iload_n hx hb dL_law_57 rfl (lv_at hl 3 rfl) ?_
      refine nv_sld hx hb hX0 hbl hbA hS (k := i) (by omega) (by omega) dL_law_58 ?_
      refine lv_bipush (v := nI 15) hx hb dL_law_59 (by decide +kernel) ?_
      refine lv_iand hx hb dL_law_61 ?_
      obtain ⟨j, hj, ej⟩ := pk_andE (xs i) (m := nI 15) 4 (by decide +kernel)
      rw [ej]
      have hj16 : j < 16 := hj
      have hcases : j = 0 ∨ j = 1 ∨ j = 2 ∨ j = 3 ∨ j = 4 ∨ j = 5 ∨ j = 6 ∨ j = 7 ∨ j = 8 ∨ j = 9 ∨ j = 10 ∨ j = 11 ∨ j = 12 ∨ j = 13 ∨ j = 14 ∨ j = 15 := by omega
      rcases hcases with rfl | rfl | rfl | rfl | rfl | rfl | rfl | rfl | rfl | rfl | rfl | rfl | rfl | rfl | rfl | rfl
      · refine lv_tableIn (x := nI 0) (off := 66) (tgt := 128) hx hb dL_law_62 (by decide +kernel) (by decide +kernel) (by decide +kernel) (by decide) ?_
        exact law_set (C i) hi4 K A0 b0 rd fA fB fW fP pv pp gA gB rk gR gP gS hLI ls _ _ hl hPx hDx hPm hDm hX hS
      · refine lv_tableIn (x := nI 1) (off := 109) (tgt := 171) hx hb dL_law_62 (by decide +kernel) (by decide +kernel) (by decide +kernel) (by decide) ?_
        exact law_get (C i) hi4 K A0 b0 rd fA fB fW fP pv pp gA gB rk gR gP gS hLI ls _ _ hl hPx hDx hPm hDm hX hS
      · refine lv_tableIn (x := nI 2) (off := 142) (tgt := 204) hx hb dL_law_62 (by decide +kernel) (by decide +kernel) (by decide +kernel) (by decide) ?_
        exact law_setRhs (C i) hi4 K A0 b0 rd fA fB fW fP pv pp gA gB rk gR gP gS hLI ls _ _ hl hPx hDx hPm hDm hX hS
      · refine lv_tableIn (x := nI 3) (off := 175) (tgt := 237) hx hb dL_law_62 (by decide +kernel) (by decide +kernel) (by decide +kernel) (by decide) ?_
        exact law_reduce (C i) hi4 K A0 b0 rd fA fB fW fP pv pp gA gB rk gR gP gS hLI ls _ _ hl hPx hDx hPm hDm hX hS
      · refine lv_tableIn (x := nI 4) (off := 188) (tgt := 250) hx hb dL_law_62 (by decide +kernel) (by decide +kernel) (by decide +kernel) (by decide) ?_
        exact law_rank (C i) hi4 K A0 b0 rd fA fB fW fP pv pp gA gB rk gR gP gS hLI ls _ _ hl hPx hDx hPm hDm hX hS
      · refine lv_tableIn (x := nI 5) (off := 201) (tgt := 263) hx hb dL_law_62 (by decide +kernel) (by decide +kernel) (by decide +kernel) (by decide) ?_
        exact law_rrefAt (C i) hi4 K A0 b0 rd fA fB fW fP pv pp gA gB rk gR gP gS hLI ls _ _ hl hPx hDx hPm hDm hX hS
      · refine lv_tableIn (x := nI 6) (off := 234) (tgt := 296) hx hb dL_law_62 (by decide +kernel) (by decide +kernel) (by decide +kernel) (by decide) ?_
        exact law_transformAt (C i) hi4 K A0 b0 rd fA fB fW fP pv pp gA gB rk gR gP gS hLI ls _ _ hl hPx hDx hPm hDm hX hS
      · refine lv_tableIn (x := nI 7) (off := 267) (tgt := 329) hx hb dL_law_62 (by decide +kernel) (by decide +kernel) (by decide +kernel) (by decide) ?_
        exact law_det (C i) hi4 K A0 b0 rd fA fB fW fP pv pp gA gB rk gR gP gS hLI ls _ _ hl hPx hDx hPm hDm hX hS
      · refine lv_tableIn (x := nI 8) (off := 280) (tgt := 342) hx hb dL_law_62 (by decide +kernel) (by decide +kernel) (by decide +kernel) (by decide) ?_
        exact law_inverseAt (C i) hi4 K A0 b0 rd fA fB fW fP pv pp gA gB rk gR gP gS hLI ls _ _ hl hPx hDx hPm hDm hX hS
      · refine lv_tableIn (x := nI 9) (off := 313) (tgt := 375) hx hb dL_law_62 (by decide +kernel) (by decide +kernel) (by decide +kernel) (by decide) ?_
        exact law_solvable (C i) hi4 K A0 b0 rd fA fB fW fP pv pp gA gB rk gR gP gS hLI ls _ _ hl hPx hDx hPm hDm hX hS
      · refine lv_tableIn (x := nI 10) (off := 326) (tgt := 388) hx hb dL_law_62 (by decide +kernel) (by decide +kernel) (by decide +kernel) (by decide) ?_
        exact law_solution (C i) hi4 K A0 b0 rd fA fB fW fP pv pp gA gB rk gR gP gS hLI ls _ _ hl hPx hDx hPm hDm hX hS
      · refine lv_tableIn (x := nI 11) (off := 349) (tgt := 411) hx hb dL_law_62 (by decide +kernel) (by decide +kernel) (by decide +kernel) (by decide) ?_
        exact law_kernelDim (C i) hi4 K A0 b0 rd fA fB fW fP pv pp gA gB rk gR gP gS hLI ls _ _ hl hPx hDx hPm hDm hX hS
      · refine lv_tableIn (x := nI 12) (off := 362) (tgt := 424) hx hb dL_law_62 (by decide +kernel) (by decide +kernel) (by decide +kernel) (by decide) ?_
        exact law_kernelAt (C i) hi4 K A0 b0 rd fA fB fW fP pv pp gA gB rk gR gP gS hLI ls _ _ hl hPx hDx hPm hDm hX hS
      · refine lv_tableOut (x := nI 13) (tgt := 457) hx hb dL_law_62 (Or.inr (by decide +kernel)) (by decide) ?_
        exact K A0 b0 rd fA fB fW fP pv pp gA gB rk gR gP gS hLI ls _ _ hl hPx hDx hPm hDm hX hS
      · refine lv_tableOut (x := nI 14) (tgt := 457) hx hb dL_law_62 (Or.inr (by decide +kernel)) (by decide) ?_
        exact K A0 b0 rd fA fB fW fP pv pp gA gB rk gR gP gS hLI ls _ _ hl hPx hDx hPm hDm hX hS
      · refine lv_tableOut (x := nI 15) (tgt := 457) hx hb dL_law_62 (Or.inr (by decide +kernel)) (by decide) ?_
        exact K A0 b0 rd fA fB fW fP pv pp gA gB rk gR gP gS hLI ls _ _ hl hPx hDx hPm hDm hX hS
set_option maxHeartbeats 4000000 in
set_option maxRecDepth 100000 in
/-- THE LAW, from its entry -/
theorem whole_start {p : Program} {e : Env} {s : State} {m : MethodId} {below : List Frame} {meth : Method} {c : Code} (l : Launch) {b L : Nat} {xs : Nat → Int32} (hL : L ≤ 2051) (C0 : lw_At p s m meth c b L xs) : W p l e room_1 s m #[Value.ref b] below meth c s.heap [] 0 0 (lw_Z below #[Value.ref b] s) (entryFrame m ([Value.ref b] : List Value).toArray 4) := by
  obtain ⟨hx, hb, hr, hml, hown, hts0, hX0, hbl, hlocks, hgv⟩ := id C0
  have hts : ∀ w ∈ wsL_law, w.before #[Value.ref b] s = true := fun w h => hts0 w (wsL_law_in w h)
  have hown : s.vm.findClass RL = some m.cls := hown
  have S : CallFix p m c code 4 s #[Value.ref b] wsL_law RL := ⟨hx, hb, hml, hown, hts⟩
  have hA : ∀ q : Nat, s.heap.size ≤ q → (fun q : Nat => s.heap.size ≤ q) q := fun _ h => h
  have hbA : ¬ (fun q : Nat => s.heap.size ≤ q) b := Nat.not_le.mpr hbl
  obtain ⟨c0, iS0, hKn0⟩ := u_known (C := RX0) (T := TX0) (N := 11) (n := 11) hts inlX0 (hts (.instantiable RX0 11) (by decide +kernel))
  obtain ⟨c1, iS1, hKn1⟩ := u_known (C := RX1) (T := TX1) (N := 12) (n := 12) hts inlX1 (hts (.instantiable RX1 12) (by decide +kernel))
  obtain ⟨dC, dI, hKc⟩ : ∃ (dC : Nat → ClassId) (dI : Nat → Nat → Nat), ∀ (k : Nat) (q : vw_C), vwCl[k]? = some q → u_Kn s q.1 q.2.1 q.2.2 (dC k) (dI k) := by
    refine ⟨fun k => if k = 0 then c0 else c1, fun k => if k = 0 then iS0 else iS1, ?_⟩
    intro k q hq
    match k, hq with
    | 0, hq => cases hq; exact hKn0
    | 1, hq => cases hq; exact hKn1
    | k + 2, hq => simp [vwCl] at hq
  have hS : va_S (fun q : Nat => s.heap.size ≤ q) s.heap s.heap [] := va_S.rf
  have hK : va_K (dC, dI) vwCl [] s := ⟨hKc, fun k q h => by simp at h⟩
  have hP : va_P (dC, dI) vwCl [] s.heap := fun k q h => by simp at h
  have hD : va_D (fun q : Nat => s.heap.size ≤ q) [] := ⟨fun i j p q h => by simp at h, fun k q h => by simp at h⟩
  have hl := lv_entry ([.ref b]) (n := 4) (Nat.le_of_ble_eq_true rfl)
  rw [lg_entry_eq]
  generalize (lg_sl ([.ref b]) ++ List.replicate (4 - (lg_sl ([.ref b])).length) Slot.unset).toArray = ls at hl ⊢
  have hl : lv_has ls 4 [(0, .ref b)] := hl
  refine va_new (own := RL) (ci := 0) (fs := [.int 0, .int 0, .int 0, .null, .null, .null, .int 0, .null, .int 0, .int 0, .long 0]) (C := RX0) (T := TX0) (N := 11) hx hb hts inlX0 tyX0 tyX0_ok hown (hts (.classLink RL 7 RX0) (by decide +kernel)) (hts (.instantiable RX0 11) (by decide +kernel)) (hts (.initialized RX0) (by decide +kernel)) hK hP hD hS hA rfl (fun j hj => by rcases (show j = 0 ∨ j = 1 ∨ j = 2 ∨ j = 3 ∨ j = 4 ∨ j = 5 ∨ j = 6 ∨ j = 7 ∨ j = 8 ∨ j = 9 ∨ j = 10 by omega) with rfl | rfl | rfl | rfl | rfl | rfl | rfl | rfl | rfl | rfl | rfl <;> rfl) (Nat.le_of_ble_eq_true rfl) (Nat.le_of_ble_eq_true rfl) dL_law_0 (fun q1 H hP hD hS => ?_)
  have hP : va_P (dC, dI) vwCl [(q1, .inr (0, [.int 0, .int 0, .int 0, .null, .null, .null, .int 0, .null, .int 0, .int 0, .long 0]))] H := hP
  have hD : va_D (fun q : Nat => s.heap.size ≤ q) [(q1, .inr (0, [.int 0, .int 0, .int 0, .null, .null, .null, .int 0, .null, .int 0, .int 0, .long 0]))] := hD
  have hE : va_P (dC, dI) vwCl [] H := hP.sub [] rfl
  refine lv_dup hx hb dL_law_3 rfl ?_
  refine lv_aload_n hx hb dL_law_4 rfl (lv_at hl 0 rfl) ?_
  refine lv_iconst (v := nI 0) hx hb dL_law_5 (by decide +kernel) ?_
  refine cell_f S hL hX0 hbl hbA (k := 0) (by decide) ⟨(Nat.le_of_ble_eq_true rfl), (Nat.le_of_ble_eq_true rfl)⟩ hl.1 (rest := [.ref q1, .ref q1]) (Nat.le_of_ble_eq_true rfl) dL_law_6 ⟨(Nat.le_of_ble_eq_true rfl), (Nat.le_of_ble_eq_true rfl)⟩ hP hE hS hA (fun H locs hP hE hS => ?_)
  refine lv_aload_n hx hb dL_law_9 rfl (lv_at hl 0 rfl) ?_
  refine lv_iconst (v := nI 1) hx hb dL_law_10 (by decide +kernel) ?_
  refine cell_f S hL hX0 hbl hbA (k := 1) (by decide) ⟨(Nat.le_of_ble_eq_true rfl), (Nat.le_of_ble_eq_true rfl)⟩ hl.1 (rest := [.int (cv L xs 0), .ref q1, .ref q1]) (Nat.le_of_ble_eq_true rfl) dL_law_11 ⟨(Nat.le_of_ble_eq_true rfl), (Nat.le_of_ble_eq_true rfl)⟩ hP hE hS hA (fun H locs hP hE hS => ?_)
  refine lv_aload_n hx hb dL_law_14 rfl (lv_at hl 0 rfl) ?_
  refine lv_iconst (v := nI 2) hx hb dL_law_15 (by decide +kernel) ?_
  refine cell_f S hL hX0 hbl hbA (k := 2) (by decide) ⟨(Nat.le_of_ble_eq_true rfl), (Nat.le_of_ble_eq_true rfl)⟩ hl.1 (rest := [.int (cv L xs 1), .int (cv L xs 0), .ref q1, .ref q1]) (Nat.le_of_ble_eq_true rfl) dL_law_16 ⟨(Nat.le_of_ble_eq_true rfl), (Nat.le_of_ble_eq_true rfl)⟩ hP hE hS hA (fun H locs hP hE hS => ?_)
  refine ini_f (D := (dC, dI)) S (c_X0_init l (dC, dI) (h := q1) (cv L xs 0) (cv L xs 1) (cv L xs 2)) (cwI 3 hts gL_law_X0_init rfl rfl rfl (hts (.initialized RX0) (by decide +kernel)) (hts (.methodLink RL 15 yX0_init) (by decide +kernel)) (hts (.instanceMethod yX0_init) (by decide +kernel)) rfl (by decide +kernel) ⟨(Nat.le_of_ble_eq_true rfl), (Nat.le_of_ble_eq_true rfl)⟩) rfl hK hl.1 (rest := [.ref q1]) rfl (Nat.le_of_ble_eq_true rfl) dL_law_19 ⟨(Nat.le_of_ble_eq_true rfl), (Nat.le_of_ble_eq_true rfl)⟩ hP hD hE (fun i j p q _ h => by simp at h) hS hA (fun u H locs hdim hP hD hK1 _ _ hS => ?_)
  obtain ⟨a1, a2, a3, a4, cA, P, mR, nC⟩ := u
  have hdim : Dims (cv L xs 0) (cv L xs 1) (cv L xs 2) P mR nC := hdim
  have hP : va_P (dC, dI) vwCl (pbW q1 a1 a2 a3 a4 cA (cv L xs 0) mR nC (fun _ => 0) (fun _ => 0) (fun _ => 0) (fun _ => 0) 0 0 1) H := hP
  have hD : va_D (fun q : Nat => s.heap.size ≤ q) (pbW q1 a1 a2 a3 a4 cA (cv L xs 0) mR nC (fun _ => 0) (fun _ => 0) (fun _ => 0) (fun _ => 0) 0 0 1) := hD
  have hK1 : va_K (dC, dI) vwCl [(cA, .int)] s := hK1
  refine lv_astore_n (lv' := [(1, .ref q1), (0, .ref b)]) hx hb dL_law_22 rfl hl (by decide) rfl (fun ls hl => ?_)
  refine va_new (own := RL) (ci := 1) (fs := [.int 0, .long 0, .int 0, .int 0, .int 0, .null, .null, .int 0, .int 0, .null, .null, .null]) (C := RX1) (T := TX1) (N := 12) hx hb hts inlX1 tyX1 tyX1_ok hown (hts (.classLink RL 18 RX1) (by decide +kernel)) (hts (.instantiable RX1 12) (by decide +kernel)) (hts (.initialized RX1) (by decide +kernel)) hK hP hD hS hA rfl (fun j hj => by rcases (show j = 0 ∨ j = 1 ∨ j = 2 ∨ j = 3 ∨ j = 4 ∨ j = 5 ∨ j = 6 ∨ j = 7 ∨ j = 8 ∨ j = 9 ∨ j = 10 ∨ j = 11 by omega) with rfl | rfl | rfl | rfl | rfl | rfl | rfl | rfl | rfl | rfl | rfl | rfl <;> rfl) (Nat.le_of_ble_eq_true rfl) (Nat.le_of_ble_eq_true rfl) dL_law_23 (fun q2 H hP hD hS => ?_)
  have hPx : va_P (dC, dI) vwCl (pbW q1 a1 a2 a3 a4 cA (cv L xs 0) mR nC (fun _ => 0) (fun _ => 0) (fun _ => 0) (fun _ => 0) 0 0 1) H := hP.sub [0, 1, 2, 3, 4] rfl
  have hPm : va_P (dC, dI) vwCl [(q2, .inr (1, [.int 0, .long 0, .int 0, .int 0, .int 0, .null, .null, .int 0, .int 0, .null, .null, .null]))] H := hP.sub [5] rfl
  have hDx : va_D (fun q : Nat => s.heap.size ≤ q) (pbW q1 a1 a2 a3 a4 cA (cv L xs 0) mR nC (fun _ => 0) (fun _ => 0) (fun _ => 0) (fun _ => 0) 0 0 1) := hD.sub [0, 1, 2, 3, 4] (by decide) rfl
  have hDm : va_D (fun q : Nat => s.heap.size ≤ q) [(q2, .inr (1, [.int 0, .long 0, .int 0, .int 0, .int 0, .null, .null, .int 0, .int 0, .null, .null, .null]))] := hD.sub [5] (by decide) rfl
  have hX : Apart (pbW q1 a1 a2 a3 a4 cA (cv L xs 0) mR nC (fun _ => 0) (fun _ => 0) (fun _ => 0) (fun _ => 0) 0 0 1) [(q2, .inr (1, [.int 0, .long 0, .int 0, .int 0, .int 0, .null, .null, .int 0, .int 0, .null, .null, .null]))] := apart_D hD
  refine lv_dup hx hb dL_law_26 rfl ?_
  refine lv_aload_n hx hb dL_law_27 rfl (lv_at hl 1 rfl) ?_
  refine lv_iconst (v := nI 0) hx hb dL_law_28 (by decide +kernel) ?_
  refine cell_f S hL hX0 hbl hbA (k := 0) (by decide) ⟨(Nat.le_of_ble_eq_true rfl), (Nat.le_of_ble_eq_true rfl)⟩ hl.1 (rest := [.ref q2, .ref q2]) (Nat.le_of_ble_eq_true rfl) dL_law_29 ⟨(Nat.le_of_ble_eq_true rfl), (Nat.le_of_ble_eq_true rfl)⟩ hPm hPx hS hA (fun H locs hPm hPx hS => ?_)
  refine lv_aload_n hx hb dL_law_32 rfl (lv_at hl 1 rfl) ?_
  refine lv_iconst (v := nI 1) hx hb dL_law_33 (by decide +kernel) ?_
  refine cell_f S hL hX0 hbl hbA (k := 1) (by decide) ⟨(Nat.le_of_ble_eq_true rfl), (Nat.le_of_ble_eq_true rfl)⟩ hl.1 (rest := [.int (cv L xs 0), .ref q2, .ref q2]) (Nat.le_of_ble_eq_true rfl) dL_law_34 ⟨(Nat.le_of_ble_eq_true rfl), (Nat.le_of_ble_eq_true rfl)⟩ hPm hPx hS hA (fun H locs hPm hPx hS => ?_)
  refine lv_aload_n hx hb dL_law_37 rfl (lv_at hl 1 rfl) ?_
  refine lv_iconst (v := nI 2) hx hb dL_law_38 (by decide +kernel) ?_
  refine cell_f S hL hX0 hbl hbA (k := 2) (by decide) ⟨(Nat.le_of_ble_eq_true rfl), (Nat.le_of_ble_eq_true rfl)⟩ hl.1 (rest := [.int (cv L xs 1), .int (cv L xs 0), .ref q2, .ref q2]) (Nat.le_of_ble_eq_true rfl) dL_law_39 ⟨(Nat.le_of_ble_eq_true rfl), (Nat.le_of_ble_eq_true rfl)⟩ hPm hPx hS hA (fun H locs hPm hPx hS => ?_)
  refine ini_f (D := (dC, dI)) S (c_X1_init l (dC, dI) (h := q2) (cv L xs 0) (cv L xs 1) (cv L xs 2)) (cwI 3 hts gL_law_X1_init rfl rfl rfl (hts (.initialized RX1) (by decide +kernel)) (hts (.methodLink RL 20 yX1_init) (by decide +kernel)) (hts (.instanceMethod yX1_init) (by decide +kernel)) rfl (by decide +kernel) ⟨(Nat.le_of_ble_eq_true rfl), (Nat.le_of_ble_eq_true rfl)⟩) rfl hK hl.1 (rest := [.ref q2]) rfl (Nat.le_of_ble_eq_true rfl) dL_law_42 ⟨(Nat.le_of_ble_eq_true rfl), (Nat.le_of_ble_eq_true rfl)⟩ hPm hDm hPx hX.symm hS hA (fun u H locs hdim2 hPm hDm hK2 hPx hX hS => ?_)
  obtain ⟨b1, b2, b3, b4, b5, cJ, cI, P', mR', nC', vd⟩ := u
  obtain ⟨hdim2, hvd⟩ := hdim2
  have hdim2 : Dims (cv L xs 0) (cv L xs 1) (cv L xs 2) P' mR' nC' := hdim2
  have hvd : vd = if mR' = 0 then 0 else 1 := hvd
  obtain ⟨rfl, rfl, rfl⟩ := hdim.uniq hdim2
  have hKa : va_K (dC, dI) vwCl [(cA, .int), (cJ, .long), (cI, .int)] s := hK1.app hK2
  refine W.widen (k := 11) (n := 1687) (by decide) (by decide) ?_
  refine lv_astore_n (lv' := [(2, .ref q2), (1, .ref q1), (0, .ref b)]) hx hb dL_law_45 rfl hl (by decide) rfl (fun ls hl => ?_)
  refine lv_iconst (v := nI 3) hx hb dL_law_46 (by decide +kernel) ?_
  refine lv_istore_n (lv' := [(3, .int (nI 3)), (2, .ref q2), (1, .ref q1), (0, .ref b)]) hx hb dL_law_47 rfl hl (by decide) rfl (fun ls hl => ?_)
  have hF := LF_of hdim hvd
  exact law_loop (fun _ => ⟨C0, hL, hF, hKa⟩) (L + 5) 3 (by omega) (by omega) _ _ _ _ _ _ _ _ _ _ _ _ _ _ _ (LI_0 (fun h => (hF.2.2.1 h).2.1)) ls _ _ (lv_sub hl [3, 2, 1, 0] rfl) hPx hDx hPm hDm hX.symm hS
