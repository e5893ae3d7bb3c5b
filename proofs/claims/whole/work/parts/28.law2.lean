/-- at pc, with the objects in step: the law comes to its end -/
def LW (p : Program) (l : Launch) (e : Env) (s : State) (m : MethodId) (below : List Frame) (meth : Method) (c : Code) (D : va_G) (b L : Nat) (xs : Nat → Int32) (q1 a1 a2 a3 a4 : Nat) (cA : ClassId) (q2 b1 b2 b3 b4 b5 : Nat) (cJ cI : ClassId) (p9 m9 n9 : Int32) (P mR nC vd : Nat) (i : Nat) (pc : Nat) : Prop := ∀ (A0 : Mat) (b0 : Nat → Nat) (rd : Nat) (fA fB fW fP : Nat → Int32) (pv pp : Nat) (gA gB : Nat → Int64) (rk : Nat) (gR : Nat → Int64) (gP : Nat → Int32) (gS : Nat → Int64), LI P mR nC A0 b0 rd fA fB fW fP pv pp gA gB rk gR gP → ∀ (ls : Array Slot) (H : Heap) (locs : List Loc), lv_has ls 4 [(0, .ref b), (1, .ref q1), (2, .ref q2), (3, .int (nI i))] → va_P D vwCl (pbW q1 a1 a2 a3 a4 cA p9 mR nC fA fB fW fP rd pv pp) H → va_D (fun q : Nat => s.heap.size ≤ q) (pbW q1 a1 a2 a3 a4 cA p9 mR nC fA fB fW fP rd pv pp) → va_P D vwCl (mdW q2 b1 b2 b3 b4 b5 cJ cI p9.toInt64 m9 n9 vd gA gB rd rk gR gP gS) H → va_D (fun q : Nat => s.heap.size ≤ q) (mdW q2 b1 b2 b3 b4 b5 cJ cI p9.toInt64 m9 n9 vd gA gB rd rk gR gP gS) → Apart (pbW q1 a1 a2 a3 a4 cA p9 mR nC fA fB fW fP rd pv pp) (mdW q2 b1 b2 b3 b4 b5 cJ cI p9.toInt64 m9 n9 vd gA gB rd rk gR gP gS) → va_S (fun q : Nat => s.heap.size ≤ q) s.heap H locs → W p l e room_1 s m #[Value.ref b] below meth c H locs 11 1687 (lw_Z below #[Value.ref b] s) (F0 m pc ls [])
def LC (p : Program) (l : Launch) (e : Env) (s : State) (m : MethodId) (below : List Frame) (meth : Method) (c : Code) (D : va_G) (b L : Nat) (xs : Nat → Int32) (q1 a1 a2 a3 a4 : Nat) (cA : ClassId) (q2 b1 b2 b3 b4 b5 : Nat) (cJ cI : ClassId) (p9 m9 n9 : Int32) (P mR nC vd : Nat) (i : Nat) : Prop := lw_At p s m meth c b L xs ∧ L ≤ 2051 ∧ LF p9 m9 n9 P mR nC vd ∧ va_K D vwCl [(cA, .int), (cJ, .long), (cI, .int)] s
set_option maxHeartbeats 4000000 in
set_option maxRecDepth 100000 in
theorem law_set {p : Program} {l : Launch} {e : Env} {s : State} {m : MethodId} {below : List Frame} {meth : Method} {c : Code} {D : va_G} {b L : Nat} {xs : Nat → Int32} {q1 a1 a2 a3 a4 : Nat} {cA : ClassId} {q2 b1 b2 b3 b4 b5 : Nat} {cJ cI : ClassId} {p9 m9 n9 : Int32} {P mR nC vd : Nat} {i : Nat} (C : LC p l e s m below meth c D b L xs q1 a1 a2 a3 a4 cA q2 b1 b2 b3 b4 b5 cJ cI p9 m9 n9 P mR nC vd i) (hi4 : i + 4 ≤ L) (K : LW p l e s m below meth c D b L xs q1 a1 a2 a3 a4 cA q2 b1 b2 b3 b4 b5 cJ cI p9 m9 n9 P mR nC vd i 457) : LW p l e s m below meth c D b L xs q1 a1 a2 a3 a4 cA q2 b1 b2 b3 b4 b5 cJ cI p9 m9 n9 P mR nC vd i 128 := by
  obtain ⟨C0, hL, hF, hK⟩ := C
  obtain ⟨hx, hb, hr, hml, hown, hts0, hX0, hbl, hlocks, hgv⟩ := id C0
  have hts : ∀ w ∈ wsL_law, w.before #[Value.ref b] s = true := fun w h => hts0 w (wsL_law_in w h)
  have S : CallFix p m c code 4 s #[Value.ref b] wsL_law RL := ⟨hx, hb, hml, hown, hts⟩
  have hA : ∀ q : Nat, s.heap.size ≤ q → (fun q : Nat => s.heap.size ≤ q) q := fun _ h => h
  have hbA : ¬ (fun q : Nat => s.heap.size ≤ q) b := Nat.not_le.mpr hbl
  obtain ⟨hm, hn, hV, hpr, hvd, hVm, hI, hmv, hvm⟩ := hF
  have hKx := hK.sub (tys' := [(cA, .int)]) [0] rfl
  have hKm := hK.sub (tys' := [(cJ, .long), (cI, .int)]) [1, 2] rfl
  intro A0 b0 rd fA fB fW fP pv pp gA gB rk gR gP gS hLI ls H locs hl hPx hDx hPm hDm hX hS
  obtain ⟨hAb, hbb, hA0, hb1, hA1, hb2, hrd, hpv9, hQ⟩ := id hLI
  have hQx := fun h => (⟨(hQ h).1, (hQ h).2.1⟩ : 0 < mR ∧ PbQ P mR nC fW fP pv pp (redN P mR (q00 nC A0) nC).1 (rowOf (redN P mR (q00 nC A0) nC).2.2.2 (redN P mR (q00 nC A0) nC).2.1))
  have hQm := fun h => (⟨hmv (hQ h).1, (hQ h).2.2.1⟩ : vd ≠ 0 ∧ MdQ P mR nC rk gR gP (redN P mR (q00 nC A0) nC).1 (redN P mR (q00 nC A0) nC).2.2.2)
  have hpvq := fun h => (hQ h).2.2.2.1
  have hrkq := fun h => (hQ h).2.2.2.2.2
  have hAbm := fun h => hAb (hvm h)
  have hbbm := fun h => hbb (hvm h)
  refine lv_aload_n hx hb dL_law_128 rfl (lv_at hl 1 rfl) ?_
  refine lv_aload_n hx hb dL_law_129 rfl (lv_at hl 0 rfl) ?_
  refine lv_iload_n hx hb dL_law_130 rfl (lv_at hl 3 rfl) ?_
  refine lv_iconst (v := nI 1) hx hb dL_law_131 (by decide +kernel) ?_
  refine nv_iadd hx hb dL_law_132 ?_
  refine nv_sld hx hb hX0 hbl hbA hS (k := i + 1) (by omega) (by omega) dL_law_133 ?_
  refine lv_aload_n hx hb dL_law_134 rfl (lv_at hl 0 rfl) ?_
  refine lv_iload_n hx hb dL_law_135 rfl (lv_at hl 3 rfl) ?_
  refine lv_iconst (v := nI 2) hx hb dL_law_136 (by decide +kernel) ?_
  refine nv_iadd hx hb dL_law_137 ?_
  refine nv_sld hx hb hX0 hbl hbA hS (k := i + 2) (by omega) (by omega) dL_law_138 ?_
  refine lv_aload_n hx hb dL_law_139 rfl (lv_at hl 0 rfl) ?_
  refine lv_iload_n hx hb dL_law_140 rfl (lv_at hl 3 rfl) ?_
  refine lv_iconst (v := nI 3) hx hb dL_law_141 (by decide +kernel) ?_
  refine nv_iadd hx hb dL_law_142 ?_
  refine nv_sld hx hb hX0 hbl hbA hS (k := i + 3) (by omega) (by omega) dL_law_143 ?_
  refine wri_f S (c_X0_set l D (P := P) (A0 := A0) (xs (i + 1)) (xs (i + 2)) (xs (i + 3)) hm hn hV hA0) (cwV 3 hts gL_law_X0_set rfl rfl rfl (by decide +kernel) ⟨Nat.le_of_ble_eq_true rfl, Nat.le_of_ble_eq_true rfl⟩) rfl hKx (ci := 0) rfl rfl hl.1 (rest := []) rfl (Nat.le_of_ble_eq_true rfl) dL_law_144 ⟨Nat.le_of_ble_eq_true rfl, Nat.le_of_ble_eq_true rfl⟩ hPx hDx hPm hX hS hA (fun r1 u1 H locs er1 hPx hDx hPm hX hS => ?_)
  refine lv_aload_n hx hb dL_law_147 rfl (lv_at hl 2 rfl) ?_
  refine lv_aload_n hx hb dL_law_148 rfl (lv_at hl 0 rfl) ?_
  refine lv_iload_n hx hb dL_law_149 rfl (lv_at hl 3 rfl) ?_
  refine lv_iconst (v := nI 1) hx hb dL_law_150 (by decide +kernel) ?_
  refine nv_iadd hx hb dL_law_151 ?_
  refine nv_sld hx hb hX0 hbl hbA hS (k := i + 1) (by omega) (by omega) dL_law_152 ?_
  refine lv_aload_n hx hb dL_law_153 rfl (lv_at hl 0 rfl) ?_
  refine lv_iload_n hx hb dL_law_154 rfl (lv_at hl 3 rfl) ?_
  refine lv_iconst (v := nI 2) hx hb dL_law_155 (by decide +kernel) ?_
  refine nv_iadd hx hb dL_law_156 ?_
  refine nv_sld hx hb hX0 hbl hbA hS (k := i + 2) (by omega) (by omega) dL_law_157 ?_
  refine lv_aload_n hx hb dL_law_158 rfl (lv_at hl 0 rfl) ?_
  refine lv_iload_n hx hb dL_law_159 rfl (lv_at hl 3 rfl) ?_
  refine lv_iconst (v := nI 3) hx hb dL_law_160 (by decide +kernel) ?_
  refine nv_iadd hx hb dL_law_161 ?_
  refine nv_sld hx hb hX0 hbl hbA hS (k := i + 3) (by omega) (by omega) dL_law_162 ?_
  refine wri_f S (c_X1_set l D (A0 := A0) (xs (i + 1)) (xs (i + 2)) (xs (i + 3)) hvd hVm hI hA1) (cwV 3 hts gL_law_X1_set rfl rfl rfl (by decide +kernel) ⟨Nat.le_of_ble_eq_true rfl, Nat.le_of_ble_eq_true rfl⟩) rfl hKm (ci := 1) rfl rfl hl.1 (rest := [.int r1]) rfl (Nat.le_of_ble_eq_true rfl) dL_law_163 ⟨Nat.le_of_ble_eq_true rfl, Nat.le_of_ble_eq_true rfl⟩ hPm hDm hPx hX.symm hS hA (fun r2 u2 H locs er2 hPm hDm hPx hX hS => ?_)
  have hX := hX.symm
  rcases er1 with ⟨ok1, rfl, n1, d1⟩ | ⟨no1, rfl, hu1⟩
  · rcases er2 with ⟨ok2, rfl, n2, d2⟩ | ⟨no2, rfl, hu2⟩
    · obtain ⟨f1, z1⟩ := u1
      obtain ⟨g1, z2⟩ := u2
      dsimp only at n1 d1 n2 d2
      subst d1 d2
      refine lv_icmp_eq (tgt := 457) hx hb dL_law_166 (by decide) (fun _ => ?_) (fun q => absurd (rfl) q)
      exact K (mu A0 (ix (xs (i + 1))) (ix (xs (i + 2))) (ix (xs (i + 3)) % P)) b0 0 f1 fB fW fP pv pp g1 gB rk gR gP gS ⟨fun h => bn_mu (hAb h) (Nat.mod_lt _ (by have := hV h; omega)), hbb, n1, hb1, n2, hb2, by omega, hpv9, fun h => absurd rfl h⟩ ls _ _ hl hPx hDx hPm hDm hX hS
    · exact absurd ok1 no2
  · rcases er2 with ⟨ok2, rfl, n2, d2⟩ | ⟨no2, rfl, hu2⟩
    · exact absurd ok2 no1
    · subst u1
      subst u2
      refine lv_icmp_eq (tgt := 457) hx hb dL_law_166 (by decide) (fun _ => ?_) (fun q => absurd (rfl) q)
      exact K A0 b0 rd fA fB fW fP pv pp gA gB rk gR gP gS hLI ls _ _ hl hPx hDx hPm hDm hX hS
set_option maxHeartbeats 4000000 in
set_option maxRecDepth 100000 in
theorem law_get {p : Program} {l : Launch} {e : Env} {s : State} {m : MethodId} {below : List Frame} {meth : Method} {c : Code} {D : va_G} {b L : Nat} {xs : Nat → Int32} {q1 a1 a2 a3 a4 : Nat} {cA : ClassId} {q2 b1 b2 b3 b4 b5 : Nat} {cJ cI : ClassId} {p9 m9 n9 : Int32} {P mR nC vd : Nat} {i : Nat} (C : LC p l e s m below meth c D b L xs q1 a1 a2 a3 a4 cA q2 b1 b2 b3 b4 b5 cJ cI p9 m9 n9 P mR nC vd i) (hi4 : i + 4 ≤ L) (K : LW p l e s m below meth c D b L xs q1 a1 a2 a3 a4 cA q2 b1 b2 b3 b4 b5 cJ cI p9 m9 n9 P mR nC vd i 457) : LW p l e s m below meth c D b L xs q1 a1 a2 a3 a4 cA q2 b1 b2 b3 b4 b5 cJ cI p9 m9 n9 P mR nC vd i 171 := by
  obtain ⟨C0, hL, hF, hK⟩ := C
  obtain ⟨hx, hb, hr, hml, hown, hts0, hX0, hbl, hlocks, hgv⟩ := id C0
  have hts : ∀ w ∈ wsL_law, w.before #[Value.ref b] s = true := fun w h => hts0 w (wsL_law_in w h)
  have S : CallFix p m c code 4 s #[Value.ref b] wsL_law RL := ⟨hx, hb, hml, hown, hts⟩
  have hA : ∀ q : Nat, s.heap.size ≤ q → (fun q : Nat => s.heap.size ≤ q) q := fun _ h => h
  have hbA : ¬ (fun q : Nat => s.heap.size ≤ q) b := Nat.not_le.mpr hbl
  obtain ⟨hm, hn, hV, hpr, hvd, hVm, hI, hmv, hvm⟩ := hF
  have hKx := hK.sub (tys' := [(cA, .int)]) [0] rfl
  have hKm := hK.sub (tys' := [(cJ, .long), (cI, .int)]) [1, 2] rfl
  intro A0 b0 rd fA fB fW fP pv pp gA gB rk gR gP gS hLI ls H locs hl hPx hDx hPm hDm hX hS
  obtain ⟨hAb, hbb, hA0, hb1, hA1, hb2, hrd, hpv9, hQ⟩ := id hLI
  have hQx := fun h => (⟨(hQ h).1, (hQ h).2.1⟩ : 0 < mR ∧ PbQ P mR nC fW fP pv pp (redN P mR (q00 nC A0) nC).1 (rowOf (redN P mR (q00 nC A0) nC).2.2.2 (redN P mR (q00 nC A0) nC).2.1))
  have hQm := fun h => (⟨hmv (hQ h).1, (hQ h).2.2.1⟩ : vd ≠ 0 ∧ MdQ P mR nC rk gR gP (redN P mR (q00 nC A0) nC).1 (redN P mR (q00 nC A0) nC).2.2.2)
  have hpvq := fun h => (hQ h).2.2.2.1
  have hrkq := fun h => (hQ h).2.2.2.2.2
  have hAbm := fun h => hAb (hvm h)
  have hbbm := fun h => hbb (hvm h)
  refine lv_aload_n hx hb dL_law_171 rfl (lv_at hl 1 rfl) ?_
  refine lv_aload_n hx hb dL_law_172 rfl (lv_at hl 0 rfl) ?_
  refine lv_iload_n hx hb dL_law_173 rfl (lv_at hl 3 rfl) ?_
  refine lv_iconst (v := nI 1) hx hb dL_law_174 (by decide +kernel) ?_
  refine nv_iadd hx hb dL_law_175 ?_
  refine nv_sld hx hb hX0 hbl hbA hS (k := i + 1) (by omega) (by omega) dL_law_176 ?_
  refine lv_aload_n hx hb dL_law_177 rfl (lv_at hl 0 rfl) ?_
  refine lv_iload_n hx hb dL_law_178 rfl (lv_at hl 3 rfl) ?_
  refine lv_iconst (v := nI 2) hx hb dL_law_179 (by decide +kernel) ?_
  refine nv_iadd hx hb dL_law_180 ?_
  refine nv_sld hx hb hX0 hbl hbA hS (k := i + 2) (by omega) (by omega) dL_law_181 ?_
  refine rdv_2 S (c_X0_get l D (A0 := A0) (xs (i + 1)) (xs (i + 2)) hm hn hA0) (cwV 2 hts gL_law_X0_get rfl rfl rfl (by decide +kernel) ⟨Nat.le_of_ble_eq_true rfl, Nat.le_of_ble_eq_true rfl⟩) rfl hKx hPx (ci := 0) rfl rfl hl.1 (rest := []) rfl (Nat.le_of_ble_eq_true rfl) dL_law_182 ⟨Nat.le_of_ble_eq_true rfl, Nat.le_of_ble_eq_true rfl⟩ hPm hS hA (fun r1 H locs er1 hPx hPm hS => ?_)
  refine lv_aload_n hx hb dL_law_185 rfl (lv_at hl 2 rfl) ?_
  refine lv_aload_n hx hb dL_law_186 rfl (lv_at hl 0 rfl) ?_
  refine lv_iload_n hx hb dL_law_187 rfl (lv_at hl 3 rfl) ?_
  refine lv_iconst (v := nI 1) hx hb dL_law_188 (by decide +kernel) ?_
  refine nv_iadd hx hb dL_law_189 ?_
  refine nv_sld hx hb hX0 hbl hbA hS (k := i + 1) (by omega) (by omega) dL_law_190 ?_
  refine lv_aload_n hx hb dL_law_191 rfl (lv_at hl 0 rfl) ?_
  refine lv_iload_n hx hb dL_law_192 rfl (lv_at hl 3 rfl) ?_
  refine lv_iconst (v := nI 2) hx hb dL_law_193 (by decide +kernel) ?_
  refine nv_iadd hx hb dL_law_194 ?_
  refine nv_sld hx hb hX0 hbl hbA hS (k := i + 2) (by omega) (by omega) dL_law_195 ?_
  refine wri_f S (c_X1_get l D (A0 := A0) (xs (i + 1)) (xs (i + 2)) hvd hVm hI hA1) (cwV 2 hts gL_law_X1_get rfl rfl rfl (by decide +kernel) ⟨Nat.le_of_ble_eq_true rfl, Nat.le_of_ble_eq_true rfl⟩) rfl hKm (ci := 1) rfl rfl hl.1 (rest := [.int r1]) rfl (Nat.le_of_ble_eq_true rfl) dL_law_196 ⟨Nat.le_of_ble_eq_true rfl, Nat.le_of_ble_eq_true rfl⟩ hPm hDm hPx hX.symm hS hA (fun r2 u2 H locs er2 hPm hDm hPx hX hS => ?_)
  have hX := hX.symm
  have e12 : r1 = r2 := by rw [er1, er2]
  refine lv_icmp_eq (tgt := 457) hx hb dL_law_199 (by decide) (fun _ => ?_) (fun q => absurd (e12) q)
  exact K A0 b0 rd fA fB fW fP pv pp gA gB rk gR gP gS hLI ls _ _ hl hPx hDx hPm hDm hX hS
set_option maxHeartbeats 4000000 in
set_option maxRecDepth 100000 in
theorem law_setRhs {p : Program} {l : Launch} {e : Env} {s : State} {m : MethodId} {below : List Frame} {meth : Method} {c : Code} {D : va_G} {b L : Nat} {xs : Nat → Int32} {q1 a1 a2 a3 a4 : Nat} {cA : ClassId} {q2 b1 b2 b3 b4 b5 : Nat} {cJ cI : ClassId} {p9 m9 n9 : Int32} {P mR nC vd : Nat} {i : Nat} (C : LC p l e s m below meth c D b L xs q1 a1 a2 a3 a4 cA q2 b1 b2 b3 b4 b5 cJ cI p9 m9 n9 P mR nC vd i) (hi4 : i + 4 ≤ L) (K : LW p l e s m below meth c D b L xs q1 a1 a2 a3 a4 cA q2 b1 b2 b3 b4 b5 cJ cI p9 m9 n9 P mR nC vd i 457) : LW p l e s m below meth c D b L xs q1 a1 a2 a3 a4 cA q2 b1 b2 b3 b4 b5 cJ cI p9 m9 n9 P mR nC vd i 204 := by
  obtain ⟨C0, hL, hF, hK⟩ := C
  obtain ⟨hx, hb, hr, hml, hown, hts0, hX0, hbl, hlocks, hgv⟩ := id C0
  have hts : ∀ w ∈ wsL_law, w.before #[Value.ref b] s = true := fun w h => hts0 w (wsL_law_in w h)
  have S : CallFix p m c code 4 s #[Value.ref b] wsL_law RL := ⟨hx, hb, hml, hown, hts⟩
  have hA : ∀ q : Nat, s.heap.size ≤ q → (fun q : Nat => s.heap.size ≤ q) q := fun _ h => h
  have hbA : ¬ (fun q : Nat => s.heap.size ≤ q) b := Nat.not_le.mpr hbl
  obtain ⟨hm, hn, hV, hpr, hvd, hVm, hI, hmv, hvm⟩ := hF
  have hKx := hK.sub (tys' := [(cA, .int)]) [0] rfl
  have hKm := hK.sub (tys' := [(cJ, .long), (cI, .int)]) [1, 2] rfl
  intro A0 b0 rd fA fB fW fP pv pp gA gB rk gR gP gS hLI ls H locs hl hPx hDx hPm hDm hX hS
  obtain ⟨hAb, hbb, hA0, hb1, hA1, hb2, hrd, hpv9, hQ⟩ := id hLI
  have hQx := fun h => (⟨(hQ h).1, (hQ h).2.1⟩ : 0 < mR ∧ PbQ P mR nC fW fP pv pp (redN P mR (q00 nC A0) nC).1 (rowOf (redN P mR (q00 nC A0) nC).2.2.2 (redN P mR (q00 nC A0) nC).2.1))
  have hQm := fun h => (⟨hmv (hQ h).1, (hQ h).2.2.1⟩ : vd ≠ 0 ∧ MdQ P mR nC rk gR gP (redN P mR (q00 nC A0) nC).1 (redN P mR (q00 nC A0) nC).2.2.2)
  have hpvq := fun h => (hQ h).2.2.2.1
  have hrkq := fun h => (hQ h).2.2.2.2.2
  have hAbm := fun h => hAb (hvm h)
  have hbbm := fun h => hbb (hvm h)
  refine lv_aload_n hx hb dL_law_204 rfl (lv_at hl 1 rfl) ?_
  refine lv_aload_n hx hb dL_law_205 rfl (lv_at hl 0 rfl) ?_
  refine lv_iload_n hx hb dL_law_206 rfl (lv_at hl 3 rfl) ?_
  refine lv_iconst (v := nI 1) hx hb dL_law_207 (by decide +kernel) ?_
  refine nv_iadd hx hb dL_law_208 ?_
  refine nv_sld hx hb hX0 hbl hbA hS (k := i + 1) (by omega) (by omega) dL_law_209 ?_
  refine lv_aload_n hx hb dL_law_210 rfl (lv_at hl 0 rfl) ?_
  refine lv_iload_n hx hb dL_law_211 rfl (lv_at hl 3 rfl) ?_
  refine lv_iconst (v := nI 2) hx hb dL_law_212 (by decide +kernel) ?_
  refine nv_iadd hx hb dL_law_213 ?_
  refine nv_sld hx hb hX0 hbl hbA hS (k := i + 2) (by omega) (by omega) dL_law_214 ?_
  refine wri_f S (c_X0_setRhs l D (P := P) (b := b0) (xs (i + 1)) (xs (i + 2)) hm hn hV hb1) (cwV 2 hts gL_law_X0_setRhs rfl rfl rfl (by decide +kernel) ⟨Nat.le_of_ble_eq_true rfl, Nat.le_of_ble_eq_true rfl⟩) rfl hKx (ci := 0) rfl rfl hl.1 (rest := []) rfl (Nat.le_of_ble_eq_true rfl) dL_law_215 ⟨Nat.le_of_ble_eq_true rfl, Nat.le_of_ble_eq_true rfl⟩ hPx hDx hPm hX hS hA (fun r1 u1 H locs er1 hPx hDx hPm hX hS => ?_)
  refine lv_aload_n hx hb dL_law_218 rfl (lv_at hl 2 rfl) ?_
  refine lv_aload_n hx hb dL_law_219 rfl (lv_at hl 0 rfl) ?_
  refine lv_iload_n hx hb dL_law_220 rfl (lv_at hl 3 rfl) ?_
  refine lv_iconst (v := nI 1) hx hb dL_law_221 (by decide +kernel) ?_
  refine nv_iadd hx hb dL_law_222 ?_
  refine nv_sld hx hb hX0 hbl hbA hS (k := i + 1) (by omega) (by omega) dL_law_223 ?_
  refine lv_aload_n hx hb dL_law_224 rfl (lv_at hl 0 rfl) ?_
  refine lv_iload_n hx hb dL_law_225 rfl (lv_at hl 3 rfl) ?_
  refine lv_iconst (v := nI 2) hx hb dL_law_226 (by decide +kernel) ?_
  refine nv_iadd hx hb dL_law_227 ?_
  refine nv_sld hx hb hX0 hbl hbA hS (k := i + 2) (by omega) (by omega) dL_law_228 ?_
  refine wri_f S (c_X1_setRhs l D (b := b0) (xs (i + 1)) (xs (i + 2)) hvd hVm hI hb2) (cwV 2 hts gL_law_X1_setRhs rfl rfl rfl (by decide +kernel) ⟨Nat.le_of_ble_eq_true rfl, Nat.le_of_ble_eq_true rfl⟩) rfl hKm (ci := 1) rfl rfl hl.1 (rest := [.int r1]) rfl (Nat.le_of_ble_eq_true rfl) dL_law_229 ⟨Nat.le_of_ble_eq_true rfl, Nat.le_of_ble_eq_true rfl⟩ hPm hDm hPx hX.symm hS hA (fun r2 u2 H locs er2 hPm hDm hPx hX hS => ?_)
  have hX := hX.symm
  rcases er1 with ⟨ok1, rfl, n1⟩ | ⟨no1, rfl, hu1⟩
  · rcases er2 with ⟨ok2, rfl, n2⟩ | ⟨no2, rfl, hu2⟩
    · refine lv_icmp_eq (tgt := 457) hx hb dL_law_232 (by decide) (fun _ => ?_) (fun q => absurd (rfl) q)
      exact K A0 (nb b0 (ix (xs (i + 1))) (ix (xs (i + 2)) % P)) rd fA u1 fW fP pv pp gA u2 rk gR gP gS ⟨hAb, fun h => bn_nb (hbb h) (Nat.mod_lt _ (by have := hV h; omega)), hA0, n1, hA1, n2, hrd, hpv9, hQ⟩ ls _ _ hl hPx hDx hPm hDm hX hS
    · exact absurd ok1 no2
  · rcases er2 with ⟨ok2, rfl, n2⟩ | ⟨no2, rfl, hu2⟩
    · exact absurd ok2 no1
    · subst u1
      subst u2
      refine lv_icmp_eq (tgt := 457) hx hb dL_law_232 (by decide) (fun _ => ?_) (fun q => absurd (rfl) q)
      exact K A0 b0 rd fA fB fW fP pv pp gA gB rk gR gP gS hLI ls _ _ hl hPx hDx hPm hDm hX hS
set_option maxHeartbeats 4000000 in
set_option maxRecDepth 100000 in
theorem law_reduce {p : Program} {l : Launch} {e : Env} {s : State} {m : MethodId} {below : List Frame} {meth : Method} {c : Code} {D : va_G} {b L : Nat} {xs : Nat → Int32} {q1 a1 a2 a3 a4 : Nat} {cA : ClassId} {q2 b1 b2 b3 b4 b5 : Nat} {cJ cI : ClassId} {p9 m9 n9 : Int32} {P mR nC vd : Nat} {i : Nat} (C : LC p l e s m below meth c D b L xs q1 a1 a2 a3 a4 cA q2 b1 b2 b3 b4 b5 cJ cI p9 m9 n9 P mR nC vd i) (hi4 : i + 4 ≤ L) (K : LW p l e s m below meth c D b L xs q1 a1 a2 a3 a4 cA q2 b1 b2 b3 b4 b5 cJ cI p9 m9 n9 P mR nC vd i 457) : LW p l e s m below meth c D b L xs q1 a1 a2 a3 a4 cA q2 b1 b2 b3 b4 b5 cJ cI p9 m9 n9 P mR nC vd i 237 := by
  obtain ⟨C0, hL, hF, hK⟩ := C
  obtain ⟨hx, hb, hr, hml, hown, hts0, hX0, hbl, hlocks, hgv⟩ := id C0
  have hts : ∀ w ∈ wsL_law, w.before #[Value.ref b] s = true := fun w h => hts0 w (wsL_law_in w h)
  have S : CallFix p m c code 4 s #[Value.ref b] wsL_law RL := ⟨hx, hb, hml, hown, hts⟩
  have hA : ∀ q : Nat, s.heap.size ≤ q → (fun q : Nat => s.heap.size ≤ q) q := fun _ h => h
  have hbA : ¬ (fun q : Nat => s.heap.size ≤ q) b := Nat.not_le.mpr hbl
  obtain ⟨hm, hn, hV, hpr, hvd, hVm, hI, hmv, hvm⟩ := hF
  have hKx := hK.sub (tys' := [(cA, .int)]) [0] rfl
  have hKm := hK.sub (tys' := [(cJ, .long), (cI, .int)]) [1, 2] rfl
  intro A0 b0 rd fA fB fW fP pv pp gA gB rk gR gP gS hLI ls H locs hl hPx hDx hPm hDm hX hS
  obtain ⟨hAb, hbb, hA0, hb1, hA1, hb2, hrd, hpv9, hQ⟩ := id hLI
  have hQx := fun h => (⟨(hQ h).1, (hQ h).2.1⟩ : 0 < mR ∧ PbQ P mR nC fW fP pv pp (redN P mR (q00 nC A0) nC).1 (rowOf (redN P mR (q00 nC A0) nC).2.2.2 (redN P mR (q00 nC A0) nC).2.1))
  have hQm := fun h => (⟨hmv (hQ h).1, (hQ h).2.2.1⟩ : vd ≠ 0 ∧ MdQ P mR nC rk gR gP (redN P mR (q00 nC A0) nC).1 (redN P mR (q00 nC A0) nC).2.2.2)
  have hpvq := fun h => (hQ h).2.2.2.1
  have hrkq := fun h => (hQ h).2.2.2.2.2
  have hAbm := fun h => hAb (hvm h)
  have hbbm := fun h => hbb (hvm h)
  by_cases hm0 : 0 < mR
  · obtain ⟨hp9, hP2, hPl⟩ := hV hm0
    have hV0 := hmv hm0
    refine lv_aload_n hx hb dL_law_237 rfl (lv_at hl 1 rfl) ?_
    refine wri_f S (c_X0_reduceR l D (P := P) (A0 := A0) hp9 hP2 hPl hm hn hm0 (hAb hm0) hA0) (cwV 0 hts gL_law_X0_reduce rfl rfl rfl (by decide +kernel) ⟨Nat.le_of_ble_eq_true rfl, Nat.le_of_ble_eq_true rfl⟩) rfl hKx (ci := 0) rfl rfl hl.1 (rest := []) rfl (Nat.le_of_ble_eq_true rfl) dL_law_238 ⟨Nat.le_of_ble_eq_true rfl, Nat.le_of_ble_eq_true rfl⟩ hPx hDx hPm hX hS hA (fun r1 u1 H locs er1 hPx hDx hPm hX hS => ?_)
    refine lv_aload_n hx hb dL_law_241 rfl (lv_at hl 2 rfl) ?_
    refine wri_f S (c_X1_reduceR l D (A0 := A0) (hVm hV0) hV0 hvd (hAb hm0) hA1) (cwV 0 hts gL_law_X1_reduce rfl rfl rfl (by decide +kernel) ⟨Nat.le_of_ble_eq_true rfl, Nat.le_of_ble_eq_true rfl⟩) rfl hKm (ci := 1) rfl rfl hl.1 (rest := [.int r1]) rfl (Nat.le_of_ble_eq_true rfl) dL_law_242 ⟨Nat.le_of_ble_eq_true rfl, Nat.le_of_ble_eq_true rfl⟩ hPm hDm hPx hX.symm hS hA (fun r2 u2 H locs er2 hPm hDm hPx hX hS => ?_)
    have hX := hX.symm
    obtain ⟨f1, g1, v1, d1⟩ := u1
    obtain ⟨f2, g2, v2⟩ := u2
    obtain ⟨x0, x1, x2, x3, x4⟩ := er1
    obtain ⟨y0, y1, y2, y3⟩ := er2
    dsimp only at x1 x2 x3 x4 y1 y2 y3
    have hnew := LI_red hm hn hP2 (hAb hm0) hm0 x1 x2 x3 x4 y1 y2 y3
    refine lv_icmp_eq (tgt := 457) hx hb dL_law_245 (by decide) (fun _ => ?_) (fun q => absurd (by rw [x0, y0, ← x3, hnew.2.2.2.1]) q)
    exact K A0 b0 1 fA fB f1 g1 v1 d1 gA gB v2 f2 g2 gS ⟨hAb, hbb, hA0, hb1, hA1, hb2, by omega, by have := hnew.2.1.2.2.2.2.1; omega, fun _ => hnew⟩ ls _ _ hl hPx hDx hPm hDm hX hS
  · have hvd0 : vd = 0 := by
      rcases Nat.eq_zero_or_pos vd with q | q
      · exact q
      · exact absurd (hvm (by omega)) hm0
    refine lv_aload_n hx hb dL_law_237 rfl (lv_at hl 1 rfl) ?_
    refine wri_f S (c_X0_reduce0 l D (by omega)) (cwV 0 hts gL_law_X0_reduce rfl rfl rfl (by decide +kernel) ⟨Nat.le_of_ble_eq_true rfl, Nat.le_of_ble_eq_true rfl⟩) rfl hKx (ci := 0) rfl rfl hl.1 (rest := []) rfl (Nat.le_of_ble_eq_true rfl) dL_law_238 ⟨Nat.le_of_ble_eq_true rfl, Nat.le_of_ble_eq_true rfl⟩ hPx hDx hPm hX hS hA (fun r1 u1 H locs er1 hPx hDx hPm hX hS => ?_)
    refine lv_aload_n hx hb dL_law_241 rfl (lv_at hl 2 rfl) ?_
    refine wri_f S (c_X1_reduce0 l D (P := P) (mR := mR) (nC := nC) hvd0) (cwV 0 hts gL_law_X1_reduce rfl rfl rfl (by decide +kernel) ⟨Nat.le_of_ble_eq_true rfl, Nat.le_of_ble_eq_true rfl⟩) rfl hKm (ci := 1) rfl rfl hl.1 (rest := [.int r1]) rfl (Nat.le_of_ble_eq_true rfl) dL_law_242 ⟨Nat.le_of_ble_eq_true rfl, Nat.le_of_ble_eq_true rfl⟩ hPm hDm hPx hX.symm hS hA (fun r2 u2 H locs er2 hPm hDm hPx hX hS => ?_)
    have hX := hX.symm
    refine lv_icmp_eq (tgt := 457) hx hb dL_law_245 (by decide) (fun _ => ?_) (fun q => absurd (by rw [er1, er2]) q)
    exact K A0 b0 rd fA fB fW fP pv pp gA gB rk gR gP gS hLI ls _ _ hl hPx hDx hPm hDm hX hS
set_option maxHeartbeats 4000000 in
set_option maxRecDepth 100000 in
theorem law_rank {p : Program} {l : Launch} {e : Env} {s : State} {m : MethodId} {below : List Frame} {meth : Method} {c : Code} {D : va_G} {b L : Nat} {xs : Nat → Int32} {q1 a1 a2 a3 a4 : Nat} {cA : ClassId} {q2 b1 b2 b3 b4 b5 : Nat} {cJ cI : ClassId} {p9 m9 n9 : Int32} {P mR nC vd : Nat} {i : Nat} (C : LC p l e s m below meth c D b L xs q1 a1 a2 a3 a4 cA q2 b1 b2 b3 b4 b5 cJ cI p9 m9 n9 P mR nC vd i) (hi4 : i + 4 ≤ L) (K : LW p l e s m below meth c D b L xs q1 a1 a2 a3 a4 cA q2 b1 b2 b3 b4 b5 cJ cI p9 m9 n9 P mR nC vd i 457) : LW p l e s m below meth c D b L xs q1 a1 a2 a3 a4 cA q2 b1 b2 b3 b4 b5 cJ cI p9 m9 n9 P mR nC vd i 250 := by
  obtain ⟨C0, hL, hF, hK⟩ := C
  obtain ⟨hx, hb, hr, hml, hown, hts0, hX0, hbl, hlocks, hgv⟩ := id C0
  have hts : ∀ w ∈ wsL_law, w.before #[Value.ref b] s = true := fun w h => hts0 w (wsL_law_in w h)
  have S : CallFix p m c code 4 s #[Value.ref b] wsL_law RL := ⟨hx, hb, hml, hown, hts⟩
  have hA : ∀ q : Nat, s.heap.size ≤ q → (fun q : Nat => s.heap.size ≤ q) q := fun _ h => h
  have hbA : ¬ (fun q : Nat => s.heap.size ≤ q) b := Nat.not_le.mpr hbl
  obtain ⟨hm, hn, hV, hpr, hvd, hVm, hI, hmv, hvm⟩ := hF
  have hKx := hK.sub (tys' := [(cA, .int)]) [0] rfl
  have hKm := hK.sub (tys' := [(cJ, .long), (cI, .int)]) [1, 2] rfl
  intro A0 b0 rd fA fB fW fP pv pp gA gB rk gR gP gS hLI ls H locs hl hPx hDx hPm hDm hX hS
  obtain ⟨hAb, hbb, hA0, hb1, hA1, hb2, hrd, hpv9, hQ⟩ := id hLI
  have hQx := fun h => (⟨(hQ h).1, (hQ h).2.1⟩ : 0 < mR ∧ PbQ P mR nC fW fP pv pp (redN P mR (q00 nC A0) nC).1 (rowOf (redN P mR (q00 nC A0) nC).2.2.2 (redN P mR (q00 nC A0) nC).2.1))
  have hQm := fun h => (⟨hmv (hQ h).1, (hQ h).2.2.1⟩ : vd ≠ 0 ∧ MdQ P mR nC rk gR gP (redN P mR (q00 nC A0) nC).1 (redN P mR (q00 nC A0) nC).2.2.2)
  have hpvq := fun h => (hQ h).2.2.2.1
  have hrkq := fun h => (hQ h).2.2.2.2.2
  have hAbm := fun h => hAb (hvm h)
  have hbbm := fun h => hbb (hvm h)
  refine lv_aload_n hx hb dL_law_250 rfl (lv_at hl 1 rfl) ?_
  refine rdv_2 S (c_X0_rank l D hrd) (cwV 0 hts gL_law_X0_rank rfl rfl rfl (by decide +kernel) ⟨Nat.le_of_ble_eq_true rfl, Nat.le_of_ble_eq_true rfl⟩) rfl hKx hPx (ci := 0) rfl rfl hl.1 (rest := []) rfl (Nat.le_of_ble_eq_true rfl) dL_law_251 ⟨Nat.le_of_ble_eq_true rfl, Nat.le_of_ble_eq_true rfl⟩ hPm hS hA (fun r1 H locs er1 hPx hPm hS => ?_)
  refine lv_aload_n hx hb dL_law_254 rfl (lv_at hl 2 rfl) ?_
  refine wri_f S (c_X1_rank l D (P := P) (mR := mR) (nC := nC) hrd) (cwV 0 hts gL_law_X1_rank rfl rfl rfl (by decide +kernel) ⟨Nat.le_of_ble_eq_true rfl, Nat.le_of_ble_eq_true rfl⟩) rfl hKm (ci := 1) rfl rfl hl.1 (rest := [.int r1]) rfl (Nat.le_of_ble_eq_true rfl) dL_law_255 ⟨Nat.le_of_ble_eq_true rfl, Nat.le_of_ble_eq_true rfl⟩ hPm hDm hPx hX.symm hS hA (fun r2 u2 H locs er2 hPm hDm hPx hX hS => ?_)
  have hX := hX.symm
  have e12 : r1 = r2 := by
    rw [er1, er2]
    by_cases h0 : rd = 0
    · simp [sRank, h0]
    · rw [hpvq h0, hrkq h0]
  refine lv_icmp_eq (tgt := 457) hx hb dL_law_258 (by decide) (fun _ => ?_) (fun q => absurd (e12) q)
  exact K A0 b0 rd fA fB fW fP pv pp gA gB rk gR gP gS hLI ls _ _ hl hPx hDx hPm hDm hX hS
set_option maxHeartbeats 4000000 in
set_option maxRecDepth 100000 in
theorem law_rrefAt {p : Program} {l : Launch} {e : Env} {s : State} {m : MethodId} {below : List Frame} {meth : Method} {c : Code} {D : va_G} {b L : Nat} {xs : Nat → Int32} {q1 a1 a2 a3 a4 : Nat} {cA : ClassId} {q2 b1 b2 b3 b4 b5 : Nat} {cJ cI : ClassId} {p9 m9 n9 : Int32} {P mR nC vd : Nat} {i : Nat} (C : LC p l e s m below meth c D b L xs q1 a1 a2 a3 a4 cA q2 b1 b2 b3 b4 b5 cJ cI p9 m9 n9 P mR nC vd i) (hi4 : i + 4 ≤ L) (K : LW p l e s m below meth c D b L xs q1 a1 a2 a3 a4 cA q2 b1 b2 b3 b4 b5 cJ cI p9 m9 n9 P mR nC vd i 457) : LW p l e s m below meth c D b L xs q1 a1 a2 a3 a4 cA q2 b1 b2 b3 b4 b5 cJ cI p9 m9 n9 P mR nC vd i 263 := by
  obtain ⟨C0, hL, hF, hK⟩ := C
  obtain ⟨hx, hb, hr, hml, hown, hts0, hX0, hbl, hlocks, hgv⟩ := id C0
  have hts : ∀ w ∈ wsL_law, w.before #[Value.ref b] s = true := fun w h => hts0 w (wsL_law_in w h)
  have S : CallFix p m c code 4 s #[Value.ref b] wsL_law RL := ⟨hx, hb, hml, hown, hts⟩
  have hA : ∀ q : Nat, s.heap.size ≤ q → (fun q : Nat => s.heap.size ≤ q) q := fun _ h => h
  have hbA : ¬ (fun q : Nat => s.heap.size ≤ q) b := Nat.not_le.mpr hbl
  obtain ⟨hm, hn, hV, hpr, hvd, hVm, hI, hmv, hvm⟩ := hF
  have hKx := hK.sub (tys' := [(cA, .int)]) [0] rfl
  have hKm := hK.sub (tys' := [(cJ, .long), (cI, .int)]) [1, 2] rfl
  intro A0 b0 rd fA fB fW fP pv pp gA gB rk gR gP gS hLI ls H locs hl hPx hDx hPm hDm hX hS
  obtain ⟨hAb, hbb, hA0, hb1, hA1, hb2, hrd, hpv9, hQ⟩ := id hLI
  have hQx := fun h => (⟨(hQ h).1, (hQ h).2.1⟩ : 0 < mR ∧ PbQ P mR nC fW fP pv pp (redN P mR (q00 nC A0) nC).1 (rowOf (redN P mR (q00 nC A0) nC).2.2.2 (redN P mR (q00 nC A0) nC).2.1))
  have hQm := fun h => (⟨hmv (hQ h).1, (hQ h).2.2.1⟩ : vd ≠ 0 ∧ MdQ P mR nC rk gR gP (redN P mR (q00 nC A0) nC).1 (redN P mR (q00 nC A0) nC).2.2.2)
  have hpvq := fun h => (hQ h).2.2.2.1
  have hrkq := fun h => (hQ h).2.2.2.2.2
  have hAbm := fun h => hAb (hvm h)
  have hbbm := fun h => hbb (hvm h)
  refine lv_aload_n hx hb dL_law_263 rfl (lv_at hl 1 rfl) ?_
  refine lv_aload_n hx hb dL_law_264 rfl (lv_at hl 0 rfl) ?_
  refine lv_iload_n hx hb dL_law_265 rfl (lv_at hl 3 rfl) ?_
  refine lv_iconst (v := nI 1) hx hb dL_law_266 (by decide +kernel) ?_
  refine nv_iadd hx hb dL_law_267 ?_
  refine nv_sld hx hb hX0 hbl hbA hS (k := i + 1) (by omega) (by omega) dL_law_268 ?_
  refine lv_aload_n hx hb dL_law_269 rfl (lv_at hl 0 rfl) ?_
  refine lv_iload_n hx hb dL_law_270 rfl (lv_at hl 3 rfl) ?_
  refine lv_iconst (v := nI 2) hx hb dL_law_271 (by decide +kernel) ?_
  refine nv_iadd hx hb dL_law_272 ?_
  refine nv_sld hx hb hX0 hbl hbA hS (k := i + 2) (by omega) (by omega) dL_law_273 ?_
  refine rdv_2 S (c_X0_rrefAt l D (xs (i + 1)) (xs (i + 2)) hm hn hV hrd hQx) (cwV 2 hts gL_law_X0_rrefAt rfl rfl rfl (by decide +kernel) ⟨Nat.le_of_ble_eq_true rfl, Nat.le_of_ble_eq_true rfl⟩) rfl hKx hPx (ci := 0) rfl rfl hl.1 (rest := []) rfl (Nat.le_of_ble_eq_true rfl) dL_law_274 ⟨Nat.le_of_ble_eq_true rfl, Nat.le_of_ble_eq_true rfl⟩ hPm hS hA (fun r1 H locs er1 hPx hPm hS => ?_)
  refine lv_aload_n hx hb dL_law_277 rfl (lv_at hl 2 rfl) ?_
  refine lv_aload_n hx hb dL_law_278 rfl (lv_at hl 0 rfl) ?_
  refine lv_iload_n hx hb dL_law_279 rfl (lv_at hl 3 rfl) ?_
  refine lv_iconst (v := nI 1) hx hb dL_law_280 (by decide +kernel) ?_
  refine nv_iadd hx hb dL_law_281 ?_
  refine nv_sld hx hb hX0 hbl hbA hS (k := i + 1) (by omega) (by omega) dL_law_282 ?_
  refine lv_aload_n hx hb dL_law_283 rfl (lv_at hl 0 rfl) ?_
  refine lv_iload_n hx hb dL_law_284 rfl (lv_at hl 3 rfl) ?_
  refine lv_iconst (v := nI 2) hx hb dL_law_285 (by decide +kernel) ?_
  refine nv_iadd hx hb dL_law_286 ?_
  refine nv_sld hx hb hX0 hbl hbA hS (k := i + 2) (by omega) (by omega) dL_law_287 ?_
  refine wri_f S (c_X1_rrefAt l D (xs (i + 1)) (xs (i + 2)) hvd hVm hI hrd hQm) (cwV 2 hts gL_law_X1_rrefAt rfl rfl rfl (by decide +kernel) ⟨Nat.le_of_ble_eq_true rfl, Nat.le_of_ble_eq_true rfl⟩) rfl hKm (ci := 1) rfl rfl hl.1 (rest := [.int r1]) rfl (Nat.le_of_ble_eq_true rfl) dL_law_288 ⟨Nat.le_of_ble_eq_true rfl, Nat.le_of_ble_eq_true rfl⟩ hPm hDm hPx hX.symm hS hA (fun r2 u2 H locs er2 hPm hDm hPx hX hS => ?_)
  have hX := hX.symm
  have e12 : r1 = r2 := by rw [er1, er2]
  refine lv_icmp_eq (tgt := 457) hx hb dL_law_291 (by decide) (fun _ => ?_) (fun q => absurd (e12) q)
  exact K A0 b0 rd fA fB fW fP pv pp gA gB rk gR gP gS hLI ls _ _ hl hPx hDx hPm hDm hX hS
set_option maxHeartbeats 4000000 in
set_option maxRecDepth 100000 in
theorem law_transformAt {p : Program} {l : Launch} {e : Env} {s : State} {m : MethodId} {below : List Frame} {meth : Method} {c : Code} {D : va_G} {b L : Nat} {xs : Nat → Int32} {q1 a1 a2 a3 a4 : Nat} {cA : ClassId} {q2 b1 b2 b3 b4 b5 : Nat} {cJ cI : ClassId} {p9 m9 n9 : Int32} {P mR nC vd : Nat} {i : Nat} (C : LC p l e s m below meth c D b L xs q1 a1 a2 a3 a4 cA q2 b1 b2 b3 b4 b5 cJ cI p9 m9 n9 P mR nC vd i) (hi4 : i + 4 ≤ L) (K : LW p l e s m below meth c D b L xs q1 a1 a2 a3 a4 cA q2 b1 b2 b3 b4 b5 cJ cI p9 m9 n9 P mR nC vd i 457) : LW p l e s m below meth c D b L xs q1 a1 a2 a3 a4 cA q2 b1 b2 b3 b4 b5 cJ cI p9 m9 n9 P mR nC vd i 296 := by
  obtain ⟨C0, hL, hF, hK⟩ := C
  obtain ⟨hx, hb, hr, hml, hown, hts0, hX0, hbl, hlocks, hgv⟩ := id C0
  have hts : ∀ w ∈ wsL_law, w.before #[Value.ref b] s = true := fun w h => hts0 w (wsL_law_in w h)
  have S : CallFix p m c code 4 s #[Value.ref b] wsL_law RL := ⟨hx, hb, hml, hown, hts⟩
  have hA : ∀ q : Nat, s.heap.size ≤ q → (fun q : Nat => s.heap.size ≤ q) q := fun _ h => h
  have hbA : ¬ (fun q : Nat => s.heap.size ≤ q) b := Nat.not_le.mpr hbl
  obtain ⟨hm, hn, hV, hpr, hvd, hVm, hI, hmv, hvm⟩ := hF
  have hKx := hK.sub (tys' := [(cA, .int)]) [0] rfl
  have hKm := hK.sub (tys' := [(cJ, .long), (cI, .int)]) [1, 2] rfl
  intro A0 b0 rd fA fB fW fP pv pp gA gB rk gR gP gS hLI ls H locs hl hPx hDx hPm hDm hX hS
  obtain ⟨hAb, hbb, hA0, hb1, hA1, hb2, hrd, hpv9, hQ⟩ := id hLI
  have hQx := fun h => (⟨(hQ h).1, (hQ h).2.1⟩ : 0 < mR ∧ PbQ P mR nC fW fP pv pp (redN P mR (q00 nC A0) nC).1 (rowOf (redN P mR (q00 nC A0) nC).2.2.2 (redN P mR (q00 nC A0) nC).2.1))
  have hQm := fun h => (⟨hmv (hQ h).1, (hQ h).2.2.1⟩ : vd ≠ 0 ∧ MdQ P mR nC rk gR gP (redN P mR (q00 nC A0) nC).1 (redN P mR (q00 nC A0) nC).2.2.2)
  have hpvq := fun h => (hQ h).2.2.2.1
  have hrkq := fun h => (hQ h).2.2.2.2.2
  have hAbm := fun h => hAb (hvm h)
  have hbbm := fun h => hbb (hvm h)
  refine lv_aload_n hx hb dL_law_296 rfl (lv_at hl 1 rfl) ?_
  refine lv_aload_n hx hb dL_law_297 rfl (lv_at hl 0 rfl) ?_
  refine lv_iload_n hx hb dL_law_298 rfl (lv_at hl 3 rfl) ?_
  refine lv_iconst (v := nI 1) hx hb dL_law_299 (by decide +kernel) ?_
  refine nv_iadd hx hb dL_law_300 ?_
  refine nv_sld hx hb hX0 hbl hbA hS (k := i + 1) (by omega) (by omega) dL_law_301 ?_
  refine lv_aload_n hx hb dL_law_302 rfl (lv_at hl 0 rfl) ?_
  refine lv_iload_n hx hb dL_law_303 rfl (lv_at hl 3 rfl) ?_
  refine lv_iconst (v := nI 2) hx hb dL_law_304 (by decide +kernel) ?_
  refine nv_iadd hx hb dL_law_305 ?_
  refine nv_sld hx hb hX0 hbl hbA hS (k := i + 2) (by omega) (by omega) dL_law_306 ?_
  refine rdv_2 S (c_X0_transformAt l D (xs (i + 1)) (xs (i + 2)) hm hn hV hrd hQx) (cwV 2 hts gL_law_X0_transformAt rfl rfl rfl (by decide +kernel) ⟨Nat.le_of_ble_eq_true rfl, Nat.le_of_ble_eq_true rfl⟩) rfl hKx hPx (ci := 0) rfl rfl hl.1 (rest := []) rfl (Nat.le_of_ble_eq_true rfl) dL_law_307 ⟨Nat.le_of_ble_eq_true rfl, Nat.le_of_ble_eq_true rfl⟩ hPm hS hA (fun r1 H locs er1 hPx hPm hS => ?_)
  refine lv_aload_n hx hb dL_law_310 rfl (lv_at hl 2 rfl) ?_
  refine lv_aload_n hx hb dL_law_311 rfl (lv_at hl 0 rfl) ?_
  refine lv_iload_n hx hb dL_law_312 rfl (lv_at hl 3 rfl) ?_
  refine lv_iconst (v := nI 1) hx hb dL_law_313 (by decide +kernel) ?_
  refine nv_iadd hx hb dL_law_314 ?_
  refine nv_sld hx hb hX0 hbl hbA hS (k := i + 1) (by omega) (by omega) dL_law_315 ?_
  refine lv_aload_n hx hb dL_law_316 rfl (lv_at hl 0 rfl) ?_
  refine lv_iload_n hx hb dL_law_317 rfl (lv_at hl 3 rfl) ?_
  refine lv_iconst (v := nI 2) hx hb dL_law_318 (by decide +kernel) ?_
  refine nv_iadd hx hb dL_law_319 ?_
  refine nv_sld hx hb hX0 hbl hbA hS (k := i + 2) (by omega) (by omega) dL_law_320 ?_
  refine wri_f S (c_X1_transformAt l D (xs (i + 1)) (xs (i + 2)) hvd hVm hI hrd hQm) (cwV 2 hts gL_law_X1_transformAt rfl rfl rfl (by decide +kernel) ⟨Nat.le_of_ble_eq_true rfl, Nat.le_of_ble_eq_true rfl⟩) rfl hKm (ci := 1) rfl rfl hl.1 (rest := [.int r1]) rfl (Nat.le_of_ble_eq_true rfl) dL_law_321 ⟨Nat.le_of_ble_eq_true rfl, Nat.le_of_ble_eq_true rfl⟩ hPm hDm hPx hX.symm hS hA (fun r2 u2 H locs er2 hPm hDm hPx hX hS => ?_)
  have hX := hX.symm
  have e12 : r1 = r2 := by rw [er1, er2]
  refine lv_icmp_eq (tgt := 457) hx hb dL_law_324 (by decide) (fun _ => ?_) (fun q => absurd (e12) q)
  exact K A0 b0 rd fA fB fW fP pv pp gA gB rk gR gP gS hLI ls _ _ hl hPx hDx hPm hDm hX hS
set_option maxHeartbeats 4000000 in
set_option maxRecDepth 100000 in
theorem law_det {p : Program} {l : Launch} {e : Env} {s : State} {m : MethodId} {below : List Frame} {meth : Method} {c : Code} {D : va_G} {b L : Nat} {xs : Nat → Int32} {q1 a1 a2 a3 a4 : Nat} {cA : ClassId} {q2 b1 b2 b3 b4 b5 : Nat} {cJ cI : ClassId} {p9 m9 n9 : Int32} {P mR nC vd : Nat} {i : Nat} (C : LC p l e s m below meth c D b L xs q1 a1 a2 a3 a4 cA q2 b1 b2 b3 b4 b5 cJ cI p9 m9 n9 P mR nC vd i) (hi4 : i + 4 ≤ L) (K : LW p l e s m below meth c D b L xs q1 a1 a2 a3 a4 cA q2 b1 b2 b3 b4 b5 cJ cI p9 m9 n9 P mR nC vd i 457) : LW p l e s m below meth c D b L xs q1 a1 a2 a3 a4 cA q2 b1 b2 b3 b4 b5 cJ cI p9 m9 n9 P mR nC vd i 329 := by
  obtain ⟨C0, hL, hF, hK⟩ := C
  obtain ⟨hx, hb, hr, hml, hown, hts0, hX0, hbl, hlocks, hgv⟩ := id C0
  have hts : ∀ w ∈ wsL_law, w.before #[Value.ref b] s = true := fun w h => hts0 w (wsL_law_in w h)
  have S : CallFix p m c code 4 s #[Value.ref b] wsL_law RL := ⟨hx, hb, hml, hown, hts⟩
  have hA : ∀ q : Nat, s.heap.size ≤ q → (fun q : Nat => s.heap.size ≤ q) q := fun _ h => h
  have hbA : ¬ (fun q : Nat => s.heap.size ≤ q) b := Nat.not_le.mpr hbl
  obtain ⟨hm, hn, hV, hpr, hvd, hVm, hI, hmv, hvm⟩ := hF
  have hKx := hK.sub (tys' := [(cA, .int)]) [0] rfl
  have hKm := hK.sub (tys' := [(cJ, .long), (cI, .int)]) [1, 2] rfl
  intro A0 b0 rd fA fB fW fP pv pp gA gB rk gR gP gS hLI ls H locs hl hPx hDx hPm hDm hX hS
  obtain ⟨hAb, hbb, hA0, hb1, hA1, hb2, hrd, hpv9, hQ⟩ := id hLI
  have hQx := fun h => (⟨(hQ h).1, (hQ h).2.1⟩ : 0 < mR ∧ PbQ P mR nC fW fP pv pp (redN P mR (q00 nC A0) nC).1 (rowOf (redN P mR (q00 nC A0) nC).2.2.2 (redN P mR (q00 nC A0) nC).2.1))
  have hQm := fun h => (⟨hmv (hQ h).1, (hQ h).2.2.1⟩ : vd ≠ 0 ∧ MdQ P mR nC rk gR gP (redN P mR (q00 nC A0) nC).1 (redN P mR (q00 nC A0) nC).2.2.2)
  have hpvq := fun h => (hQ h).2.2.2.1
  have hrkq := fun h => (hQ h).2.2.2.2.2
  have hAbm := fun h => hAb (hvm h)
  have hbbm := fun h => hbb (hvm h)
  refine lv_aload_n hx hb dL_law_329 rfl (lv_at hl 1 rfl) ?_
  refine rdv_2 S (c_X0_det l D hm hn hV hrd hQx) (cwV 0 hts gL_law_X0_det rfl rfl rfl (by decide +kernel) ⟨Nat.le_of_ble_eq_true rfl, Nat.le_of_ble_eq_true rfl⟩) rfl hKx hPx (ci := 0) rfl rfl hl.1 (rest := []) rfl (Nat.le_of_ble_eq_true rfl) dL_law_330 ⟨Nat.le_of_ble_eq_true rfl, Nat.le_of_ble_eq_true rfl⟩ hPm hS hA (fun r1 H locs er1 hPx hPm hS => ?_)
  refine lv_aload_n hx hb dL_law_333 rfl (lv_at hl 2 rfl) ?_
  refine wri_f S (c_X1_det l D (A0 := A0) hvd hVm hI hrd hQm hAbm hA1) (cwV 0 hts gL_law_X1_det rfl rfl rfl (by decide +kernel) ⟨Nat.le_of_ble_eq_true rfl, Nat.le_of_ble_eq_true rfl⟩) rfl hKm (ci := 1) rfl rfl hl.1 (rest := [.int r1]) rfl (Nat.le_of_ble_eq_true rfl) dL_law_334 ⟨Nat.le_of_ble_eq_true rfl, Nat.le_of_ble_eq_true rfl⟩ hPm hDm hPx hX.symm hS hA (fun r2 u2 H locs er2 hPm hDm hPx hX hS => ?_)
  have hX := hX.symm
  have e12 : r1 = r2 := by
    rw [er1, er2]
    exact det_both hn hpr hAb (fun h => ⟨(hQ h).1, (hQ h).2.2.2.1, (hQ h).2.2.2.2.1⟩)
  refine lv_icmp_eq (tgt := 457) hx hb dL_law_337 (by decide) (fun _ => ?_) (fun q => absurd (e12) q)
  exact K A0 b0 rd fA fB fW fP pv pp gA gB rk gR gP u2 hLI ls _ _ hl hPx hDx hPm hDm hX hS
set_option maxHeartbeats 4000000 in
set_option maxRecDepth 100000 in
theorem law_inverseAt {p : Program} {l : Launch} {e : Env} {s : State} {m : MethodId} {below : List Frame} {meth : Method} {c : Code} {D : va_G} {b L : Nat} {xs : Nat → Int32} {q1 a1 a2 a3 a4 : Nat} {cA : ClassId} {q2 b1 b2 b3 b4 b5 : Nat} {cJ cI : ClassId} {p9 m9 n9 : Int32} {P mR nC vd : Nat} {i : Nat} (C : LC p l e s m below meth c D b L xs q1 a1 a2 a3 a4 cA q2 b1 b2 b3 b4 b5 cJ cI p9 m9 n9 P mR nC vd i) (hi4 : i + 4 ≤ L) (K : LW p l e s m below meth c D b L xs q1 a1 a2 a3 a4 cA q2 b1 b2 b3 b4 b5 cJ cI p9 m9 n9 P mR nC vd i 457) : LW p l e s m below meth c D b L xs q1 a1 a2 a3 a4 cA q2 b1 b2 b3 b4 b5 cJ cI p9 m9 n9 P mR nC vd i 342 := by
  obtain ⟨C0, hL, hF, hK⟩ := C
  obtain ⟨hx, hb, hr, hml, hown, hts0, hX0, hbl, hlocks, hgv⟩ := id C0
  have hts : ∀ w ∈ wsL_law, w.before #[Value.ref b] s = true := fun w h => hts0 w (wsL_law_in w h)
  have S : CallFix p m c code 4 s #[Value.ref b] wsL_law RL := ⟨hx, hb, hml, hown, hts⟩
  have hA : ∀ q : Nat, s.heap.size ≤ q → (fun q : Nat => s.heap.size ≤ q) q := fun _ h => h
  have hbA : ¬ (fun q : Nat => s.heap.size ≤ q) b := Nat.not_le.mpr hbl
  obtain ⟨hm, hn, hV, hpr, hvd, hVm, hI, hmv, hvm⟩ := hF
  have hKx := hK.sub (tys' := [(cA, .int)]) [0] rfl
  have hKm := hK.sub (tys' := [(cJ, .long), (cI, .int)]) [1, 2] rfl
  intro A0 b0 rd fA fB fW fP pv pp gA gB rk gR gP gS hLI ls H locs hl hPx hDx hPm hDm hX hS
  obtain ⟨hAb, hbb, hA0, hb1, hA1, hb2, hrd, hpv9, hQ⟩ := id hLI
  have hQx := fun h => (⟨(hQ h).1, (hQ h).2.1⟩ : 0 < mR ∧ PbQ P mR nC fW fP pv pp (redN P mR (q00 nC A0) nC).1 (rowOf (redN P mR (q00 nC A0) nC).2.2.2 (redN P mR (q00 nC A0) nC).2.1))
  have hQm := fun h => (⟨hmv (hQ h).1, (hQ h).2.2.1⟩ : vd ≠ 0 ∧ MdQ P mR nC rk gR gP (redN P mR (q00 nC A0) nC).1 (redN P mR (q00 nC A0) nC).2.2.2)
  have hpvq := fun h => (hQ h).2.2.2.1
  have hrkq := fun h => (hQ h).2.2.2.2.2
  have hAbm := fun h => hAb (hvm h)
  have hbbm := fun h => hbb (hvm h)
  refine lv_aload_n hx hb dL_law_342 rfl (lv_at hl 1 rfl) ?_
  refine lv_aload_n hx hb dL_law_343 rfl (lv_at hl 0 rfl) ?_
  refine lv_iload_n hx hb dL_law_344 rfl (lv_at hl 3 rfl) ?_
  refine lv_iconst (v := nI 1) hx hb dL_law_345 (by decide +kernel) ?_
  refine nv_iadd hx hb dL_law_346 ?_
  refine nv_sld hx hb hX0 hbl hbA hS (k := i + 1) (by omega) (by omega) dL_law_347 ?_
  refine lv_aload_n hx hb dL_law_348 rfl (lv_at hl 0 rfl) ?_
  refine lv_iload_n hx hb dL_law_349 rfl (lv_at hl 3 rfl) ?_
  refine lv_iconst (v := nI 2) hx hb dL_law_350 (by decide +kernel) ?_
  refine nv_iadd hx hb dL_law_351 ?_
  refine nv_sld hx hb hX0 hbl hbA hS (k := i + 2) (by omega) (by omega) dL_law_352 ?_
  refine rdv_2 S (c_X0_inverseAt l D (xs (i + 1)) (xs (i + 2)) hm hn hV hrd hQx hpv9) (cwV 2 hts gL_law_X0_inverseAt rfl rfl rfl (by decide +kernel) ⟨Nat.le_of_ble_eq_true rfl, Nat.le_of_ble_eq_true rfl⟩) rfl hKx hPx (ci := 0) rfl rfl hl.1 (rest := []) rfl (Nat.le_of_ble_eq_true rfl) dL_law_353 ⟨Nat.le_of_ble_eq_true rfl, Nat.le_of_ble_eq_true rfl⟩ hPm hS hA (fun r1 H locs er1 hPx hPm hS => ?_)
  refine lv_aload_n hx hb dL_law_356 rfl (lv_at hl 2 rfl) ?_
  refine lv_aload_n hx hb dL_law_357 rfl (lv_at hl 0 rfl) ?_
  refine lv_iload_n hx hb dL_law_358 rfl (lv_at hl 3 rfl) ?_
  refine lv_iconst (v := nI 1) hx hb dL_law_359 (by decide +kernel) ?_
  refine nv_iadd hx hb dL_law_360 ?_
  refine nv_sld hx hb hX0 hbl hbA hS (k := i + 1) (by omega) (by omega) dL_law_361 ?_
  refine lv_aload_n hx hb dL_law_362 rfl (lv_at hl 0 rfl) ?_
  refine lv_iload_n hx hb dL_law_363 rfl (lv_at hl 3 rfl) ?_
  refine lv_iconst (v := nI 2) hx hb dL_law_364 (by decide +kernel) ?_
  refine nv_iadd hx hb dL_law_365 ?_
  refine nv_sld hx hb hX0 hbl hbA hS (k := i + 2) (by omega) (by omega) dL_law_366 ?_
  refine wri_f S (c_X1_inverseAt l D (xs (i + 1)) (xs (i + 2)) hvd hVm hI hrd hQm) (cwV 2 hts gL_law_X1_inverseAt rfl rfl rfl (by decide +kernel) ⟨Nat.le_of_ble_eq_true rfl, Nat.le_of_ble_eq_true rfl⟩) rfl hKm (ci := 1) rfl rfl hl.1 (rest := [.int r1]) rfl (Nat.le_of_ble_eq_true rfl) dL_law_367 ⟨Nat.le_of_ble_eq_true rfl, Nat.le_of_ble_eq_true rfl⟩ hPm hDm hPx hX.symm hS hA (fun r2 u2 H locs er2 hPm hDm hPx hX hS => ?_)
  have hX := hX.symm
  have e12 : r1 = r2 := by
    rw [er1, er2]
    by_cases h0 : rd = 0
    · simp [sInv, h0]
    · rw [hpvq h0, hrkq h0]
  refine lv_icmp_eq (tgt := 457) hx hb dL_law_370 (by decide) (fun _ => ?_) (fun q => absurd (e12) q)
  exact K A0 b0 rd fA fB fW fP pv pp gA gB rk gR gP gS hLI ls _ _ hl hPx hDx hPm hDm hX hS
set_option maxHeartbeats 4000000 in
set_option maxRecDepth 100000 in
theorem law_solvable {p : Program} {l : Launch} {e : Env} {s : State} {m : MethodId} {below : List Frame} {meth : Method} {c : Code} {D : va_G} {b L : Nat} {xs : Nat → Int32} {q1 a1 a2 a3 a4 : Nat} {cA : ClassId} {q2 b1 b2 b3 b4 b5 : Nat} {cJ cI : ClassId} {p9 m9 n9 : Int32} {P mR nC vd : Nat} {i : Nat} (C : LC p l e s m below meth c D b L xs q1 a1 a2 a3 a4 cA q2 b1 b2 b3 b4 b5 cJ cI p9 m9 n9 P mR nC vd i) (hi4 : i + 4 ≤ L) (K : LW p l e s m below meth c D b L xs q1 a1 a2 a3 a4 cA q2 b1 b2 b3 b4 b5 cJ cI p9 m9 n9 P mR nC vd i 457) : LW p l e s m below meth c D b L xs q1 a1 a2 a3 a4 cA q2 b1 b2 b3 b4 b5 cJ cI p9 m9 n9 P mR nC vd i 375 := by
  obtain ⟨C0, hL, hF, hK⟩ := C
  obtain ⟨hx, hb, hr, hml, hown, hts0, hX0, hbl, hlocks, hgv⟩ := id C0
  have hts : ∀ w ∈ wsL_law, w.before #[Value.ref b] s = true := fun w h => hts0 w (wsL_law_in w h)
  have S : CallFix p m c code 4 s #[Value.ref b] wsL_law RL := ⟨hx, hb, hml, hown, hts⟩
  have hA : ∀ q : Nat, s.heap.size ≤ q → (fun q : Nat => s.heap.size ≤ q) q := fun _ h => h
  have hbA : ¬ (fun q : Nat => s.heap.size ≤ q) b := Nat.not_le.mpr hbl
  obtain ⟨hm, hn, hV, hpr, hvd, hVm, hI, hmv, hvm⟩ := hF
  have hKx := hK.sub (tys' := [(cA, .int)]) [0] rfl
  have hKm := hK.sub (tys' := [(cJ, .long), (cI, .int)]) [1, 2] rfl
  intro A0 b0 rd fA fB fW fP pv pp gA gB rk gR gP gS hLI ls H locs hl hPx hDx hPm hDm hX hS
  obtain ⟨hAb, hbb, hA0, hb1, hA1, hb2, hrd, hpv9, hQ⟩ := id hLI
  have hQx := fun h => (⟨(hQ h).1, (hQ h).2.1⟩ : 0 < mR ∧ PbQ P mR nC fW fP pv pp (redN P mR (q00 nC A0) nC).1 (rowOf (redN P mR (q00 nC A0) nC).2.2.2 (redN P mR (q00 nC A0) nC).2.1))
  have hQm := fun h => (⟨hmv (hQ h).1, (hQ h).2.2.1⟩ : vd ≠ 0 ∧ MdQ P mR nC rk gR gP (redN P mR (q00 nC A0) nC).1 (redN P mR (q00 nC A0) nC).2.2.2)
  have hpvq := fun h => (hQ h).2.2.2.1
  have hrkq := fun h => (hQ h).2.2.2.2.2
  have hAbm := fun h => hAb (hvm h)
  have hbbm := fun h => hbb (hvm h)
  refine lv_aload_n hx hb dL_law_375 rfl (lv_at hl 1 rfl) ?_
  refine rdv_2 S (c_X0_solvable l D (b := b0) hm hn hV hrd hQx hbb hb1) (cwV 0 hts gL_law_X0_solvable rfl rfl rfl (by decide +kernel) ⟨Nat.le_of_ble_eq_true rfl, Nat.le_of_ble_eq_true rfl⟩) rfl hKx hPx (ci := 0) rfl rfl hl.1 (rest := []) rfl (Nat.le_of_ble_eq_true rfl) dL_law_376 ⟨Nat.le_of_ble_eq_true rfl, Nat.le_of_ble_eq_true rfl⟩ hPm hS hA (fun r1 H locs er1 hPx hPm hS => ?_)
  refine lv_aload_n hx hb dL_law_379 rfl (lv_at hl 2 rfl) ?_
  refine wri_f S (c_X1_solvable l D (b := b0) hvd hVm hI hrd hQm hbbm hb2) (cwV 0 hts gL_law_X1_solvable rfl rfl rfl (by decide +kernel) ⟨Nat.le_of_ble_eq_true rfl, Nat.le_of_ble_eq_true rfl⟩) rfl hKm (ci := 1) rfl rfl hl.1 (rest := [.int r1]) rfl (Nat.le_of_ble_eq_true rfl) dL_law_380 ⟨Nat.le_of_ble_eq_true rfl, Nat.le_of_ble_eq_true rfl⟩ hPm hDm hPx hX.symm hS hA (fun r2 u2 H locs er2 hPm hDm hPx hX hS => ?_)
  have hX := hX.symm
  have e12 : r1 = r2 := by
    rw [er1, er2]
    by_cases h0 : rd = 0
    · simp [sSlv, h0]
    · rw [hpvq h0, hrkq h0]
  refine lv_icmp_eq (tgt := 457) hx hb dL_law_383 (by decide) (fun _ => ?_) (fun q => absurd (e12) q)
  exact K A0 b0 rd fA fB fW fP pv pp gA gB rk gR gP gS hLI ls _ _ hl hPx hDx hPm hDm hX hS
set_option maxHeartbeats 4000000 in
set_option maxRecDepth 100000 in
theorem law_solution {p : Program} {l : Launch} {e : Env} {s : State} {m : MethodId} {below : List Frame} {meth : Method} {c : Code} {D : va_G} {b L : Nat} {xs : Nat → Int32} {q1 a1 a2 a3 a4 : Nat} {cA : ClassId} {q2 b1 b2 b3 b4 b5 : Nat} {cJ cI : ClassId} {p9 m9 n9 : Int32} {P mR nC vd : Nat} {i : Nat} (C : LC p l e s m below meth c D b L xs q1 a1 a2 a3 a4 cA q2 b1 b2 b3 b4 b5 cJ cI p9 m9 n9 P mR nC vd i) (hi4 : i + 4 ≤ L) (K : LW p l e s m below meth c D b L xs q1 a1 a2 a3 a4 cA q2 b1 b2 b3 b4 b5 cJ cI p9 m9 n9 P mR nC vd i 457) : LW p l e s m below meth c D b L xs q1 a1 a2 a3 a4 cA q2 b1 b2 b3 b4 b5 cJ cI p9 m9 n9 P mR nC vd i 388 := by
  obtain ⟨C0, hL, hF, hK⟩ := C
  obtain ⟨hx, hb, hr, hml, hown, hts0, hX0, hbl, hlocks, hgv⟩ := id C0
  have hts : ∀ w ∈ wsL_law, w.before #[Value.ref b] s = true := fun w h => hts0 w (wsL_law_in w h)
  have S : CallFix p m c code 4 s #[Value.ref b] wsL_law RL := ⟨hx, hb, hml, hown, hts⟩
  have hA : ∀ q : Nat, s.heap.size ≤ q → (fun q : Nat => s.heap.size ≤ q) q := fun _ h => h
  have hbA : ¬ (fun q : Nat => s.heap.size ≤ q) b := Nat.not_le.mpr hbl
  obtain ⟨hm, hn, hV, hpr, hvd, hVm, hI, hmv, hvm⟩ := hF
  have hKx := hK.sub (tys' := [(cA, .int)]) [0] rfl
  have hKm := hK.sub (tys' := [(cJ, .long), (cI, .int)]) [1, 2] rfl
  intro A0 b0 rd fA fB fW fP pv pp gA gB rk gR gP gS hLI ls H locs hl hPx hDx hPm hDm hX hS
  obtain ⟨hAb, hbb, hA0, hb1, hA1, hb2, hrd, hpv9, hQ⟩ := id hLI
  have hQx := fun h => (⟨(hQ h).1, (hQ h).2.1⟩ : 0 < mR ∧ PbQ P mR nC fW fP pv pp (redN P mR (q00 nC A0) nC).1 (rowOf (redN P mR (q00 nC A0) nC).2.2.2 (redN P mR (q00 nC A0) nC).2.1))
  have hQm := fun h => (⟨hmv (hQ h).1, (hQ h).2.2.1⟩ : vd ≠ 0 ∧ MdQ P mR nC rk gR gP (redN P mR (q00 nC A0) nC).1 (redN P mR (q00 nC A0) nC).2.2.2)
  have hpvq := fun h => (hQ h).2.2.2.1
  have hrkq := fun h => (hQ h).2.2.2.2.2
  have hAbm := fun h => hAb (hvm h)
  have hbbm := fun h => hbb (hvm h)
  refine lv_aload_n hx hb dL_law_388 rfl (lv_at hl 1 rfl) ?_
  refine lv_aload_n hx hb dL_law_389 rfl (lv_at hl 0 rfl) ?_
  refine lv_iload_n hx hb dL_law_390 rfl (lv_at hl 3 rfl) ?_
  refine lv_iconst (v := nI 1) hx hb dL_law_391 (by decide +kernel) ?_
  refine nv_iadd hx hb dL_law_392 ?_
  refine nv_sld hx hb hX0 hbl hbA hS (k := i + 1) (by omega) (by omega) dL_law_393 ?_
  refine rdv_2 S (c_X0_solution l D (b := b0) (xs (i + 1)) hm hn hV hrd hQx hbb hb1) (cwV 1 hts gL_law_X0_solution rfl rfl rfl (by decide +kernel) ⟨Nat.le_of_ble_eq_true rfl, Nat.le_of_ble_eq_true rfl⟩) rfl hKx hPx (ci := 0) rfl rfl hl.1 (rest := []) rfl (Nat.le_of_ble_eq_true rfl) dL_law_394 ⟨Nat.le_of_ble_eq_true rfl, Nat.le_of_ble_eq_true rfl⟩ hPm hS hA (fun r1 H locs er1 hPx hPm hS => ?_)
  refine lv_aload_n hx hb dL_law_397 rfl (lv_at hl 2 rfl) ?_
  refine lv_aload_n hx hb dL_law_398 rfl (lv_at hl 0 rfl) ?_
  refine lv_iload_n hx hb dL_law_399 rfl (lv_at hl 3 rfl) ?_
  refine lv_iconst (v := nI 1) hx hb dL_law_400 (by decide +kernel) ?_
  refine nv_iadd hx hb dL_law_401 ?_
  refine nv_sld hx hb hX0 hbl hbA hS (k := i + 1) (by omega) (by omega) dL_law_402 ?_
  refine wri_f S (c_X1_solution l D (b := b0) (xs (i + 1)) hvd hVm hI hrd hQm hbbm hb2) (cwV 1 hts gL_law_X1_solution rfl rfl rfl (by decide +kernel) ⟨Nat.le_of_ble_eq_true rfl, Nat.le_of_ble_eq_true rfl⟩) rfl hKm (ci := 1) rfl rfl hl.1 (rest := [.int r1]) rfl (Nat.le_of_ble_eq_true rfl) dL_law_403 ⟨Nat.le_of_ble_eq_true rfl, Nat.le_of_ble_eq_true rfl⟩ hPm hDm hPx hX.symm hS hA (fun r2 u2 H locs er2 hPm hDm hPx hX hS => ?_)
  have hX := hX.symm
  have e12 : r1 = r2 := by
    rw [er1, er2]
    by_cases h0 : rd = 0
    · simp [sSol, h0]
    · rw [hpvq h0, hrkq h0]
  refine lv_icmp_eq (tgt := 457) hx hb dL_law_406 (by decide) (fun _ => ?_) (fun q => absurd (e12) q)
  exact K A0 b0 rd fA fB fW fP pv pp gA gB rk gR gP gS hLI ls _ _ hl hPx hDx hPm hDm hX hS
set_option maxHeartbeats 4000000 in
set_option maxRecDepth 100000 in
theorem law_kernelDim {p : Program} {l : Launch} {e : Env} {s : State} {m : MethodId} {below : List Frame} {meth : Method} {c : Code} {D : va_G} {b L : Nat} {xs : Nat → Int32} {q1 a1 a2 a3 a4 : Nat} {cA : ClassId} {q2 b1 b2 b3 b4 b5 : Nat} {cJ cI : ClassId} {p9 m9 n9 : Int32} {P mR nC vd : Nat} {i : Nat} (C : LC p l e s m below meth c D b L xs q1 a1 a2 a3 a4 cA q2 b1 b2 b3 b4 b5 cJ cI p9 m9 n9 P mR nC vd i) (hi4 : i + 4 ≤ L) (K : LW p l e s m below meth c D b L xs q1 a1 a2 a3 a4 cA q2 b1 b2 b3 b4 b5 cJ cI p9 m9 n9 P mR nC vd i 457) : LW p l e s m below meth c D b L xs q1 a1 a2 a3 a4 cA q2 b1 b2 b3 b4 b5 cJ cI p9 m9 n9 P mR nC vd i 411 := by
  obtain ⟨C0, hL, hF, hK⟩ := C
  obtain ⟨hx, hb, hr, hml, hown, hts0, hX0, hbl, hlocks, hgv⟩ := id C0
  have hts : ∀ w ∈ wsL_law, w.before #[Value.ref b] s = true := fun w h => hts0 w (wsL_law_in w h)
  have S : CallFix p m c code 4 s #[Value.ref b] wsL_law RL := ⟨hx, hb, hml, hown, hts⟩
  have hA : ∀ q : Nat, s.heap.size ≤ q → (fun q : Nat => s.heap.size ≤ q) q := fun _ h => h
  have hbA : ¬ (fun q : Nat => s.heap.size ≤ q) b := Nat.not_le.mpr hbl
  obtain ⟨hm, hn, hV, hpr, hvd, hVm, hI, hmv, hvm⟩ := hF
  have hKx := hK.sub (tys' := [(cA, .int)]) [0] rfl
  have hKm := hK.sub (tys' := [(cJ, .long), (cI, .int)]) [1, 2] rfl
  intro A0 b0 rd fA fB fW fP pv pp gA gB rk gR gP gS hLI ls H locs hl hPx hDx hPm hDm hX hS
  obtain ⟨hAb, hbb, hA0, hb1, hA1, hb2, hrd, hpv9, hQ⟩ := id hLI
  have hQx := fun h => (⟨(hQ h).1, (hQ h).2.1⟩ : 0 < mR ∧ PbQ P mR nC fW fP pv pp (redN P mR (q00 nC A0) nC).1 (rowOf (redN P mR (q00 nC A0) nC).2.2.2 (redN P mR (q00 nC A0) nC).2.1))
  have hQm := fun h => (⟨hmv (hQ h).1, (hQ h).2.2.1⟩ : vd ≠ 0 ∧ MdQ P mR nC rk gR gP (redN P mR (q00 nC A0) nC).1 (redN P mR (q00 nC A0) nC).2.2.2)
  have hpvq := fun h => (hQ h).2.2.2.1
  have hrkq := fun h => (hQ h).2.2.2.2.2
  have hAbm := fun h => hAb (hvm h)
  have hbbm := fun h => hbb (hvm h)
  refine lv_aload_n hx hb dL_law_411 rfl (lv_at hl 1 rfl) ?_
  refine rdv_2 S (c_X0_kernelDim l D hm hn hV hrd hQx) (cwV 0 hts gL_law_X0_kernelDim rfl rfl rfl (by decide +kernel) ⟨Nat.le_of_ble_eq_true rfl, Nat.le_of_ble_eq_true rfl⟩) rfl hKx hPx (ci := 0) rfl rfl hl.1 (rest := []) rfl (Nat.le_of_ble_eq_true rfl) dL_law_412 ⟨Nat.le_of_ble_eq_true rfl, Nat.le_of_ble_eq_true rfl⟩ hPm hS hA (fun r1 H locs er1 hPx hPm hS => ?_)
  refine lv_aload_n hx hb dL_law_415 rfl (lv_at hl 2 rfl) ?_
  refine wri_f S (c_X1_kernelDim l D hvd hVm hI hrd hQm) (cwV 0 hts gL_law_X1_kernelDim rfl rfl rfl (by decide +kernel) ⟨Nat.le_of_ble_eq_true rfl, Nat.le_of_ble_eq_true rfl⟩) rfl hKm (ci := 1) rfl rfl hl.1 (rest := [.int r1]) rfl (Nat.le_of_ble_eq_true rfl) dL_law_416 ⟨Nat.le_of_ble_eq_true rfl, Nat.le_of_ble_eq_true rfl⟩ hPm hDm hPx hX.symm hS hA (fun r2 u2 H locs er2 hPm hDm hPx hX hS => ?_)
  have hX := hX.symm
  have e12 : r1 = r2 := by
    rw [er1, er2]
    by_cases h0 : rd = 0
    · simp [sKd, h0]
    · rw [hpvq h0, hrkq h0]
  refine lv_icmp_eq (tgt := 457) hx hb dL_law_419 (by decide) (fun _ => ?_) (fun q => absurd (e12) q)
  exact K A0 b0 rd fA fB fW fP pv pp gA gB rk gR gP gS hLI ls _ _ hl hPx hDx hPm hDm hX hS
set_option maxHeartbeats 4000000 in
set_option maxRecDepth 100000 in
theorem law_kernelAt {p : Program} {l : Launch} {e : Env} {s : State} {m : MethodId} {below : List Frame} {meth : Method} {c : Code} {D : va_G} {b L : Nat} {xs : Nat → Int32} {q1 a1 a2 a3 a4 : Nat} {cA : ClassId} {q2 b1 b2 b3 b4 b5 : Nat} {cJ cI : ClassId} {p9 m9 n9 : Int32} {P mR nC vd : Nat} {i : Nat} (C : LC p l e s m below meth c D b L xs q1 a1 a2 a3 a4 cA q2 b1 b2 b3 b4 b5 cJ cI p9 m9 n9 P mR nC vd i) (hi4 : i + 4 ≤ L) (K : LW p l e s m below meth c D b L xs q1 a1 a2 a3 a4 cA q2 b1 b2 b3 b4 b5 cJ cI p9 m9 n9 P mR nC vd i 457) : LW p l e s m below meth c D b L xs q1 a1 a2 a3 a4 cA q2 b1 b2 b3 b4 b5 cJ cI p9 m9 n9 P mR nC vd i 424 := by
  obtain ⟨C0, hL, hF, hK⟩ := C
  obtain ⟨hx, hb, hr, hml, hown, hts0, hX0, hbl, hlocks, hgv⟩ := id C0
  have hts : ∀ w ∈ wsL_law, w.before #[Value.ref b] s = true := fun w h => hts0 w (wsL_law_in w h)
  have S : CallFix p m c code 4 s #[Value.ref b] wsL_law RL := ⟨hx, hb, hml, hown, hts⟩
  have hA : ∀ q : Nat, s.heap.size ≤ q → (fun q : Nat => s.heap.size ≤ q) q := fun _ h => h
  have hbA : ¬ (fun q : Nat => s.heap.size ≤ q) b := Nat.not_le.mpr hbl
  obtain ⟨hm, hn, hV, hpr, hvd, hVm, hI, hmv, hvm⟩ := hF
  have hKx := hK.sub (tys' := [(cA, .int)]) [0] rfl
  have hKm := hK.sub (tys' := [(cJ, .long), (cI, .int)]) [1, 2] rfl
  intro A0 b0 rd fA fB fW fP pv pp gA gB rk gR gP gS hLI ls H locs hl hPx hDx hPm hDm hX hS
  obtain ⟨hAb, hbb, hA0, hb1, hA1, hb2, hrd, hpv9, hQ⟩ := id hLI
  have hQx := fun h => (⟨(hQ h).1, (hQ h).2.1⟩ : 0 < mR ∧ PbQ P mR nC fW fP pv pp (redN P mR (q00 nC A0) nC).1 (rowOf (redN P mR (q00 nC A0) nC).2.2.2 (redN P mR (q00 nC A0) nC).2.1))
  have hQm := fun h => (⟨hmv (hQ h).1, (hQ h).2.2.1⟩ : vd ≠ 0 ∧ MdQ P mR nC rk gR gP (redN P mR (q00 nC A0) nC).1 (redN P mR (q00 nC A0) nC).2.2.2)
  have hpvq := fun h => (hQ h).2.2.2.1
  have hrkq := fun h => (hQ h).2.2.2.2.2
  have hAbm := fun h => hAb (hvm h)
  have hbbm := fun h => hbb (hvm h)
  refine lv_aload_n hx hb dL_law_424 rfl (lv_at hl 1 rfl) ?_
  refine lv_aload_n hx hb dL_law_425 rfl (lv_at hl 0 rfl) ?_
  refine lv_iload_n hx hb dL_law_426 rfl (lv_at hl 3 rfl) ?_
  refine lv_iconst (v := nI 1) hx hb dL_law_427 (by decide +kernel) ?_
  refine nv_iadd hx hb dL_law_428 ?_
  refine nv_sld hx hb hX0 hbl hbA hS (k := i + 1) (by omega) (by omega) dL_law_429 ?_
  refine lv_aload_n hx hb dL_law_430 rfl (lv_at hl 0 rfl) ?_
  refine lv_iload_n hx hb dL_law_431 rfl (lv_at hl 3 rfl) ?_
  refine lv_iconst (v := nI 2) hx hb dL_law_432 (by decide +kernel) ?_
  refine nv_iadd hx hb dL_law_433 ?_
  refine nv_sld hx hb hX0 hbl hbA hS (k := i + 2) (by omega) (by omega) dL_law_434 ?_
  refine rdv_2 S (c_X0_kernelAt l D (xs (i + 1)) (xs (i + 2)) hm hn hV hrd hQx) (cwV 2 hts gL_law_X0_kernelAt rfl rfl rfl (by decide +kernel) ⟨Nat.le_of_ble_eq_true rfl, Nat.le_of_ble_eq_true rfl⟩) rfl hKx hPx (ci := 0) rfl rfl hl.1 (rest := []) rfl (Nat.le_of_ble_eq_true rfl) dL_law_435 ⟨Nat.le_of_ble_eq_true rfl, Nat.le_of_ble_eq_true rfl⟩ hPm hS hA (fun r1 H locs er1 hPx hPm hS => ?_)
  refine lv_aload_n hx hb dL_law_438 rfl (lv_at hl 2 rfl) ?_
  refine lv_aload_n hx hb dL_law_439 rfl (lv_at hl 0 rfl) ?_
  refine lv_iload_n hx hb dL_law_440 rfl (lv_at hl 3 rfl) ?_
  refine lv_iconst (v := nI 1) hx hb dL_law_441 (by decide +kernel) ?_
  refine nv_iadd hx hb dL_law_442 ?_
  refine nv_sld hx hb hX0 hbl hbA hS (k := i + 1) (by omega) (by omega) dL_law_443 ?_
  refine lv_aload_n hx hb dL_law_444 rfl (lv_at hl 0 rfl) ?_
  refine lv_iload_n hx hb dL_law_445 rfl (lv_at hl 3 rfl) ?_
  refine lv_iconst (v := nI 2) hx hb dL_law_446 (by decide +kernel) ?_
  refine nv_iadd hx hb dL_law_447 ?_
  refine nv_sld hx hb hX0 hbl hbA hS (k := i + 2) (by omega) (by omega) dL_law_448 ?_
  refine wri_f S (c_X1_kernelAt l D (xs (i + 1)) (xs (i + 2)) hvd hVm hI hrd hQm) (cwV 2 hts gL_law_X1_kernelAt rfl rfl rfl (by decide +kernel) ⟨Nat.le_of_ble_eq_true rfl, Nat.le_of_ble_eq_true rfl⟩) rfl hKm (ci := 1) rfl rfl hl.1 (rest := [.int r1]) rfl (Nat.le_of_ble_eq_true rfl) dL_law_449 ⟨Nat.le_of_ble_eq_true rfl, Nat.le_of_ble_eq_true rfl⟩ hPm hDm hPx hX.symm hS hA (fun r2 u2 H locs er2 hPm hDm hPx hX hS => ?_)
  have hX := hX.symm
  have e12 : r1 = r2 := by
    rw [er1, er2]
    by_cases h0 : rd = 0
    · simp [sKer, h0]
    · rw [hrkq h0]
  refine lv_icmp_eq (tgt := 457) hx hb dL_law_452 (by decide) (fun _ => ?_) (fun q => absurd (e12) q)
  exact K A0 b0 rd fA fB fW fP pv pp gA gB rk gR gP gS hLI ls _ _ hl hPx hDx hPm hDm hX hS
