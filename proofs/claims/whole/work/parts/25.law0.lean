/-! the law: its script, its calls, what holds between its two objects -/
section LR
variable {p : Program} {l : Launch} {e : Env} {R : Room} {s : State} {m : MethodId} {args : Array Value} {below : List Frame} {meth : Method} {c : Code} {H H0 : Heap} {locs : List Loc} {cells slots : Nat} {Q : State → Prop} {cc bytes : ByteArray} {pc nL maxL index n : Nat} {ls : Array Slot} {D : va_G} {w w0 w2 v : va_W} {tys : List (ClassId × FieldType)} {b ci N : Nat} {T : u_T} {fs : List Value} {A : Nat → Prop} {y : MethodName} {ws Ts : List Cond} {rm : Room} {own C : String} {ret : Option FieldType} {As rest st0 : List Value}
theorem nv_sld (hx : p.tables.exec = Jvm.exec) (hb : c.code = cc) {L : Nat} {xs : Nat → Int32} (hX : va_X b L xs s H0) (hbl : b < H0.size) (hbA : ¬ A b) (hS : va_S A H0 H locs) {k : Nat} (hk : k < L) (hL : L < 2 ^ 31) (hdg : decode cc pc = .ok (.iaload, 1))
    (kk : W p l e R s m args below meth c H locs cells slots Q (F0 m (pc + 1) ls (.int (xs k) :: rest))) : W p l e R s m args below meth c H locs cells slots Q (F0 m pc ls (.int (nI k) :: .ref b :: rest)) := by
  refine va_sld hx hb hX hbl hbA hS (vp_in_nI hk hL) hdg ?_
  rw [nI_clamp (by omega)]
  exact kk
theorem nv_slen (hx : p.tables.exec = Jvm.exec) (hb : c.code = cc) {L : Nat} {xs : Nat → Int32} (hX : va_X b L xs s H0) (hbl : b < H0.size) (hbA : ¬ A b) (hS : va_S A H0 H locs) (hdg : decode cc pc = .ok (.arraylength, 1))
    (kk : W p l e R s m args below meth c H locs cells slots Q (F0 m (pc + 1) ls (.int (nI L) :: rest))) : W p l e R s m args below meth c H locs cells slots Q (F0 m pc ls (.ref b :: rest)) := va_slen hx hb hX hbl hbA hS hdg kk
theorem rdv_2 {post : Int32 → Prop} (S : CallFix p m c cc nL s args Ts own) (hM : RdI l y ws rm (.ref b :: As) D w tys post) (cw : CallW R s args own C index y bytes maxL ret ws rm 0 0 n) (hn : As.length = n) (hK : va_K D vwCl tys s) (hP : va_P D vwCl w H) (hc : vwCl[ci]? = some (C, T, N)) (he : w[0]? = some (b, .inr (ci, fs))) (hsize : ls.size = nL) (hstack : st0 = As.reverse ++ .ref b :: rest) (hW : (rest.map fun v => v.category).sum ≤ 8) (hdg : decode cc pc = .ok (.invokevirtual index, 3)) (hf : cells ≤ R.cells ∧ slots ≤ R.slots) (hP2 : va_P D vwCl w2 H) (hS : va_S A H0 H locs) (hA : ∀ q, H0.size ≤ q → A q)
    (kk : ∀ (r : Int32) (H1 : Heap) (locs1 : List Loc), post r → va_P D vwCl w H1 → va_P D vwCl w2 H1 → va_S A H0 H1 locs1 → W p l e R s m args below meth c H1 locs1 cells slots Q (F0 m (pc + 3) ls (.int r :: rest))) : W p l e R s m args below meth c H locs cells slots Q (F0 m pc ls st0) := by
  refine va_calli (va_runV (As := As) (rest := rest) S (hM H.size) cw ⟨fb_R, va_recv hK hP hc he, fun U hU hWm => ⟨rfl, by rw [hU], by rw [hU]; exact hP, va_K.moved hWm.alike hK⟩⟩ rfl hn hsize hstack (lv_room hW) hdg hf) hS (fun q _ h => fr_hf hS hA q h) (fr_hf hS hA) (fun r u t H1 locs1 ht hvm hw hB hz1 hk1 hS1 => ?_)
  exact kk r H1 locs1 hw (fr_keep hP hk1) (fr_keep hP2 hk1) hS1
theorem ini_f {U : Type} {mc ms : Nat} {post : U → Prop} {w' : U → va_W} {tys' : U → List (ClassId × FieldType)} (S : CallFix p m c cc nL s args Ts own) (hM : MkV l y ws rm (.ref b :: As) D w mc ms post w' tys') (cw : CallB R s args own index y bytes maxL none ws rm mc ms n ∧ y.name = "<init>" ∧ (Cond.instanceMethod y).before args s = true) (hn : As.length = n) (hK : va_K D vwCl [] s) (hsize : ls.size = nL) (hstack : st0 = As.reverse ++ .ref b :: rest) (hW : (rest.map fun v => v.category).sum ≤ 8) (hdg : decode cc pc = .ok (.invokespecial index, 3)) (hf : cells + mc ≤ R.cells ∧ slots + ms ≤ R.slots) (hP : va_P D vwCl w H) (hD : va_D A w) (hV : va_P D vwCl v H) (hX : Apart w v) (hS : va_S A H0 H locs) (hA : ∀ q, H0.size ≤ q → A q)
    (kk : ∀ (u : U) (H1 : Heap) (locs1 : List Loc), post u → va_P D vwCl (w' u) H1 → va_D A (w' u) → va_K D vwCl (tys' u) s → va_P D vwCl v H1 → Apart (w' u) v → va_S A H0 H1 locs1 → W p l e R s m args below meth c H1 locs1 (cells + mc) (slots + ms) Q (F0 m (pc + 3) ls rest)) : W p l e R s m args below meth c H locs cells slots Q (F0 m pc ls st0) := by
  have hF := fr_wf hP hD hS hA
  refine va_callv (va_runI (As := As) (rest := rest) S (hM H.size) cw ⟨fb_W, fun U hU hWm => ⟨rfl, by rw [hU], by rw [hU]; exact hP, va_K.moved hWm.alike hK, hD.weaken (fun _ _ _ _ => trivial)⟩⟩ rfl hn hsize hstack (lv_room hW) hdg hf) hS (fun q _ h => hF q h) hF (fun u t H1 locs1 ht hvm hw hB hz1 hk1 hS1 => ?_)
  obtain ⟨hP1, hD1, hK1⟩ := hB
  rw [ht] at hP1
  have hno : ∀ (j : Nat) (q : Nat × va_E), v[j]? = some q → ¬ va_A w H.size q.1 := by
    intro j q hq h
    rcases h with ⟨k, e, hk⟩ | h
    · exact hX k j _ q hk hq rfl
    · exact Nat.not_le.mpr (hV j q hq).lt h
  refine kk u H1 locs1 hw hP1 (hD1.weaken (fun _ _ _ h => hF _ h)) (va_K.moved hvm.symm hK1) (hV.kept (fun j q hq => hk1 q.1 (hV j q hq).lt (hno j q hq))) ?_ hS1
  intro i j pp q h1 h2 h3
  exact hno j q h2 (h3 ▸ hD1.2 i pp h1)
end LR
/-- cell(script, k) -/
def cv (L : Nat) (xs : Nat → Int32) (k : Nat) : Int32 := if k < L then xs k else 0
set_option maxHeartbeats 4000000 in
set_option maxRecDepth 100000 in
theorem c_L_cell (l : Launch) {b L : Nat} {xs : Nat → Int32} (hL : L ≤ 2051) (k : Nat) (hk : k < 3) (sz : Nat) : Met l yL_cell wsL_cell ({ frames := 0, cells := 0, slots := 0, locals := 0 }) (va_Pc [.ref b, .int (nI k)] (fun U => U.heap.size = sz ∧ b < sz ∧ va_X b L xs U U.heap)) (va_Qi (fun (r : Int32) (_ : Unit) => r = cv L xs k) (fun _ _ => True) (va_A [] sz)) 0 0 (va_A [] sz) := by
  refine Met.ofW (cc := cL_cell) (maxL := 2) (ret := some .int) (by decide) rfl ?_
  intro p e s m args below meth c s₁ B hml hv
  obtain ⟨rfl, hsz, hbl, hX⟩ := hv
  subst hsz
  have hx := B.exec
  have hb := B.bytes
  have hlocks := B.notSynchronized
  have hS : va_S (va_A [] s.heap.size) s.heap s.heap [] := va_S.rf
  have hbA : ¬ va_A [] s.heap.size b := fun z => Nat.not_le.mpr hbl (fr_nil z)
  have hl := lv_entry [.ref b, .int (nI k)] (n := 2) (Nat.le_of_ble_eq_true rfl)
  rw [lg_entry_eq]
  generalize (lg_sl [.ref b, .int (nI k)] ++ List.replicate (2 - (lg_sl [.ref b, .int (nI k)]).length) Slot.unset).toArray = ls at hl ⊢
  have hl : lv_has ls 2 [(0, .ref b), (1, .int (nI k))] := hl
  refine lv_iload_n hx hb dL_cell_0 rfl (lv_at hl 1 rfl) ?_
  refine lv_aload_n hx hb dL_cell_1 rfl (lv_at hl 0 rfl) ?_
  refine nv_slen hx hb hX hbl hbA hS dL_cell_2 ?_
  refine nv_icmp_ge (tgt := 12) hx hb dL_cell_3 (by decide) (by omega) (by omega) (fun c_1 => ?_) (fun c_1 => ?_)
  · refine lv_iconst (v := 0) hx hb dL_cell_12 (by decide +kernel) ?_
    exact W.zret hx hb B.returns rfl (fun t ht hW => ⟨⟨0, (), rfl, by unfold cv; rw [if_neg (by omega)], trivial⟩, hS.F ht⟩) hS.2.2 dL_cell_13
  · refine lv_aload_n hx hb dL_cell_6 rfl (lv_at hl 0 rfl) ?_
    refine lv_iload_n hx hb dL_cell_7 rfl (lv_at hl 1 rfl) ?_
    refine nv_sld hx hb hX hbl hbA hS c_1 (by omega) dL_cell_8 ?_
    refine lv_goto (tgt := 13) hx hb dL_cell_9 (by decide) ?_
    exact W.zret hx hb B.returns rfl (fun t ht hW => ⟨⟨xs k, (), rfl, by unfold cv; rw [if_pos c_1], trivial⟩, hS.F ht⟩) hS.2.2 dL_cell_13
section LR2
variable {p : Program} {l : Launch} {e : Env} {R : Room} {s : State} {m : MethodId} {args : Array Value} {below : List Frame} {meth : Method} {c : Code} {H : Heap} {locs : List Loc} {cells slots : Nat} {Q : State → Prop} {cc : ByteArray} {pc nL : Nat} {ls : Array Slot} {D : va_G} {w0 w2 : va_W} {b : Nat} {A : Nat → Prop} {rest : List Value}
theorem cell_f (S : CallFix p m c cc nL s args wsL_law RL) {L : Nat} {xs : Nat → Int32} (hL : L ≤ 2051) (hX : va_X b L xs s s.heap) (hbl : b < s.heap.size) (hbA : ¬ A b) {k : Nat} (hk : k < 3) (hR : 0 + 1 ≤ R.frames ∧ 8 + (2 + 11) + 0 ≤ R.locals) (hsize : ls.size = nL) (hW : (rest.map fun v => v.category).sum ≤ 8) (hdg : decode cc pc = .ok (.invokestatic 9, 3)) (hf : cells ≤ R.cells ∧ slots ≤ R.slots) (hP : va_P D vwCl w0 H) (hP2 : va_P D vwCl w2 H) (hS : va_S A s.heap H locs) (hA : ∀ q, s.heap.size ≤ q → A q)
    (kk : ∀ (H1 : Heap) (locs1 : List Loc), va_P D vwCl w0 H1 → va_P D vwCl w2 H1 → va_S A s.heap H1 locs1 → W p l e R s m args below meth c H1 locs1 cells slots Q (F0 m (pc + 3) ls (.int (cv L xs k) :: rest))) : W p l e R s m args below meth c H locs cells slots Q (F0 m pc ls (.int (nI k) :: .ref b :: rest)) := by
  have hXH : va_X b L xs s H := hX.kept (hS.2.1 b hbl hbA)
  refine va_calli (va_runS (As := [.ref b, .int (nI k)]) (rest := rest) S (c_L_cell l (b := b) (xs := xs) hL k hk H.size) (va_cwS 2 S.2.2.2.2 gL_law_L_cell rfl rfl rfl (by decide +kernel) hR) ⟨fun a U g mk q => by obtain ⟨q0, q1, q2, q3⟩ := q; exact ⟨q0, q1, q2, va_X.moved (u := U) (U := U.calling g mk a) (Vm.Alike.refl U.vm) q3⟩, fun U hU hWm => ⟨rfl, by rw [hU], Nat.lt_of_lt_of_le hbl hS.1, by rw [hU]; exact va_X.moved hWm.alike hXH⟩⟩ rfl rfl hsize rfl (lv_room hW) hdg hf) hS (fun q _ h => fr_hf hS hA q h) (fr_hf hS hA) (fun r u t H1 locs1 ht hvm hw hB hz1 hk1 hS1 => ?_)
  rw [hw]
  exact kk H1 locs1 (fr_keep hP hk1) (fr_keep hP2 hk1) hS1
end LR2
/-- the numbers that never change -/
def LF (p9 m9 n9 : Int32) (P mR nC vd : Nat) : Prop := mR ≤ 10 ∧ nC ≤ 10 ∧ (0 < mR → p9 = nI P ∧ 2 ≤ P ∧ P < 2 ^ 31) ∧ (0 < mR → PrimeN P) ∧ vd < 2 ∧ (vd ≠ 0 → MdV p9.toInt64 m9 n9 P mR nC) ∧ (vd = 0 → mR = 0 ∧ nC = 0) ∧ (0 < mR → vd ≠ 0) ∧ (vd ≠ 0 → 0 < mR)
/-- what both hold: one matrix, one right side, one reduction -/
def LI (P mR nC : Nat) (A0 : Mat) (b0 : Nat → Nat) (rd : Nat) (fA fB fW fP : Nat → Int32) (pv pp : Nat) (gA gB : Nat → Int64) (rk : Nat) (gR : Nat → Int64) (gP : Nat → Int32) : Prop :=
  (0 < mR → bnd P A0) ∧ (0 < mR → ∀ i, b0 i < P) ∧ Rp nC mR fA A0 ∧ (∀ i, i < mR → fB i = nI (b0 i)) ∧ (∀ a, a < mR → ∀ k, k < nC → gA (10 * a + k) = lN (A0 a k)) ∧ (∀ a, a < mR → gB a = lN (b0 a)) ∧ rd < 2 ∧ pv < 2 ^ 31 ∧
  (rd ≠ 0 → 0 < mR ∧ PbQ P mR nC fW fP pv pp (redN P mR (q00 nC A0) nC).1 (rowOf (redN P mR (q00 nC A0) nC).2.2.2 (redN P mR (q00 nC A0) nC).2.1) ∧ MdQ P mR nC rk gR gP (redN P mR (q00 nC A0) nC).1 (redN P mR (q00 nC A0) nC).2.2.2 ∧ pv = (redN P mR (q00 nC A0) nC).2.1 ∧ pp = (redN P mR (q00 nC A0) nC).2.2.1 ∧ rk = (redN P mR (q00 nC A0) nC).2.1)
theorem bn_mu {P : Nat} {M : Mat} {i k x : Nat} (h : bnd P M) (hx : x < P) : bnd P (mu M i k x) := by
  intro a b
  simp only [mu]
  split
  · exact hx
  · exact h a b
theorem bn_nb {P : Nat} {b : Nat → Nat} {k v : Nat} (h : ∀ i, b i < P) (hv : v < P) : ∀ i, nb b k v i < P := by
  intro i
  unfold nb
  split
  · exact hv
  · exact h i
/-- the reductions of both, joined -/
theorem LI_red {P mR nC : Nat} {A0 : Mat} {fW fP : Nat → Int32} {pv pp rk : Nat} {gR : Nat → Int64} {gP : Nat → Int32} (hm : mR ≤ 10) (hn : nC ≤ 10) (hP2 : 2 ≤ P) (hAb : bnd P A0) (hm0 : 0 < mR)
    (h1 : Rp (nC + mR) mR fW (redN P mR (lm nC (G0 nC A0), 0, 1, fun _ => 0) nC).1) (h2 : ∀ j, j < nC → fP j = opt (rowOf (redN P mR (lm nC (G0 nC A0), 0, 1, fun _ => 0) nC).2.2.2 (redN P mR (lm nC (G0 nC A0), 0, 1, fun _ => 0) nC).2.1 j)) (h3 : pv = (redN P mR (lm nC (G0 nC A0), 0, 1, fun _ => 0) nC).2.1) (h4 : pp = (redN P mR (lm nC (G0 nC A0), 0, 1, fun _ => 0) nC).2.2.1)
    (k1 : Rq mR gR (redN P mR (q00 nC A0) nC).1) (k2 : ∀ i, i < (redN P mR (q00 nC A0) nC).2.1 → gP i = nI ((redN P mR (q00 nC A0) nC).2.2.2 i)) (k3 : rk = (redN P mR (q00 nC A0) nC).2.1) :
    0 < mR ∧ PbQ P mR nC fW fP pv pp (redN P mR (q00 nC A0) nC).1 (rowOf (redN P mR (q00 nC A0) nC).2.2.2 (redN P mR (q00 nC A0) nC).2.1) ∧ MdQ P mR nC rk gR gP (redN P mR (q00 nC A0) nC).1 (redN P mR (q00 nC A0) nC).2.2.2 ∧ pv = (redN P mR (q00 nC A0) nC).2.1 ∧ pp = (redN P mR (q00 nC A0) nC).2.2.1 ∧ rk = (redN P mR (q00 nC A0) nC).2.1 := by
  have e : redN P mR (lm nC (G0 nC A0), 0, 1, fun _ => 0) nC = (lm nC (redN P mR (q00 nC A0) nC).1, (redN P mR (q00 nC A0) nC).2) := redN_lm (q00 nC A0) nC (Nat.le_refl nC)
  rw [e] at h1 h2 h3 h4
  dsimp only at h1 h2 h3 h4
  obtain ⟨o1, o2, o3⟩ := redN_ok (P := P) (m := mR) (q0 := q00 nC A0) (by omega) (Nat.zero_le _) (bn_G0 hP2 hAb) (show 1 < P by omega) nC
  obtain ⟨c1, c2⟩ := pcOk_all (P := P) (m := mR) (q0 := q00 nC A0) rfl nC
  refine ⟨hm0, ⟨h1, o2, h2, ?_, by omega, by omega, by omega⟩, ⟨k1, o2, by omega, by omega, by rw [k3]; exact k2, by rw [k3]; exact c1, by rw [k3]; exact c2⟩, h3, h4, k3⟩
  intro j i hi
  have := rowOf_lt hi
  omega
/-- the two determinants -/
theorem det_both {P mR nC : Nat} {A0 : Mat} {rd pv pp : Nat} (hn : nC ≤ 10) (hp : 0 < mR → PrimeN P) (hAb : 0 < mR → bnd P A0) (hQ : rd ≠ 0 → 0 < mR ∧ pv = (redN P mR (q00 nC A0) nC).2.1 ∧ pp = (redN P mR (q00 nC A0) nC).2.2.1) : sDet rd mR nC pv pp = if rd ≠ 0 ∧ mR = nC then nI (EE P nC A0 (1 * 2 ^ nC - 1)) else -1 := by
  unfold sDet
  by_cases h : rd ≠ 0 ∧ mR = nC
  · rw [if_pos h, if_pos h]
    obtain ⟨h0, h1, h2⟩ := hQ h.1
    have hpp := hp h0
    have e := det_red hpp hn (hAb h0)
    obtain ⟨-, hmn⟩ := h
    subst hmn
    have h2P := hpp.1
    rw [← EE_full (show 0 < P by omega)] at e
    rw [h1, h2]
    by_cases q : (redN P mR (q00 mR A0) mR).2.1 < mR
    · rw [if_pos q] at e ⊢
      rw [show EE P mR A0 (1 * 2 ^ mR - 1) = 0 by omega]
    · rw [if_neg q] at e ⊢
      rw [show EE P mR A0 (1 * 2 ^ mR - 1) = (redN P mR (q00 mR A0) mR).2.2.1 by omega]
  · rw [if_neg h, if_neg h]
