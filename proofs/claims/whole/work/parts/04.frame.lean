/-! contracts by pictures: reading methods (nothing changes), writing methods (the picture's cells change) -/
theorem fr_nil {sz q : Nat} (h : va_A [] sz q) : sz ≤ q := by
  rcases h with ⟨k, e, hk⟩ | h
  · simp at hk
  · exact h
abbrev PcR (D : va_G) (w : va_W) (tys : List (ClassId × FieldType)) (av : List Value) (sz : Nat) : Array Value → State → Prop := va_Pc av (fun U => U.heap.size = sz ∧ va_P D vwCl w U.heap ∧ va_K D vwCl tys U)
abbrev PcW (D : va_G) (w : va_W) (tys : List (ClassId × FieldType)) (av : List Value) (sz : Nat) : Array Value → State → Prop := va_Pc av (fun U => U.heap.size = sz ∧ va_P D vwCl w U.heap ∧ va_K D vwCl tys U ∧ va_D (fun _ => True) w)
def RdI (l : Launch) (y : MethodName) (ws : List Cond) (rm : Room) (av : List Value) (D : va_G) (w : va_W) (tys : List (ClassId × FieldType)) (post : Int32 → Prop) : Prop :=
  ∀ sz : Nat, Met l y ws rm (PcR D w tys av sz) (va_Qi (fun (r : Int32) (_ : Unit) => post r) (fun _ _ => True) (va_A [] sz)) 0 0 (va_A [] sz)
def RdL (l : Launch) (y : MethodName) (ws : List Cond) (rm : Room) (av : List Value) (D : va_G) (w : va_W) (tys : List (ClassId × FieldType)) (post : Int64 → Prop) : Prop :=
  ∀ sz : Nat, Met l y ws rm (PcR D w tys av sz) (va_Ql (fun (r : Int64) (_ : Unit) => post r) (fun _ _ => True) (va_A [] sz)) 0 0 (va_A [] sz)
def WrI {U : Type} (l : Launch) (y : MethodName) (ws : List Cond) (rm : Room) (av : List Value) (D : va_G) (w : va_W) (tys : List (ClassId × FieldType)) (post : Int32 → U → Prop) (w' : U → va_W) : Prop :=
  ∀ sz : Nat, Met l y ws rm (PcW D w tys av sz) (va_Qi post (fun u t => va_P D vwCl (w' u) t.heap ∧ va_D (va_A w sz) (w' u)) (va_A w sz)) 0 0 (va_A w sz)
def WrV {U : Type} (l : Launch) (y : MethodName) (ws : List Cond) (rm : Room) (av : List Value) (D : va_G) (w : va_W) (tys : List (ClassId × FieldType)) (post : U → Prop) (w' : U → va_W) : Prop :=
  ∀ sz : Nat, Met l y ws rm (PcW D w tys av sz) (va_Qv post (fun u t => va_P D vwCl (w' u) t.heap ∧ va_D (va_A w sz) (w' u)) (va_A w sz)) 0 0 (va_A w sz)
theorem fb_R {D : va_G} {w : va_W} {tys : List (ClassId × FieldType)} {av : List Value} {sz : Nat} : FrameBlind (PcR D w tys av sz) := fun a U g mk q => by
  obtain ⟨q0, q1, qP, qK⟩ := q
  exact ⟨q0, q1, qP, va_K.moved (u := U) (U := U.calling g mk a) (Vm.Alike.refl U.vm) qK⟩
theorem fb_W {D : va_G} {w : va_W} {tys : List (ClassId × FieldType)} {av : List Value} {sz : Nat} : FrameBlind (PcW D w tys av sz) := fun a U g mk q => by
  obtain ⟨q0, q1, qP, qK, qD⟩ := q
  exact ⟨q0, q1, qP, va_K.moved (u := U) (U := U.calling g mk a) (Vm.Alike.refl U.vm) qK, qD⟩
theorem RdI.mk {l : Launch} {y : MethodName} {ws ws' : List Cond} {rm : Room} {av : List Value} {D : va_G} {w : va_W} {tys : List (ClassId × FieldType)} {post : Int32 → Prop} {cc : ByteArray} {maxL : Nat} {rt : FieldType} (hy : plainName y.cls = true) (hw : ws = Cond.code y cc maxL (some rt) :: ws') (hav : (lg_sl av).length ≤ maxL)
    (body : ∀ (p : Program) (e : Env) (s : State) (mm : MethodId) (args : Array Value) (below : List Frame) (meth : Method) (c : Code) (Q : State → Prop) (ls : Array Slot) (A : Nat → Prop), CallFix p mm c cc maxL s args ws y.cls → va_K D vwCl tys s → va_P D vwCl w s.heap → (∀ q, s.heap.size ≤ q → A q) → va_S A s.heap s.heap [] → lv_has ls maxL (lv_args 0 av) →
      (∀ (v : Int32) (pc : Nat) (ls : Array Slot) (H : Heap) (locs : List Loc), decode cc pc = .ok (.ireturn, 1) → narrow rt (.int v) = .int v → va_S A s.heap H locs → post v → W p l e rm s mm args below meth c H locs 0 0 Q (F0 mm pc ls [.int v])) →
      W p l e rm s mm args below meth c s.heap [] 0 0 Q (F0 mm 0 ls [])) : RdI l y ws rm av D w tys post := by
  intro sz
  refine Met.ofW (cc := cc) (maxL := maxL) (ret := some rt) hy hw ?_
  intro p e s m args below meth c s₁ B hml hv
  obtain ⟨rfl, hsz, hP, hK⟩ := hv
  subst hsz
  have hts := atoms_spec (ws := ws) B.pre
  have hlocks := B.notSynchronized
  have hl := lv_entry av (n := maxL) hav
  rw [lg_entry_eq]
  generalize (lg_sl av ++ List.replicate (maxL - (lg_sl av).length) Slot.unset).toArray = ls at hl ⊢
  refine body p e s m _ below meth c _ ls (va_A [] s.heap.size) ⟨B.exec, B.bytes, hml, findClass_of_methodNamed B.named, hts⟩ hK hP (fun q h => Or.inr h) va_S.rf hl ?_
  intro v pc ls H locs hd hn hS hpost
  exact W.zret B.exec B.bytes B.returns hn (fun t ht hW => ⟨⟨v, (), rfl, hpost, trivial⟩, hS.F ht⟩) hS.2.2 hd
theorem RdL.mk {l : Launch} {y : MethodName} {ws ws' : List Cond} {rm : Room} {av : List Value} {D : va_G} {w : va_W} {tys : List (ClassId × FieldType)} {post : Int64 → Prop} {cc : ByteArray} {maxL : Nat} (hy : plainName y.cls = true) (hw : ws = Cond.code y cc maxL (some .long) :: ws') (hav : (lg_sl av).length ≤ maxL)
    (body : ∀ (p : Program) (e : Env) (s : State) (mm : MethodId) (args : Array Value) (below : List Frame) (meth : Method) (c : Code) (Q : State → Prop) (ls : Array Slot) (A : Nat → Prop), CallFix p mm c cc maxL s args ws y.cls → va_K D vwCl tys s → va_P D vwCl w s.heap → (∀ q, s.heap.size ≤ q → A q) → va_S A s.heap s.heap [] → lv_has ls maxL (lv_args 0 av) →
      (∀ (v : Int64) (pc : Nat) (ls : Array Slot) (H : Heap) (locs : List Loc), decode cc pc = .ok (.lreturn, 1) → va_S A s.heap H locs → post v → W p l e rm s mm args below meth c H locs 0 0 Q (F0 mm pc ls [.long v])) →
      W p l e rm s mm args below meth c s.heap [] 0 0 Q (F0 mm 0 ls [])) : RdL l y ws rm av D w tys post := by
  intro sz
  refine Met.ofW (cc := cc) (maxL := maxL) (ret := some .long) hy hw ?_
  intro p e s m args below meth c s₁ B hml hv
  obtain ⟨rfl, hsz, hP, hK⟩ := hv
  subst hsz
  have hts := atoms_spec (ws := ws) B.pre
  have hlocks := B.notSynchronized
  have hl := lv_entry av (n := maxL) hav
  rw [lg_entry_eq]
  generalize (lg_sl av ++ List.replicate (maxL - (lg_sl av).length) Slot.unset).toArray = ls at hl ⊢
  refine body p e s m _ below meth c _ ls (va_A [] s.heap.size) ⟨B.exec, B.bytes, hml, findClass_of_methodNamed B.named, hts⟩ hK hP (fun q h => Or.inr h) va_S.rf hl ?_
  intro v pc ls H locs hd hS hpost
  exact W.lret B.exec B.bytes B.returns (fun t ht hW => ⟨⟨v, (), rfl, hpost, trivial⟩, hS.F ht⟩) hS.2.2 hd
theorem WrI.mk {U : Type} {l : Launch} {y : MethodName} {ws ws' : List Cond} {rm : Room} {av : List Value} {D : va_G} {w : va_W} {tys : List (ClassId × FieldType)} {post : Int32 → U → Prop} {w' : U → va_W} {cc : ByteArray} {maxL : Nat} {rt : FieldType} (hy : plainName y.cls = true) (hw : ws = Cond.code y cc maxL (some rt) :: ws') (hav : (lg_sl av).length ≤ maxL)
    (body : ∀ (p : Program) (e : Env) (s : State) (mm : MethodId) (args : Array Value) (below : List Frame) (meth : Method) (c : Code) (Q : State → Prop) (ls : Array Slot) (A : Nat → Prop), CallFix p mm c cc maxL s args ws y.cls → va_K D vwCl tys s → va_P D vwCl w s.heap → va_D A w → (∀ q, s.heap.size ≤ q → A q) → va_S A s.heap s.heap [] → lv_has ls maxL (lv_args 0 av) →
      (∀ (v : Int32) (u : U) (pc : Nat) (ls : Array Slot) (H : Heap) (locs : List Loc), decode cc pc = .ok (.ireturn, 1) → narrow rt (.int v) = .int v → va_P D vwCl (w' u) H → va_D A (w' u) → va_S A s.heap H locs → post v u → W p l e rm s mm args below meth c H locs 0 0 Q (F0 mm pc ls [.int v])) →
      W p l e rm s mm args below meth c s.heap [] 0 0 Q (F0 mm 0 ls [])) : WrI l y ws rm av D w tys post w' := by
  intro sz
  refine Met.ofW (cc := cc) (maxL := maxL) (ret := some rt) hy hw ?_
  intro p e s m args below meth c s₁ B hml hv
  obtain ⟨rfl, hsz, hP, hK, hD⟩ := hv
  subst hsz
  have hts := atoms_spec (ws := ws) B.pre
  have hlocks := B.notSynchronized
  have hl := lv_entry av (n := maxL) hav
  rw [lg_entry_eq]
  generalize (lg_sl av ++ List.replicate (maxL - (lg_sl av).length) Slot.unset).toArray = ls at hl ⊢
  refine body p e s m _ below meth c _ ls (va_A w s.heap.size) ⟨B.exec, B.bytes, hml, findClass_of_methodNamed B.named, hts⟩ hK hP (hD.self) (fun q h => Or.inr h) va_S.rf hl ?_
  intro v u pc ls H locs hd hn hP1 hD1 hS hpost
  exact W.zret B.exec B.bytes B.returns hn (fun t ht hW => ⟨⟨v, u, rfl, hpost, by rw [ht]; exact hP1, hD1⟩, hS.F ht⟩) hS.2.2 hd
theorem WrV.mk {U : Type} {l : Launch} {y : MethodName} {ws ws' : List Cond} {rm : Room} {av : List Value} {D : va_G} {w : va_W} {tys : List (ClassId × FieldType)} {post : U → Prop} {w' : U → va_W} {cc : ByteArray} {maxL : Nat} (hy : plainName y.cls = true) (hw : ws = Cond.code y cc maxL none :: ws') (hav : (lg_sl av).length ≤ maxL)
    (body : ∀ (p : Program) (e : Env) (s : State) (mm : MethodId) (args : Array Value) (below : List Frame) (meth : Method) (c : Code) (Q : State → Prop) (ls : Array Slot) (A : Nat → Prop), CallFix p mm c cc maxL s args ws y.cls → va_K D vwCl tys s → va_P D vwCl w s.heap → va_D A w → (∀ q, s.heap.size ≤ q → A q) → va_S A s.heap s.heap [] → lv_has ls maxL (lv_args 0 av) →
      (∀ (u : U) (pc : Nat) (ls : Array Slot) (H : Heap) (locs : List Loc), decode cc pc = .ok (.return_, 1) → va_P D vwCl (w' u) H → va_D A (w' u) → va_S A s.heap H locs → post u → W p l e rm s mm args below meth c H locs 0 0 Q (F0 mm pc ls [])) →
      W p l e rm s mm args below meth c s.heap [] 0 0 Q (F0 mm 0 ls [])) : WrV l y ws rm av D w tys post w' := by
  intro sz
  refine Met.ofW (cc := cc) (maxL := maxL) (ret := none) hy hw ?_
  intro p e s m args below meth c s₁ B hml hv
  obtain ⟨rfl, hsz, hP, hK, hD⟩ := hv
  subst hsz
  have hts := atoms_spec (ws := ws) B.pre
  have hlocks := B.notSynchronized
  have hl := lv_entry av (n := maxL) hav
  rw [lg_entry_eq]
  generalize (lg_sl av ++ List.replicate (maxL - (lg_sl av).length) Slot.unset).toArray = ls at hl ⊢
  refine body p e s m _ below meth c _ ls (va_A w s.heap.size) ⟨B.exec, B.bytes, hml, findClass_of_methodNamed B.named, hts⟩ hK hP (hD.self) (fun q h => Or.inr h) va_S.rf hl ?_
  intro u pc ls H locs hd hP1 hD1 hS hpost
  exact W.vret B.exec B.bytes B.returns (fun t ht hW => ⟨⟨u, rfl, hpost, by rw [ht]; exact hP1, hD1⟩, hS.F ht⟩) hS.2.2 hd
/-! calls -/
section CALLS
variable {p : Program} {l : Launch} {e : Env} {R : Room} {s : State} {m : MethodId} {args : Array Value} {below : List Frame} {meth : Method} {c : Code} {H H0 : Heap} {locs : List Loc} {cells slots : Nat} {Q : State → Prop} {cc bytes : ByteArray} {pc nL maxL index n : Nat} {ls : Array Slot} {D : va_G} {w w0 v : va_W} {tys : List (ClassId × FieldType)} {b ci N : Nat} {T : u_T} {fs : List Value} {A : Nat → Prop} {y : MethodName} {ws Ts : List Cond} {rm : Room} {own C : String} {ret : Option FieldType} {As rest st0 : List Value}
theorem fr_hf (hS : va_S A H0 H locs) (hA : ∀ q, H0.size ≤ q → A q) : ∀ q, va_A [] H.size q → A q := fun q h => hA q (Nat.le_trans hS.1 (fr_nil h))
theorem fr_keep {H1 : Heap} (hP : va_P D vwCl w0 H) (hk : ∀ q : Nat, q < H.size → ¬ va_A [] H.size q → H1[q]? = H[q]?) : va_P D vwCl w0 H1 := hP.kept (fun k q hq => hk q.1 (hP k q hq).lt (fun h => Nat.not_le.mpr (hP k q hq).lt (fr_nil h)))
theorem fr_wf (hP : va_P D vwCl w H) (hD : va_D A w) (hS : va_S A H0 H locs) (hA : ∀ q, H0.size ≤ q → A q) : ∀ q, va_A w H.size q → A q := by
  intro q h
  rcases h with ⟨k, e, hk⟩ | h
  · exact hD.2 k (q, e) hk
  · exact hA q (Nat.le_trans hS.1 h)
theorem rdv_i {post : Int32 → Prop} (S : CallFix p m c cc nL s args Ts own) (hM : RdI l y ws rm (.ref b :: As) D w tys post) (cw : CallW R s args own C index y bytes maxL ret ws rm 0 0 n) (hn : As.length = n) (hK : va_K D vwCl tys s) (hPw : va_P D vwCl w H) (hc : vwCl[ci]? = some (C, T, N)) (he : w[0]? = some (b, .inr (ci, fs))) (hsize : ls.size = nL) (hstack : st0 = As.reverse ++ .ref b :: rest) (hW : (rest.map fun v => v.category).sum ≤ 8) (hdg : decode cc pc = .ok (.invokevirtual index, 3)) (hf : cells ≤ R.cells ∧ slots ≤ R.slots) (hP : va_P D vwCl w0 H) (hS : va_S A H0 H locs) (hA : ∀ q, H0.size ≤ q → A q)
    (kk : ∀ (r : Int32) (H1 : Heap) (locs1 : List Loc), post r → va_P D vwCl w0 H1 → va_S A H0 H1 locs1 → W p l e R s m args below meth c H1 locs1 cells slots Q (F0 m (pc + 3) ls (.int r :: rest))) : W p l e R s m args below meth c H locs cells slots Q (F0 m pc ls st0) := by
  refine va_calli (va_runV (As := As) (rest := rest) S (hM H.size) cw ⟨fb_R, va_recv hK hPw hc he, fun U hU hWm => ⟨rfl, by rw [hU], by rw [hU]; exact hPw, va_K.moved hWm.alike hK⟩⟩ rfl hn hsize hstack (lv_room hW) hdg hf) hS (fun q _ h => fr_hf hS hA q h) (fr_hf hS hA) (fun r u t H1 locs1 ht hvm hw hB hz1 hk1 hS1 => ?_)
  exact kk r H1 locs1 hw (fr_keep hP hk1) hS1
theorem rdv_l {post : Int64 → Prop} (S : CallFix p m c cc nL s args Ts own) (hM : RdL l y ws rm (.ref b :: As) D w tys post) (cw : CallW R s args own C index y bytes maxL ret ws rm 0 0 n) (hn : As.length = n) (hK : va_K D vwCl tys s) (hPw : va_P D vwCl w H) (hc : vwCl[ci]? = some (C, T, N)) (he : w[0]? = some (b, .inr (ci, fs))) (hsize : ls.size = nL) (hstack : st0 = As.reverse ++ .ref b :: rest) (hW : (rest.map fun v => v.category).sum ≤ 8) (hdg : decode cc pc = .ok (.invokevirtual index, 3)) (hf : cells ≤ R.cells ∧ slots ≤ R.slots) (hP : va_P D vwCl w0 H) (hS : va_S A H0 H locs) (hA : ∀ q, H0.size ≤ q → A q)
    (kk : ∀ (r : Int64) (H1 : Heap) (locs1 : List Loc), post r → va_P D vwCl w0 H1 → va_S A H0 H1 locs1 → W p l e R s m args below meth c H1 locs1 cells slots Q (F0 m (pc + 3) ls (.long r :: rest))) : W p l e R s m args below meth c H locs cells slots Q (F0 m pc ls st0) := by
  refine va_calll (va_runV (As := As) (rest := rest) S (hM H.size) cw ⟨fb_R, va_recv hK hPw hc he, fun U hU hWm => ⟨rfl, by rw [hU], by rw [hU]; exact hPw, va_K.moved hWm.alike hK⟩⟩ rfl hn hsize hstack (lv_room hW) hdg hf) hS (fun q _ h => fr_hf hS hA q h) (fr_hf hS hA) (fun r u t H1 locs1 ht hvm hw hB hz1 hk1 hS1 => ?_)
  exact kk r H1 locs1 hw (fr_keep hP hk1) hS1
theorem rds_i {post : Int32 → Prop} (S : CallFix p m c cc nL s args Ts own) (hM : RdI l y ws rm As D w tys post) (cw : CallB R s args own index y bytes maxL ret ws rm 0 0 n ∧ (Cond.static y).before args s = true) (hn : As.length = n) (hK : va_K D vwCl tys s) (hPw : va_P D vwCl w H) (hsize : ls.size = nL) (hstack : st0 = As.reverse ++ rest) (hW : (rest.map fun v => v.category).sum ≤ 8) (hdg : decode cc pc = .ok (.invokestatic index, 3)) (hf : cells ≤ R.cells ∧ slots ≤ R.slots) (hP : va_P D vwCl w0 H) (hS : va_S A H0 H locs) (hA : ∀ q, H0.size ≤ q → A q)
    (kk : ∀ (r : Int32) (H1 : Heap) (locs1 : List Loc), post r → va_P D vwCl w0 H1 → va_S A H0 H1 locs1 → W p l e R s m args below meth c H1 locs1 cells slots Q (F0 m (pc + 3) ls (.int r :: rest))) : W p l e R s m args below meth c H locs cells slots Q (F0 m pc ls st0) := by
  refine va_calli (va_runS (As := As) (rest := rest) S (hM H.size) cw ⟨fb_R, fun U hU hWm => ⟨rfl, by rw [hU], by rw [hU]; exact hPw, va_K.moved hWm.alike hK⟩⟩ rfl hn hsize hstack (lv_room hW) hdg hf) hS (fun q _ h => fr_hf hS hA q h) (fr_hf hS hA) (fun r u t H1 locs1 ht hvm hw hB hz1 hk1 hS1 => ?_)
  exact kk r H1 locs1 hw (fr_keep hP hk1) hS1
theorem wrv_v {U : Type} {post : U → Prop} {w' : U → va_W} (S : CallFix p m c cc nL s args Ts own) (hM : WrV l y ws rm (.ref b :: As) D w tys post w') (cw : CallW R s args own C index y bytes maxL ret ws rm 0 0 n) (hn : As.length = n) (hK : va_K D vwCl tys s) (hc : vwCl[ci]? = some (C, T, N)) (he : w[0]? = some (b, .inr (ci, fs))) (hsize : ls.size = nL) (hstack : st0 = As.reverse ++ .ref b :: rest) (hW : (rest.map fun v => v.category).sum ≤ 8) (hdg : decode cc pc = .ok (.invokevirtual index, 3)) (hf : cells ≤ R.cells ∧ slots ≤ R.slots) (hP : va_P D vwCl w H) (hD : va_D A w) (hS : va_S A H0 H locs) (hA : ∀ q, H0.size ≤ q → A q)
    (kk : ∀ (u : U) (H1 : Heap) (locs1 : List Loc), post u → va_P D vwCl (w' u) H1 → va_D A (w' u) → va_S A H0 H1 locs1 → W p l e R s m args below meth c H1 locs1 cells slots Q (F0 m (pc + 3) ls rest)) : W p l e R s m args below meth c H locs cells slots Q (F0 m pc ls st0) := by
  have hF := fr_wf hP hD hS hA
  refine va_callv (va_runV (As := As) (rest := rest) S (hM H.size) cw ⟨fb_W, va_recv hK hP hc he, fun U hU hWm => ⟨rfl, by rw [hU], by rw [hU]; exact hP, va_K.moved hWm.alike hK, hD.weaken (fun _ _ _ _ => trivial)⟩⟩ rfl hn hsize hstack (lv_room hW) hdg hf) hS (fun q _ h => hF q h) hF (fun u t H1 locs1 ht hvm hw hB hz1 hk1 hS1 => ?_)
  obtain ⟨hP1, hD1⟩ := hB
  rw [ht] at hP1
  exact kk u H1 locs1 hw hP1 (hD1.weaken (fun _ _ _ h => hF _ h)) hS1
/-- apart: no cell of the one picture is a cell of the other -/
def Apart (w v : va_W) : Prop := ∀ (i j : Nat) (p q : Nat × va_E), w[i]? = some p → v[j]? = some q → p.1 ≠ q.1
theorem Apart.symm (h : Apart w v) : Apart v w := fun i j p q h1 h2 e => h j i q p h2 h1 e.symm
theorem wri_f {U : Type} {post : Int32 → U → Prop} {w' : U → va_W} (S : CallFix p m c cc nL s args Ts own) (hM : WrI l y ws rm (.ref b :: As) D w tys post w') (cw : CallW R s args own C index y bytes maxL ret ws rm 0 0 n) (hn : As.length = n) (hK : va_K D vwCl tys s) (hc : vwCl[ci]? = some (C, T, N)) (he : w[0]? = some (b, .inr (ci, fs))) (hsize : ls.size = nL) (hstack : st0 = As.reverse ++ .ref b :: rest) (hW : (rest.map fun v => v.category).sum ≤ 8) (hdg : decode cc pc = .ok (.invokevirtual index, 3)) (hf : cells ≤ R.cells ∧ slots ≤ R.slots) (hP : va_P D vwCl w H) (hD : va_D A w) (hV : va_P D vwCl v H) (hX : Apart w v) (hS : va_S A H0 H locs) (hA : ∀ q, H0.size ≤ q → A q)
    (kk : ∀ (r : Int32) (u : U) (H1 : Heap) (locs1 : List Loc), post r u → va_P D vwCl (w' u) H1 → va_D A (w' u) → va_P D vwCl v H1 → Apart (w' u) v → va_S A H0 H1 locs1 → W p l e R s m args below meth c H1 locs1 cells slots Q (F0 m (pc + 3) ls (.int r :: rest))) : W p l e R s m args below meth c H locs cells slots Q (F0 m pc ls st0) := by
  have hF := fr_wf hP hD hS hA
  refine va_calli (va_runV (As := As) (rest := rest) S (hM H.size) cw ⟨fb_W, va_recv hK hP hc he, fun U hU hWm => ⟨rfl, by rw [hU], by rw [hU]; exact hP, va_K.moved hWm.alike hK, hD.weaken (fun _ _ _ _ => trivial)⟩⟩ rfl hn hsize hstack (lv_room hW) hdg hf) hS (fun q _ h => hF q h) hF (fun r u t H1 locs1 ht hvm hw hB hz1 hk1 hS1 => ?_)
  obtain ⟨hP1, hD1⟩ := hB
  rw [ht] at hP1
  have hno : ∀ (j : Nat) (q : Nat × va_E), v[j]? = some q → ¬ va_A w H.size q.1 := by
    intro j q hq h
    rcases h with ⟨k, e, hk⟩ | h
    · exact hX k j _ q hk hq rfl
    · exact Nat.not_le.mpr (hV j q hq).lt h
  refine kk r u H1 locs1 hw hP1 (hD1.weaken (fun _ _ _ h => hF _ h)) (hV.kept (fun j q hq => hk1 q.1 (hV j q hq).lt (hno j q hq))) ?_ hS1
  intro i j pp q h1 h2 h3
  exact hno j q h2 (h3 ▸ hD1.2 i pp h1)
end CALLS
