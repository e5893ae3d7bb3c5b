/-! constructors -/
def MkV {U : Type} (l : Launch) (y : MethodName) (ws : List Cond) (rm : Room) (av : List Value) (D : va_G) (w : va_W) (mc ms : Nat) (post : U → Prop) (w' : U → va_W) (tys' : U → List (ClassId × FieldType)) : Prop :=
  ∀ sz : Nat, Met l y ws rm (PcW D w [] av sz) (va_Qv post (fun u t => va_P D vwCl (w' u) t.heap ∧ va_D (va_A w sz) (w' u) ∧ va_K D vwCl (tys' u) t) (va_A w sz)) mc ms (va_A w sz)
theorem MkV.mk {U : Type} {l : Launch} {y : MethodName} {ws ws' : List Cond} {rm : Room} {av : List Value} {D : va_G} {w : va_W} {mc ms : Nat} {post : U → Prop} {w' : U → va_W} {tys' : U → List (ClassId × FieldType)} {cc : ByteArray} {maxL : Nat} (hy : plainName y.cls = true) (hyi : y.name = "<init>") (hw : ws = Cond.code y cc maxL none :: ws') (hav : (lg_sl av).length ≤ maxL)
    (body : ∀ (p : Program) (e : Env) (s : State) (mm : MethodId) (args : Array Value) (below : List Frame) (meth : Method) (c : Code) (Q : State → Prop) (ls : Array Slot) (A : Nat → Prop), CallFix p mm c cc maxL s args ws y.cls → meth.name = "<init>" → va_K D vwCl [] s → va_P D vwCl w s.heap → va_D A w → (∀ q, s.heap.size ≤ q → A q) → va_S A s.heap s.heap [] → lv_has ls maxL (lv_args 0 av) →
      (∀ (u : U) (pc : Nat) (ls : Array Slot) (H : Heap) (locs : List Loc), decode cc pc = .ok (.return_, 1) → va_P D vwCl (w' u) H → va_D A (w' u) → va_K D vwCl (tys' u) s → va_S A s.heap H locs → post u → W p l e rm s mm args below meth c H locs mc ms Q (F0 mm pc ls [])) →
      W p l e rm s mm args below meth c s.heap [] 0 0 Q (F0 mm 0 ls [])) : MkV l y ws rm av D w mc ms post w' tys' := by
  intro sz
  refine Met.ofW (cc := cc) (maxL := maxL) (ret := none) hy hw ?_
  intro p e s m args below meth c s₁ B hml hv
  obtain ⟨rfl, hsz, hP, hK, hD⟩ := hv
  subst hsz
  have hts := atoms_spec (ws := ws) B.pre
  have hlocks := B.notSynchronized
  have hin : meth.name = "<init>" := (name_of_methodNamed B.named B.method).1.trans hyi
  have hl := lv_entry av (n := maxL) hav
  rw [lg_entry_eq]
  generalize (lg_sl av ++ List.replicate (maxL - (lg_sl av).length) Slot.unset).toArray = ls at hl ⊢
  refine body p e s m _ below meth c _ ls (va_A w s.heap.size) ⟨B.exec, B.bytes, hml, findClass_of_methodNamed B.named, hts⟩ hin hK hP (hD.self) (fun q h => Or.inr h) va_S.rf hl ?_
  intro u pc ls H locs hd hP1 hD1 hK1 hS hpost
  exact W.vret B.exec B.bytes B.returns (fun t ht hW => ⟨⟨u, rfl, hpost, by rw [ht]; exact hP1, hD1, va_K.moved hW.alike hK1⟩, hS.F ht⟩) hS.2.2 hd
theorem K_eq {D : va_G} {tys : List (ClassId × FieldType)} {s : State} {c1 c2 : ClassId} (h : va_K D vwCl tys s) (i j : Nat) (h1 : tys[i]? = some (c1, .int)) (h2 : tys[j]? = some (c2, .int)) : c1 = c2 := by
  have e1 : s.vm.findClass ("[" ++ FieldType.int.toString) = some c1 := (h.2 i _ h1).2
  have e2 : s.vm.findClass ("[" ++ FieldType.int.toString) = some c2 := (h.2 j _ h2).2
  exact Option.some.inj (e1.symm.trans e2)
theorem K_eqL {D : va_G} {tys : List (ClassId × FieldType)} {s : State} {c1 c2 : ClassId} (h : va_K D vwCl tys s) (i j : Nat) (h1 : tys[i]? = some (c1, .long)) (h2 : tys[j]? = some (c2, .long)) : c1 = c2 := by
  have e1 : s.vm.findClass ("[" ++ FieldType.long.toString) = some c1 := (h.2 i _ h1).2
  have e2 : s.vm.findClass ("[" ++ FieldType.long.toString) = some c2 := (h.2 j _ h2).2
  exact Option.some.inj (e1.symm.trans e2)
section GPF
variable {p : Program} {l : Launch} {e : Env} {R : Room} {s : State} {m : MethodId} {args : Array Value} {below : List Frame} {meth : Method} {c : Code} {H H0 : Heap} {locs : List Loc} {cells slots : Nat} {Q : State → Prop} {cc : ByteArray} {pc nL index : Nat} {ls : Array Slot} {D : va_G} {w : va_W} {tys : List (ClassId × FieldType)} {a : Nat} {fs : List Value} {A : Nat → Prop} {Ts : List Cond} {rest : List Value} {v : Value}
theorem x0_putF (S : CallFix p m c cc nL s args Ts RX0) (hin : ∀ w ∈ wsX00, w ∈ Ts) (hin2 : meth.name = "<init>") (hK : va_K D vwCl tys s) (hP : va_P D vwCl w H) (hD : va_D A w) (hS : va_S A H0 H locs) (he : w[0]? = some (a, .inr (0, fs))) (k : Nat) (hk : k < 11) (h1 : (TX0 k).1 = "PrimeBench") (hl : Cond.fieldLink RX0 index "PrimeBench" (TX0 k).2.1 (TX0 k).2.2.1 ∈ Ts) (hfin : (TX0 k).2.2.2 = true) {ty : FieldType} (hd : parseFieldDescriptor (TX0 k).2.2.1 = some ty) (hn : narrow ty v = v) (hfit : fits ty v = true) (hlen : k < fs.length) (hdg : decode cc pc = .ok (.putfield index, 3))
    (kk : ∀ (H1 : Heap) (locs1 : List Loc), va_P D vwCl (w.set 0 (a, .inr (0, fs.set k v))) H1 → va_D A (w.set 0 (a, .inr (0, fs.set k v))) → va_S A H0 H1 locs1 → W p l e R s m args below meth c H1 locs1 cells slots Q (F0 m (pc + 3) ls rest)) : W p l e R s m args below meth c H locs cells slots Q (F0 m pc ls (v :: .ref a :: rest)) :=
  va_putF (D := D) (ci := 0) (C := RX0) (T := TX0) (N := 11) S.1 S.2.1 S.2.2.2.2 hin tyX0 tyX0_ok nmX0 S.2.2.2.1 hK hP hD hS 0 he rfl k hk (S.2.2.2.2 _ hl) (by rw [h1]; exact fun _ h => h) hfin hin2 h1 hd hn hfit hlen hdg kk
theorem x1_putF (S : CallFix p m c cc nL s args Ts RX1) (hin : ∀ w ∈ wsX10, w ∈ Ts) (hin2 : meth.name = "<init>") (hK : va_K D vwCl tys s) (hP : va_P D vwCl w H) (hD : va_D A w) (hS : va_S A H0 H locs) (he : w[0]? = some (a, .inr (1, fs))) (k : Nat) (hk : k < 12) (h1 : (TX1 k).1 = "PrimeBenchModel") (hl : Cond.fieldLink RX1 index "PrimeBenchModel" (TX1 k).2.1 (TX1 k).2.2.1 ∈ Ts) (hfin : (TX1 k).2.2.2 = true) {ty : FieldType} (hd : parseFieldDescriptor (TX1 k).2.2.1 = some ty) (hn : narrow ty v = v) (hfit : fits ty v = true) (hlen : k < fs.length) (hdg : decode cc pc = .ok (.putfield index, 3))
    (kk : ∀ (H1 : Heap) (locs1 : List Loc), va_P D vwCl (w.set 0 (a, .inr (1, fs.set k v))) H1 → va_D A (w.set 0 (a, .inr (1, fs.set k v))) → va_S A H0 H1 locs1 → W p l e R s m args below meth c H1 locs1 cells slots Q (F0 m (pc + 3) ls rest)) : W p l e R s m args below meth c H locs cells slots Q (F0 m pc ls (v :: .ref a :: rest)) :=
  va_putF (D := D) (ci := 1) (C := RX1) (T := TX1) (N := 12) S.1 S.2.1 S.2.2.2.2 hin tyX1 tyX1_ok nmX1 S.2.2.2.1 hK hP hD hS 0 he rfl k hk (S.2.2.2.2 _ hl) (by rw [h1]; exact fun _ h => h) hfin hin2 h1 hd hn hfit hlen hdg kk
end GPF
/-- the numbers of a valid object -/
def Ok3 (p m n : Int32) (P mR nC : Nat) : Prop := p = nI P ∧ P < 2 ^ 31 ∧ PrimeN P ∧ m = nI mR ∧ n = nI nC ∧ 1 ≤ mR ∧ mR ≤ 10 ∧ 1 ≤ nC ∧ nC ≤ 10
def Dims (p m n : Int32) (P mR nC : Nat) : Prop := Ok3 p m n P mR nC ∨ (mR = 0 ∧ nC = 0 ∧ P = 0 ∧ ¬ ∃ P mR nC, Ok3 p m n P mR nC)
theorem Dims.uniq {p m n : Int32} {P mR nC P' mR' nC' : Nat} (h : Dims p m n P mR nC) (h' : Dims p m n P' mR' nC') : P = P' ∧ mR = mR' ∧ nC = nC' := by
  rcases h with h | ⟨rfl, rfl, rfl, h⟩
  · rcases h' with h' | ⟨_, _, _, h'⟩
    · obtain ⟨a1, a2, -, a3, a4, a5, a6, a7, a8⟩ := h
      obtain ⟨b1, b2, -, b3, b4, b5, b6, b7, b8⟩ := h'
      exact ⟨(nI_eq a2 b2).mp (a1.symm.trans b1), (nI_eq (by omega) (by omega)).mp (a3.symm.trans b3), (nI_eq (by omega) (by omega)).mp (a4.symm.trans b4)⟩
    · exact absurd ⟨_, _, _, h⟩ h'
  · rcases h' with h' | ⟨rfl, rfl, rfl, _⟩
    · exact absurd ⟨_, _, _, h'⟩ h
    · exact ⟨rfl, rfl, rfl⟩
theorem side11 {m : Int32} (h0 : ¬ m ≤ 0) (h1 : ¬ nI 11 ≤ m) : ∃ k : Nat, m = nI k ∧ 1 ≤ k ∧ k ≤ 10 := by
  obtain ⟨k, hk, rfl⟩ := nI_of (x := m) (fun q => h0 (by rw [Int32.lt_iff_toInt_lt] at q; rw [Int32.le_iff_toInt_le]; omega))
  rw [nI_leI (by decide) hk] at h1
  rw [← nI_0, nI_leI hk (by decide)] at h0
  exact ⟨k, rfl, by omega, by omega⟩
theorem inval_s {p m n : Int32} (h : ∀ k : Nat, 1 ≤ k → k ≤ 10 → m ≠ nI k) : Dims p m n 0 0 0 := Or.inr ⟨rfl, rfl, rfl, fun ⟨_, _, _, _, _, _, a3, _, a5, a6, _⟩ => h _ a5 a6 a3⟩
theorem inval_t {p m n : Int32} (h : ∀ k : Nat, 1 ≤ k → k ≤ 10 → n ≠ nI k) : Dims p m n 0 0 0 := Or.inr ⟨rfl, rfl, rfl, fun ⟨_, _, _, _, _, _, _, a4, _, _, a7, a8⟩ => h _ a7 a8 a4⟩
theorem inval_p {p m n : Int32} (h : ∀ v : Nat, v < 2 ^ 31 → PrimeN v → p ≠ nI v) : Dims p m n 0 0 0 := Or.inr ⟨rfl, rfl, rfl, fun ⟨_, _, _, a1, a2, a3, _⟩ => h _ a2 a3 a1⟩
theorem no_le {m : Int32} (h : m ≤ 0) : ∀ k : Nat, 1 ≤ k → k ≤ 10 → m ≠ nI k := by
  intro k h1 h2 e
  subst e
  rw [← nI_0, nI_leI (by omega) (by decide)] at h
  omega
theorem no_ge {m : Int32} (h : nI 11 ≤ m) : ∀ k : Nat, 1 ≤ k → k ≤ 10 → m ≠ nI k := by
  intro k h1 h2 e
  subst e
  rw [nI_leI (by decide) (by omega)] at h
  omega
