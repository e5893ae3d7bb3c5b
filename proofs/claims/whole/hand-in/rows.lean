section
/-- a private method of a class that the tables say can be made, by its rows of tables_1 -/
def lw_okq (q : MethodName × Nat) : Prop := (q.1.cls ≠ "java/lang/invoke/MethodHandle" ∧ q.1.cls ≠ "java/lang/invoke/VarHandle") ∧ Cond.instantiable q.1.cls q.2 ∈ tables_1 ∧ Cond.privateMethod q.1 ∈ tables_1 ∧ Cond.instanceMethod q.1 ∈ tables_1
theorem lw_p0 : lw_okq (⟨"PrimeBench", "isRow", "(I)Z"⟩, 11) := ⟨⟨by decide +kernel, by decide +kernel⟩, List.mem_of_getElem? (i := 4) (by decide +kernel), List.mem_of_getElem? (i := 57) (by decide +kernel), List.mem_of_getElem? (i := 58) (by decide +kernel)⟩
theorem lw_p1 : lw_okq (⟨"PrimeBench", "isColumn", "(I)Z"⟩, 11) := ⟨⟨by decide +kernel, by decide +kernel⟩, List.mem_of_getElem? (i := 4) (by decide +kernel), List.mem_of_getElem? (i := 61) (by decide +kernel), List.mem_of_getElem? (i := 62) (by decide +kernel)⟩
theorem lw_p2 : lw_okq (⟨"PrimeBench", "startWork", "()V"⟩, 11) := ⟨⟨by decide +kernel, by decide +kernel⟩, List.mem_of_getElem? (i := 4) (by decide +kernel), List.mem_of_getElem? (i := 77) (by decide +kernel), List.mem_of_getElem? (i := 78) (by decide +kernel)⟩
theorem lw_p3 : lw_okq (⟨"PrimeBench", "reduceColumn", "(I)V"⟩, 11) := ⟨⟨by decide +kernel, by decide +kernel⟩, List.mem_of_getElem? (i := 4) (by decide +kernel), List.mem_of_getElem? (i := 81) (by decide +kernel), List.mem_of_getElem? (i := 82) (by decide +kernel)⟩
theorem lw_p4 : lw_okq (⟨"PrimeBench", "firstRowLeft", "(I)I"⟩, 11) := ⟨⟨by decide +kernel, by decide +kernel⟩, List.mem_of_getElem? (i := 4) (by decide +kernel), List.mem_of_getElem? (i := 85) (by decide +kernel), List.mem_of_getElem? (i := 86) (by decide +kernel)⟩
theorem lw_p5 : lw_okq (⟨"PrimeBench", "changePlaces", "(II)V"⟩, 11) := ⟨⟨by decide +kernel, by decide +kernel⟩, List.mem_of_getElem? (i := 4) (by decide +kernel), List.mem_of_getElem? (i := 89) (by decide +kernel), List.mem_of_getElem? (i := 90) (by decide +kernel)⟩
theorem lw_p6 : lw_okq (⟨"PrimeBench", "negative", "(J)J"⟩, 11) := ⟨⟨by decide +kernel, by decide +kernel⟩, List.mem_of_getElem? (i := 4) (by decide +kernel), List.mem_of_getElem? (i := 93) (by decide +kernel), List.mem_of_getElem? (i := 94) (by decide +kernel)⟩
theorem lw_p7 : lw_okq (⟨"PrimeBench", "inverseOf", "(I)J"⟩, 11) := ⟨⟨by decide +kernel, by decide +kernel⟩, List.mem_of_getElem? (i := 4) (by decide +kernel), List.mem_of_getElem? (i := 97) (by decide +kernel), List.mem_of_getElem? (i := 98) (by decide +kernel)⟩
theorem lw_p8 : lw_okq (⟨"PrimeBench", "multiplyRow", "(IJ)V"⟩, 11) := ⟨⟨by decide +kernel, by decide +kernel⟩, List.mem_of_getElem? (i := 4) (by decide +kernel), List.mem_of_getElem? (i := 101) (by decide +kernel), List.mem_of_getElem? (i := 102) (by decide +kernel)⟩
theorem lw_p9 : lw_okq (⟨"PrimeBench", "takeRow", "(III)V"⟩, 11) := ⟨⟨by decide +kernel, by decide +kernel⟩, List.mem_of_getElem? (i := 4) (by decide +kernel), List.mem_of_getElem? (i := 105) (by decide +kernel), List.mem_of_getElem? (i := 106) (by decide +kernel)⟩
theorem lw_p10 : lw_okq (⟨"PrimeBench", "transformNumber", "(II)I"⟩, 11) := ⟨⟨by decide +kernel, by decide +kernel⟩, List.mem_of_getElem? (i := 4) (by decide +kernel), List.mem_of_getElem? (i := 121) (by decide +kernel), List.mem_of_getElem? (i := 122) (by decide +kernel)⟩
theorem lw_p11 : lw_okq (⟨"PrimeBench", "hasInverse", "()Z"⟩, 11) := ⟨⟨by decide +kernel, by decide +kernel⟩, List.mem_of_getElem? (i := 4) (by decide +kernel), List.mem_of_getElem? (i := 133) (by decide +kernel), List.mem_of_getElem? (i := 134) (by decide +kernel)⟩
theorem lw_p12 : lw_okq (⟨"PrimeBench", "changedRightSide", "(I)I"⟩, 11) := ⟨⟨by decide +kernel, by decide +kernel⟩, List.mem_of_getElem? (i := 4) (by decide +kernel), List.mem_of_getElem? (i := 141) (by decide +kernel), List.mem_of_getElem? (i := 142) (by decide +kernel)⟩
theorem lw_p13 : lw_okq (⟨"PrimeBench", "freeColumn", "(I)I"⟩, 11) := ⟨⟨by decide +kernel, by decide +kernel⟩, List.mem_of_getElem? (i := 4) (by decide +kernel), List.mem_of_getElem? (i := 158) (by decide +kernel), List.mem_of_getElem? (i := 159) (by decide +kernel)⟩
theorem lw_p14 : lw_okq (⟨"PrimeBenchModel", "isPlace", "(II)Z"⟩, 12) := ⟨⟨by decide +kernel, by decide +kernel⟩, List.mem_of_getElem? (i := 165) (by decide +kernel), List.mem_of_getElem? (i := 217) (by decide +kernel), List.mem_of_getElem? (i := 218) (by decide +kernel)⟩
theorem lw_p15 : lw_okq (⟨"PrimeBenchModel", "firstWith", "(I)I"⟩, 12) := ⟨⟨by decide +kernel, by decide +kernel⟩, List.mem_of_getElem? (i := 165) (by decide +kernel), List.mem_of_getElem? (i := 233) (by decide +kernel), List.mem_of_getElem? (i := 234) (by decide +kernel)⟩
def lw_privs_1 : List (MethodName × Nat) := [(⟨"PrimeBench", "isRow", "(I)Z"⟩, 11), (⟨"PrimeBench", "isColumn", "(I)Z"⟩, 11), (⟨"PrimeBench", "startWork", "()V"⟩, 11), (⟨"PrimeBench", "reduceColumn", "(I)V"⟩, 11), (⟨"PrimeBench", "firstRowLeft", "(I)I"⟩, 11), (⟨"PrimeBench", "changePlaces", "(II)V"⟩, 11), (⟨"PrimeBench", "negative", "(J)J"⟩, 11), (⟨"PrimeBench", "inverseOf", "(I)J"⟩, 11), (⟨"PrimeBench", "multiplyRow", "(IJ)V"⟩, 11), (⟨"PrimeBench", "takeRow", "(III)V"⟩, 11), (⟨"PrimeBench", "transformNumber", "(II)I"⟩, 11), (⟨"PrimeBench", "hasInverse", "()Z"⟩, 11), (⟨"PrimeBench", "changedRightSide", "(I)I"⟩, 11), (⟨"PrimeBench", "freeColumn", "(I)I"⟩, 11), (⟨"PrimeBenchModel", "isPlace", "(II)Z"⟩, 12), (⟨"PrimeBenchModel", "firstWith", "(I)I"⟩, 12)]
theorem lw_r1 : ∀ q ∈ lw_privs_1, lw_okq q := List.forall_mem_cons.mpr ⟨lw_p0, List.forall_mem_cons.mpr ⟨lw_p1, List.forall_mem_cons.mpr ⟨lw_p2, List.forall_mem_cons.mpr ⟨lw_p3, List.forall_mem_cons.mpr ⟨lw_p4, List.forall_mem_cons.mpr ⟨lw_p5, List.forall_mem_cons.mpr ⟨lw_p6, List.forall_mem_cons.mpr ⟨lw_p7, List.forall_mem_cons.mpr ⟨lw_p8, List.forall_mem_cons.mpr ⟨lw_p9, List.forall_mem_cons.mpr ⟨lw_p10, List.forall_mem_cons.mpr ⟨lw_p11, List.forall_mem_cons.mpr ⟨lw_p12, List.forall_mem_cons.mpr ⟨lw_p13, List.forall_mem_cons.mpr ⟨lw_p14, List.forall_mem_cons.mpr ⟨lw_p15, fun _ h => absurd h List.not_mem_nil⟩⟩⟩⟩⟩⟩⟩⟩⟩⟩⟩⟩⟩⟩⟩⟩
theorem lw_p16 : lw_okq (⟨"PrimeBenchModel", "swap", "(II)V"⟩, 12) := ⟨⟨by decide +kernel, by decide +kernel⟩, List.mem_of_getElem? (i := 165) (by decide +kernel), List.mem_of_getElem? (i := 237) (by decide +kernel), List.mem_of_getElem? (i := 238) (by decide +kernel)⟩
theorem lw_p17 : lw_okq (⟨"PrimeBenchModel", "clear", "(I)V"⟩, 12) := ⟨⟨by decide +kernel, by decide +kernel⟩, List.mem_of_getElem? (i := 165) (by decide +kernel), List.mem_of_getElem? (i := 241) (by decide +kernel), List.mem_of_getElem? (i := 242) (by decide +kernel)⟩
theorem lw_p18 : lw_okq (⟨"PrimeBenchModel", "power", "(JJ)J"⟩, 12) := ⟨⟨by decide +kernel, by decide +kernel⟩, List.mem_of_getElem? (i := 165) (by decide +kernel), List.mem_of_getElem? (i := 245) (by decide +kernel), List.mem_of_getElem? (i := 246) (by decide +kernel)⟩
theorem lw_p19 : lw_okq (⟨"PrimeBenchModel", "isSquare", "(II)Z"⟩, 12) := ⟨⟨by decide +kernel, by decide +kernel⟩, List.mem_of_getElem? (i := 165) (by decide +kernel), List.mem_of_getElem? (i := 261) (by decide +kernel), List.mem_of_getElem? (i := 262) (by decide +kernel)⟩
theorem lw_p20 : lw_okq (⟨"PrimeBenchModel", "isSolvable", "()Z"⟩, 12) := ⟨⟨by decide +kernel, by decide +kernel⟩, List.mem_of_getElem? (i := 165) (by decide +kernel), List.mem_of_getElem? (i := 277) (by decide +kernel), List.mem_of_getElem? (i := 278) (by decide +kernel)⟩
theorem lw_p21 : lw_okq (⟨"PrimeBenchModel", "changed", "(I)J"⟩, 12) := ⟨⟨by decide +kernel, by decide +kernel⟩, List.mem_of_getElem? (i := 165) (by decide +kernel), List.mem_of_getElem? (i := 281) (by decide +kernel), List.mem_of_getElem? (i := 282) (by decide +kernel)⟩
theorem lw_p22 : lw_okq (⟨"PrimeBenchModel", "rowOf", "(I)I"⟩, 12) := ⟨⟨by decide +kernel, by decide +kernel⟩, List.mem_of_getElem? (i := 165) (by decide +kernel), List.mem_of_getElem? (i := 289) (by decide +kernel), List.mem_of_getElem? (i := 290) (by decide +kernel)⟩
def lw_privs_2 : List (MethodName × Nat) := [(⟨"PrimeBenchModel", "swap", "(II)V"⟩, 12), (⟨"PrimeBenchModel", "clear", "(I)V"⟩, 12), (⟨"PrimeBenchModel", "power", "(JJ)J"⟩, 12), (⟨"PrimeBenchModel", "isSquare", "(II)Z"⟩, 12), (⟨"PrimeBenchModel", "isSolvable", "()Z"⟩, 12), (⟨"PrimeBenchModel", "changed", "(I)J"⟩, 12), (⟨"PrimeBenchModel", "rowOf", "(I)I"⟩, 12)]
theorem lw_r2 : ∀ q ∈ lw_privs_2, lw_okq q := List.forall_mem_cons.mpr ⟨lw_p16, List.forall_mem_cons.mpr ⟨lw_p17, List.forall_mem_cons.mpr ⟨lw_p18, List.forall_mem_cons.mpr ⟨lw_p19, List.forall_mem_cons.mpr ⟨lw_p20, List.forall_mem_cons.mpr ⟨lw_p21, List.forall_mem_cons.mpr ⟨lw_p22, fun _ h => absurd h List.not_mem_nil⟩⟩⟩⟩⟩⟩⟩
def lw_privs : List (MethodName × Nat) := lw_privs_1 ++ (lw_privs_2)
def lw_tbl : List Cond := k2_sels lw_privs ++ tables_1
theorem lw_privs_ok : ∀ q ∈ lw_privs, lw_okq q := by
  show ∀ q ∈ lw_privs_1 ++ (lw_privs_2), lw_okq q
  exact List.forall_mem_append.mpr ⟨lw_r1, lw_r2⟩
end
section
/-! ===== BEGIN words of one list among another's, by their places ===== -/
theorem goodIn_r {big : List Cond} (ws : List Cond) (ps : List Nat) (hp : ws = ps.filterMap (fun i => big[i]?)) (h : ws.all goodWord = true) : GoodIn big ws := by
  intro w hw
  have h1 := List.all_eq_true.mp h w hw
  rw [hp] at hw
  obtain ⟨i, -, hi⟩ := List.mem_filterMap.mp hw
  have hm : w ∈ big := by first | exact List.mem_of_getElem? hi | exact List.getElem?_mem hi
  exact ⟨hm, good_of_word h1⟩
theorem goodIn_app {big a b : List Cond} (ha : GoodIn big a) (hb : GoodIn big b) : GoodIn big (a ++ b) := fun w h => (List.mem_append.mp h).elim (ha w) (hb w)
theorem goodIn_ca {big a b : List Cond} {c : Cond} (ha : GoodIn big (c :: a)) (hb : GoodIn big b) : GoodIn big (c :: (a ++ b)) := fun w h => (List.mem_cons.mp h).elim (fun e => ha w (List.mem_cons.mpr (Or.inl e))) (fun h => (List.mem_append.mp h).elim (fun h => ha w (List.mem_cons.mpr (Or.inr h))) (hb w))
theorem goodIn_sub {big ws : List Cond} (hm : ∀ w ∈ ws, w ∈ big) (h : ws.all goodWord = true) : GoodIn big ws := fun w hw => ⟨hm w hw, good_of_word (List.all_eq_true.mp h w hw)⟩
/-! ===== END ===== -/

/-! ===== BEGIN printed: names, fields, word lists, decode rows ===== -/
def RX0 : String := "PrimeBench"
def TX0 : u_T := fun k => match k with
  | 0 => ("PrimeBench", "prime", "I", true)
  | 1 => ("PrimeBench", "rows", "I", true)
  | 2 => ("PrimeBench", "columns", "I", true)
  | 3 => ("PrimeBench", "matrix", "[I", true)
  | 4 => ("PrimeBench", "rightSide", "[I", true)
  | 5 => ("PrimeBench", "work", "[I", true)
  | 6 => ("PrimeBench", "workWidth", "I", true)
  | 7 => ("PrimeBench", "pivotRows", "[I", true)
  | 8 => ("PrimeBench", "isReduced", "Z", false)
  | 9 => ("PrimeBench", "pivots", "I", false)
  | _ => ("PrimeBench", "pivotProduct", "J", false)
def tyX0 : Nat → FieldType := fun k => match k with
  | 0 => .int
  | 1 => .int
  | 2 => .int
  | 3 => .array .int
  | 4 => .array .int
  | 5 => .array .int
  | 6 => .int
  | 7 => .array .int
  | 8 => .boolean
  | 9 => .int
  | _ => .long
abbrev wsX00 : List Cond := u_ws RX0 TX0 11
theorem nmX0 : ∀ a, a < 11 → ∀ b, b < 11 → a ≠ b → (TX0 a).2.1 ≠ (TX0 b).2.1 := by decide +kernel
theorem tyX0_ok : ∀ k, k < 11 → parseFieldDescriptor (TX0 k).2.2.1 = some (tyX0 k) := by decide +kernel
abbrev cX0_init : ByteArray := prog_1_method_1_code
def yX0_init : MethodName := ⟨RX0, "<init>", "(III)V"⟩
abbrev cX0_set : ByteArray := prog_1_method_2_code
def yX0_set : MethodName := ⟨RX0, "set", "(III)Z"⟩
abbrev cX0_get : ByteArray := prog_1_method_3_code
def yX0_get : MethodName := ⟨RX0, "get", "(II)I"⟩
abbrev cX0_setRhs : ByteArray := prog_1_method_4_code
def yX0_setRhs : MethodName := ⟨RX0, "setRhs", "(II)Z"⟩
abbrev cX0_reduce : ByteArray := prog_1_method_5_code
def yX0_reduce : MethodName := ⟨RX0, "reduce", "()I"⟩
abbrev cX0_rank : ByteArray := prog_1_method_6_code
def yX0_rank : MethodName := ⟨RX0, "rank", "()I"⟩
abbrev cX0_rrefAt : ByteArray := prog_1_method_7_code
def yX0_rrefAt : MethodName := ⟨RX0, "rrefAt", "(II)I"⟩
abbrev cX0_transformAt : ByteArray := prog_1_method_8_code
def yX0_transformAt : MethodName := ⟨RX0, "transformAt", "(II)I"⟩
abbrev cX0_det : ByteArray := prog_1_method_9_code
def yX0_det : MethodName := ⟨RX0, "det", "()I"⟩
abbrev cX0_inverseAt : ByteArray := prog_1_method_10_code
def yX0_inverseAt : MethodName := ⟨RX0, "inverseAt", "(II)I"⟩
abbrev cX0_solvable : ByteArray := prog_1_method_11_code
def yX0_solvable : MethodName := ⟨RX0, "solvable", "()Z"⟩
abbrev cX0_solution : ByteArray := prog_1_method_12_code
def yX0_solution : MethodName := ⟨RX0, "solution", "(I)I"⟩
abbrev cX0_kernelDim : ByteArray := prog_1_method_13_code
def yX0_kernelDim : MethodName := ⟨RX0, "kernelDim", "()I"⟩
abbrev cX0_kernelAt : ByteArray := prog_1_method_14_code
def yX0_kernelAt : MethodName := ⟨RX0, "kernelAt", "(II)I"⟩
abbrev cX0_isSide : ByteArray := prog_1_method_15_code
def yX0_isSide : MethodName := ⟨RX0, "isSide", "(I)Z"⟩
abbrev cX0_isPrime : ByteArray := prog_1_method_16_code
def yX0_isPrime : MethodName := ⟨RX0, "isPrime", "(I)Z"⟩
abbrev cX0_isRow : ByteArray := prog_1_method_17_code
def yX0_isRow : MethodName := ⟨RX0, "isRow", "(I)Z"⟩
abbrev cX0_isColumn : ByteArray := prog_1_method_18_code
def yX0_isColumn : MethodName := ⟨RX0, "isColumn", "(I)Z"⟩
abbrev cX0_hasInverse : ByteArray := prog_1_method_19_code
def yX0_hasInverse : MethodName := ⟨RX0, "hasInverse", "()Z"⟩
abbrev cX0_transformNumber : ByteArray := prog_1_method_20_code
def yX0_transformNumber : MethodName := ⟨RX0, "transformNumber", "(II)I"⟩
abbrev cX0_startWork : ByteArray := prog_1_method_21_code
def yX0_startWork : MethodName := ⟨RX0, "startWork", "()V"⟩
abbrev cX0_reduceColumn : ByteArray := prog_1_method_22_code
def yX0_reduceColumn : MethodName := ⟨RX0, "reduceColumn", "(I)V"⟩
abbrev cX0_firstRowLeft : ByteArray := prog_1_method_23_code
def yX0_firstRowLeft : MethodName := ⟨RX0, "firstRowLeft", "(I)I"⟩
abbrev cX0_changePlaces : ByteArray := prog_1_method_24_code
def yX0_changePlaces : MethodName := ⟨RX0, "changePlaces", "(II)V"⟩
abbrev cX0_multiplyRow : ByteArray := prog_1_method_25_code
def yX0_multiplyRow : MethodName := ⟨RX0, "multiplyRow", "(IJ)V"⟩
abbrev cX0_takeRow : ByteArray := prog_1_method_26_code
def yX0_takeRow : MethodName := ⟨RX0, "takeRow", "(III)V"⟩
abbrev cX0_negative : ByteArray := prog_1_method_27_code
def yX0_negative : MethodName := ⟨RX0, "negative", "(J)J"⟩
abbrev cX0_inverseOf : ByteArray := prog_1_method_28_code
def yX0_inverseOf : MethodName := ⟨RX0, "inverseOf", "(I)J"⟩
abbrev cX0_changedRightSide : ByteArray := prog_1_method_29_code
def yX0_changedRightSide : MethodName := ⟨RX0, "changedRightSide", "(I)I"⟩
abbrev cX0_freeColumn : ByteArray := prog_1_method_30_code
def yX0_freeColumn : MethodName := ⟨RX0, "freeColumn", "(I)I"⟩
def RX1 : String := "PrimeBenchModel"
def TX1 : u_T := fun k => match k with
  | 0 => ("PrimeBenchModel", "thrown", "I", false)
  | 1 => ("PrimeBenchModel", "p", "J", true)
  | 2 => ("PrimeBenchModel", "m", "I", true)
  | 3 => ("PrimeBenchModel", "n", "I", true)
  | 4 => ("PrimeBenchModel", "valid", "Z", true)
  | 5 => ("PrimeBenchModel", "a", "[J", true)
  | 6 => ("PrimeBenchModel", "b", "[J", true)
  | 7 => ("PrimeBenchModel", "reduced", "Z", false)
  | 8 => ("PrimeBenchModel", "rank", "I", false)
  | 9 => ("PrimeBenchModel", "rows", "[J", true)
  | 10 => ("PrimeBenchModel", "pivots", "[I", true)
  | _ => ("PrimeBenchModel", "sums", "[J", true)
def tyX1 : Nat → FieldType := fun k => match k with
  | 0 => .int
  | 1 => .long
  | 2 => .int
  | 3 => .int
  | 4 => .boolean
  | 5 => .array .long
  | 6 => .array .long
  | 7 => .boolean
  | 8 => .int
  | 9 => .array .long
  | 10 => .array .int
  | _ => .array .long
abbrev wsX10 : List Cond := u_ws RX1 TX1 12
theorem nmX1 : ∀ a, a < 12 → ∀ b, b < 12 → a ≠ b → (TX1 a).2.1 ≠ (TX1 b).2.1 := by decide +kernel
theorem tyX1_ok : ∀ k, k < 12 → parseFieldDescriptor (TX1 k).2.2.1 = some (tyX1 k) := by decide +kernel
abbrev cX1_init : ByteArray := prog_3_method_1_code
def yX1_init : MethodName := ⟨RX1, "<init>", "(III)V"⟩
abbrev cX1_isPrime : ByteArray := prog_3_method_3_code
def yX1_isPrime : MethodName := ⟨RX1, "isPrime", "(I)Z"⟩
abbrev cX1_isPlace : ByteArray := prog_3_method_4_code
def yX1_isPlace : MethodName := ⟨RX1, "isPlace", "(II)Z"⟩
abbrev cX1_set : ByteArray := prog_3_method_5_code
def yX1_set : MethodName := ⟨RX1, "set", "(III)Z"⟩
abbrev cX1_get : ByteArray := prog_3_method_6_code
def yX1_get : MethodName := ⟨RX1, "get", "(II)I"⟩
abbrev cX1_setRhs : ByteArray := prog_3_method_7_code
def yX1_setRhs : MethodName := ⟨RX1, "setRhs", "(II)Z"⟩
abbrev cX1_power : ByteArray := prog_3_method_8_code
def yX1_power : MethodName := ⟨RX1, "power", "(JJ)J"⟩
abbrev cX1_swap : ByteArray := prog_3_method_9_code
def yX1_swap : MethodName := ⟨RX1, "swap", "(II)V"⟩
abbrev cX1_firstWith : ByteArray := prog_3_method_10_code
def yX1_firstWith : MethodName := ⟨RX1, "firstWith", "(I)I"⟩
abbrev cX1_clear : ByteArray := prog_3_method_11_code
def yX1_clear : MethodName := ⟨RX1, "clear", "(I)V"⟩
abbrev cX1_reduce : ByteArray := prog_3_method_12_code
def yX1_reduce : MethodName := ⟨RX1, "reduce", "()I"⟩
abbrev cX1_rank : ByteArray := prog_3_method_13_code
def yX1_rank : MethodName := ⟨RX1, "rank", "()I"⟩
abbrev cX1_rrefAt : ByteArray := prog_3_method_14_code
def yX1_rrefAt : MethodName := ⟨RX1, "rrefAt", "(II)I"⟩
abbrev cX1_isSquare : ByteArray := prog_3_method_15_code
def yX1_isSquare : MethodName := ⟨RX1, "isSquare", "(II)Z"⟩
abbrev cX1_transformAt : ByteArray := prog_3_method_16_code
def yX1_transformAt : MethodName := ⟨RX1, "transformAt", "(II)I"⟩
abbrev cX1_det : ByteArray := prog_3_method_17_code
def yX1_det : MethodName := ⟨RX1, "det", "()I"⟩
abbrev cX1_inverseAt : ByteArray := prog_3_method_18_code
def yX1_inverseAt : MethodName := ⟨RX1, "inverseAt", "(II)I"⟩
abbrev cX1_changed : ByteArray := prog_3_method_19_code
def yX1_changed : MethodName := ⟨RX1, "changed", "(I)J"⟩
abbrev cX1_isSolvable : ByteArray := prog_3_method_20_code
def yX1_isSolvable : MethodName := ⟨RX1, "isSolvable", "()Z"⟩
abbrev cX1_solvable : ByteArray := prog_3_method_21_code
def yX1_solvable : MethodName := ⟨RX1, "solvable", "()Z"⟩
abbrev cX1_rowOf : ByteArray := prog_3_method_22_code
def yX1_rowOf : MethodName := ⟨RX1, "rowOf", "(I)I"⟩
abbrev cX1_solution : ByteArray := prog_3_method_23_code
def yX1_solution : MethodName := ⟨RX1, "solution", "(I)I"⟩
abbrev cX1_kernelDim : ByteArray := prog_3_method_24_code
def yX1_kernelDim : MethodName := ⟨RX1, "kernelDim", "()I"⟩
abbrev cX1_kernelAt : ByteArray := prog_3_method_25_code
def yX1_kernelAt : MethodName := ⟨RX1, "kernelAt", "(II)I"⟩
def RL : String := "PrimeBenchLaw"
abbrev cL_cell : ByteArray := method_2_code
def yL_cell : MethodName := ⟨RL, "cell", "([II)I"⟩
abbrev cL_law : ByteArray := code
def yL_law : MethodName := ⟨RL, "law", "([I)Z"⟩
def wsX0_isSide : List Cond := .code yX0_isSide cX0_isSide 1 (some .boolean) :: ([])
def wsX0_isPrime : List Cond := .code yX0_isPrime cX0_isPrime 2 (some .boolean) :: ([])
def wsX0_init : List Cond := .code yX0_init cX0_init 5 none :: ([.methodLink RX0 1 objectInit, .instanceMethod objectInit, .code objectInit ⟨#[0xb1]⟩ 1 none, .fieldLink RX0 16 "PrimeBench" "prime" "I", .fieldLink RX0 20 "PrimeBench" "rows" "I", .fieldLink RX0 23 "PrimeBench" "columns" "I", .fieldLink RX0 26 "PrimeBench" "workWidth" "I", .arrayClass .int, .fieldLink RX0 29 "PrimeBench" "matrix" "[I", .fieldLink RX0 33 "PrimeBench" "rightSide" "[I", .fieldLink RX0 36 "PrimeBench" "work" "[I", .fieldLink RX0 39 "PrimeBench" "pivotRows" "[I", .fieldLink RX0 42 "PrimeBench" "isReduced" "Z", .fieldLink RX0 46 "PrimeBench" "pivots" "I", .fieldLink RX0 49 "PrimeBench" "pivotProduct" "J", .methodLink RX0 7 yX0_isSide, .static yX0_isSide, .initialized RX0, .code yX0_isSide cX0_isSide 1 (some .boolean), .methodLink RX0 13 yX0_isPrime, .static yX0_isPrime, .code yX0_isPrime cX0_isPrime 2 (some .boolean)] ++ wsX00)
def wsX0_isRow : List Cond := .code yX0_isRow cX0_isRow 2 (some .boolean) :: ([.fieldLink RX0 20 "PrimeBench" "rows" "I"] ++ wsX00)
def wsX0_isColumn : List Cond := .code yX0_isColumn cX0_isColumn 2 (some .boolean) :: ([.fieldLink RX0 23 "PrimeBench" "columns" "I"] ++ wsX00)
def wsX0_set : List Cond := .code yX0_set cX0_set 4 (some .boolean) :: ([.fieldLink RX0 29 "PrimeBench" "matrix" "[I", .fieldLink RX0 23 "PrimeBench" "columns" "I", .fieldLink RX0 16 "PrimeBench" "prime" "I", .fieldLink RX0 42 "PrimeBench" "isReduced" "Z", .methodLink RX0 53 yX0_isRow, .instanceMethod yX0_isRow, .selects RX0 yX0_isRow yX0_isRow, .initialized RX0, .code yX0_isRow cX0_isRow 2 (some .boolean), .fieldLink RX0 20 "PrimeBench" "rows" "I", .methodLink RX0 56 yX0_isColumn, .instanceMethod yX0_isColumn, .selects RX0 yX0_isColumn yX0_isColumn, .code yX0_isColumn cX0_isColumn 2 (some .boolean)] ++ wsX00)
def wsX0_get : List Cond := .code yX0_get cX0_get 3 (some .int) :: ([.fieldLink RX0 29 "PrimeBench" "matrix" "[I", .fieldLink RX0 23 "PrimeBench" "columns" "I", .methodLink RX0 53 yX0_isRow, .instanceMethod yX0_isRow, .selects RX0 yX0_isRow yX0_isRow, .initialized RX0, .code yX0_isRow cX0_isRow 2 (some .boolean), .fieldLink RX0 20 "PrimeBench" "rows" "I", .methodLink RX0 56 yX0_isColumn, .instanceMethod yX0_isColumn, .selects RX0 yX0_isColumn yX0_isColumn, .code yX0_isColumn cX0_isColumn 2 (some .boolean)] ++ wsX00)
def wsX0_setRhs : List Cond := .code yX0_setRhs cX0_setRhs 3 (some .boolean) :: ([.fieldLink RX0 33 "PrimeBench" "rightSide" "[I", .fieldLink RX0 16 "PrimeBench" "prime" "I", .methodLink RX0 53 yX0_isRow, .instanceMethod yX0_isRow, .selects RX0 yX0_isRow yX0_isRow, .initialized RX0, .code yX0_isRow cX0_isRow 2 (some .boolean), .fieldLink RX0 20 "PrimeBench" "rows" "I"] ++ wsX00)
def wsX0_startWork : List Cond := .code yX0_startWork cX0_startWork 3 none :: ([.fieldLink RX0 20 "PrimeBench" "rows" "I", .fieldLink RX0 23 "PrimeBench" "columns" "I", .fieldLink RX0 36 "PrimeBench" "work" "[I", .fieldLink RX0 26 "PrimeBench" "workWidth" "I", .fieldLink RX0 29 "PrimeBench" "matrix" "[I", .fieldLink RX0 39 "PrimeBench" "pivotRows" "[I", .fieldLink RX0 46 "PrimeBench" "pivots" "I", .fieldLink RX0 49 "PrimeBench" "pivotProduct" "J"] ++ wsX00)
def wsX0_firstRowLeft : List Cond := .code yX0_firstRowLeft cX0_firstRowLeft 3 (some .int) :: ([.fieldLink RX0 46 "PrimeBench" "pivots" "I", .fieldLink RX0 20 "PrimeBench" "rows" "I", .fieldLink RX0 36 "PrimeBench" "work" "[I", .fieldLink RX0 26 "PrimeBench" "workWidth" "I"] ++ wsX00)
def wsX0_changePlaces : List Cond := .code yX0_changePlaces cX0_changePlaces 5 none :: ([.fieldLink RX0 26 "PrimeBench" "workWidth" "I", .fieldLink RX0 36 "PrimeBench" "work" "[I"] ++ wsX00)
def wsX0_negative : List Cond := .code yX0_negative cX0_negative 3 (some .long) :: ([.fieldLink RX0 16 "PrimeBench" "prime" "I"] ++ wsX00)
def wsX0_inverseOf : List Cond := .code yX0_inverseOf cX0_inverseOf 7 (some .long) :: ([.fieldLink RX0 16 "PrimeBench" "prime" "I"] ++ wsX00)
def wsX0_multiplyRow : List Cond := .code yX0_multiplyRow cX0_multiplyRow 6 none :: ([.fieldLink RX0 26 "PrimeBench" "workWidth" "I", .fieldLink RX0 36 "PrimeBench" "work" "[I", .fieldLink RX0 16 "PrimeBench" "prime" "I"] ++ wsX00)
def wsX0_takeRow : List Cond := .code yX0_takeRow cX0_takeRow 8 none :: ([.fieldLink RX0 26 "PrimeBench" "workWidth" "I", .fieldLink RX0 36 "PrimeBench" "work" "[I", .fieldLink RX0 16 "PrimeBench" "prime" "I", .methodLink RX0 84 yX0_negative, .instanceMethod yX0_negative, .selects RX0 yX0_negative yX0_negative, .initialized RX0, .code yX0_negative cX0_negative 3 (some .long)] ++ wsX00)
def wsX0_reduceColumn_r1 : List Cond := [Cond.fieldLink RX0 46 "PrimeBench" "pivots" "I", Cond.fieldLink RX0 49 "PrimeBench" "pivotProduct" "J", Cond.fieldLink RX0 36 "PrimeBench" "work" "[I", Cond.fieldLink RX0 26 "PrimeBench" "workWidth" "I", Cond.fieldLink RX0 16 "PrimeBench" "prime" "I", Cond.fieldLink RX0 20 "PrimeBench" "rows" "I", Cond.fieldLink RX0 39 "PrimeBench" "pivotRows" "[I", Cond.methodLink RX0 88 yX0_firstRowLeft, Cond.instanceMethod yX0_firstRowLeft, Cond.selects RX0 yX0_firstRowLeft yX0_firstRowLeft, Cond.initialized RX0, Cond.code yX0_firstRowLeft cX0_firstRowLeft 3 (some .int), Cond.methodLink RX0 91 yX0_changePlaces, Cond.instanceMethod yX0_changePlaces, Cond.selects RX0 yX0_changePlaces yX0_changePlaces, Cond.code yX0_changePlaces cX0_changePlaces 5 none, Cond.methodLink RX0 84 yX0_negative, Cond.instanceMethod yX0_negative, Cond.selects RX0 yX0_negative yX0_negative, Cond.code yX0_negative cX0_negative 3 (some .long), Cond.methodLink RX0 95 yX0_inverseOf, Cond.instanceMethod yX0_inverseOf, Cond.selects RX0 yX0_inverseOf yX0_inverseOf, Cond.code yX0_inverseOf cX0_inverseOf 7 (some .long)]
def wsX0_reduceColumn_r2 : List Cond := [Cond.methodLink RX0 99 yX0_multiplyRow, Cond.instanceMethod yX0_multiplyRow, Cond.selects RX0 yX0_multiplyRow yX0_multiplyRow, Cond.code yX0_multiplyRow cX0_multiplyRow 6 none, Cond.methodLink RX0 103 yX0_takeRow, Cond.instanceMethod yX0_takeRow, Cond.selects RX0 yX0_takeRow yX0_takeRow, Cond.code yX0_takeRow cX0_takeRow 8 none]
def wsX0_reduceColumn : List Cond := .code yX0_reduceColumn cX0_reduceColumn 6 none :: ((wsX0_reduceColumn_r1 ++ wsX0_reduceColumn_r2) ++ wsX00)
def wsX0_reduce_r1 : List Cond := [Cond.fieldLink RX0 20 "PrimeBench" "rows" "I", Cond.fieldLink RX0 23 "PrimeBench" "columns" "I", Cond.fieldLink RX0 46 "PrimeBench" "pivots" "I", Cond.fieldLink RX0 42 "PrimeBench" "isReduced" "Z", Cond.methodLink RX0 59 yX0_startWork, Cond.instanceMethod yX0_startWork, Cond.selects RX0 yX0_startWork yX0_startWork, Cond.initialized RX0, Cond.code yX0_startWork cX0_startWork 3 none, Cond.fieldLink RX0 36 "PrimeBench" "work" "[I", Cond.fieldLink RX0 26 "PrimeBench" "workWidth" "I", Cond.fieldLink RX0 29 "PrimeBench" "matrix" "[I", Cond.fieldLink RX0 39 "PrimeBench" "pivotRows" "[I", Cond.fieldLink RX0 49 "PrimeBench" "pivotProduct" "J", Cond.methodLink RX0 62 yX0_reduceColumn, Cond.instanceMethod yX0_reduceColumn, Cond.selects RX0 yX0_reduceColumn yX0_reduceColumn, Cond.code yX0_reduceColumn cX0_reduceColumn 6 none, Cond.fieldLink RX0 16 "PrimeBench" "prime" "I", Cond.methodLink RX0 88 yX0_firstRowLeft, Cond.instanceMethod yX0_firstRowLeft, Cond.selects RX0 yX0_firstRowLeft yX0_firstRowLeft, Cond.code yX0_firstRowLeft cX0_firstRowLeft 3 (some .int), Cond.methodLink RX0 91 yX0_changePlaces]
def wsX0_reduce_r2 : List Cond := [Cond.instanceMethod yX0_changePlaces, Cond.selects RX0 yX0_changePlaces yX0_changePlaces, Cond.code yX0_changePlaces cX0_changePlaces 5 none, Cond.methodLink RX0 84 yX0_negative, Cond.instanceMethod yX0_negative, Cond.selects RX0 yX0_negative yX0_negative, Cond.code yX0_negative cX0_negative 3 (some .long), Cond.methodLink RX0 95 yX0_inverseOf, Cond.instanceMethod yX0_inverseOf, Cond.selects RX0 yX0_inverseOf yX0_inverseOf, Cond.code yX0_inverseOf cX0_inverseOf 7 (some .long), Cond.methodLink RX0 99 yX0_multiplyRow, Cond.instanceMethod yX0_multiplyRow, Cond.selects RX0 yX0_multiplyRow yX0_multiplyRow, Cond.code yX0_multiplyRow cX0_multiplyRow 6 none, Cond.methodLink RX0 103 yX0_takeRow, Cond.instanceMethod yX0_takeRow, Cond.selects RX0 yX0_takeRow yX0_takeRow, Cond.code yX0_takeRow cX0_takeRow 8 none]
def wsX0_reduce : List Cond := .code yX0_reduce cX0_reduce 2 (some .int) :: ((wsX0_reduce_r1 ++ wsX0_reduce_r2) ++ wsX00)
def wsX0_rank : List Cond := .code yX0_rank cX0_rank 1 (some .int) :: ([.fieldLink RX0 42 "PrimeBench" "isReduced" "Z", .fieldLink RX0 46 "PrimeBench" "pivots" "I"] ++ wsX00)
def wsX0_rrefAt : List Cond := .code yX0_rrefAt cX0_rrefAt 3 (some .int) :: ([.fieldLink RX0 42 "PrimeBench" "isReduced" "Z", .fieldLink RX0 36 "PrimeBench" "work" "[I", .fieldLink RX0 26 "PrimeBench" "workWidth" "I", .methodLink RX0 53 yX0_isRow, .instanceMethod yX0_isRow, .selects RX0 yX0_isRow yX0_isRow, .initialized RX0, .code yX0_isRow cX0_isRow 2 (some .boolean), .fieldLink RX0 20 "PrimeBench" "rows" "I", .methodLink RX0 56 yX0_isColumn, .instanceMethod yX0_isColumn, .selects RX0 yX0_isColumn yX0_isColumn, .code yX0_isColumn cX0_isColumn 2 (some .boolean), .fieldLink RX0 23 "PrimeBench" "columns" "I"] ++ wsX00)
def wsX0_transformNumber : List Cond := .code yX0_transformNumber cX0_transformNumber 3 (some .int) :: ([.fieldLink RX0 36 "PrimeBench" "work" "[I", .fieldLink RX0 26 "PrimeBench" "workWidth" "I", .fieldLink RX0 23 "PrimeBench" "columns" "I"] ++ wsX00)
def wsX0_transformAt : List Cond := .code yX0_transformAt cX0_transformAt 3 (some .int) :: ([.fieldLink RX0 42 "PrimeBench" "isReduced" "Z", .methodLink RX0 53 yX0_isRow, .instanceMethod yX0_isRow, .selects RX0 yX0_isRow yX0_isRow, .initialized RX0, .code yX0_isRow cX0_isRow 2 (some .boolean), .fieldLink RX0 20 "PrimeBench" "rows" "I", .methodLink RX0 66 yX0_transformNumber, .instanceMethod yX0_transformNumber, .selects RX0 yX0_transformNumber yX0_transformNumber, .code yX0_transformNumber cX0_transformNumber 3 (some .int), .fieldLink RX0 36 "PrimeBench" "work" "[I", .fieldLink RX0 26 "PrimeBench" "workWidth" "I", .fieldLink RX0 23 "PrimeBench" "columns" "I"] ++ wsX00)
def wsX0_det : List Cond := .code yX0_det cX0_det 1 (some .int) :: ([.fieldLink RX0 42 "PrimeBench" "isReduced" "Z", .fieldLink RX0 20 "PrimeBench" "rows" "I", .fieldLink RX0 23 "PrimeBench" "columns" "I", .fieldLink RX0 46 "PrimeBench" "pivots" "I", .fieldLink RX0 49 "PrimeBench" "pivotProduct" "J"] ++ wsX00)
def wsX0_hasInverse : List Cond := .code yX0_hasInverse cX0_hasInverse 1 (some .boolean) :: ([.fieldLink RX0 42 "PrimeBench" "isReduced" "Z", .fieldLink RX0 20 "PrimeBench" "rows" "I", .fieldLink RX0 23 "PrimeBench" "columns" "I", .fieldLink RX0 46 "PrimeBench" "pivots" "I"] ++ wsX00)
def wsX0_inverseAt : List Cond := .code yX0_inverseAt cX0_inverseAt 3 (some .int) :: ([.methodLink RX0 70 yX0_hasInverse, .instanceMethod yX0_hasInverse, .selects RX0 yX0_hasInverse yX0_hasInverse, .initialized RX0, .code yX0_hasInverse cX0_hasInverse 1 (some .boolean), .fieldLink RX0 42 "PrimeBench" "isReduced" "Z", .fieldLink RX0 20 "PrimeBench" "rows" "I", .fieldLink RX0 23 "PrimeBench" "columns" "I", .fieldLink RX0 46 "PrimeBench" "pivots" "I", .methodLink RX0 53 yX0_isRow, .instanceMethod yX0_isRow, .selects RX0 yX0_isRow yX0_isRow, .code yX0_isRow cX0_isRow 2 (some .boolean), .methodLink RX0 66 yX0_transformNumber, .instanceMethod yX0_transformNumber, .selects RX0 yX0_transformNumber yX0_transformNumber, .code yX0_transformNumber cX0_transformNumber 3 (some .int), .fieldLink RX0 36 "PrimeBench" "work" "[I", .fieldLink RX0 26 "PrimeBench" "workWidth" "I"] ++ wsX00)
def wsX0_changedRightSide : List Cond := .code yX0_changedRightSide cX0_changedRightSide 5 (some .int) :: ([.fieldLink RX0 20 "PrimeBench" "rows" "I", .fieldLink RX0 33 "PrimeBench" "rightSide" "[I", .fieldLink RX0 16 "PrimeBench" "prime" "I", .methodLink RX0 66 yX0_transformNumber, .instanceMethod yX0_transformNumber, .selects RX0 yX0_transformNumber yX0_transformNumber, .initialized RX0, .code yX0_transformNumber cX0_transformNumber 3 (some .int), .fieldLink RX0 36 "PrimeBench" "work" "[I", .fieldLink RX0 26 "PrimeBench" "workWidth" "I", .fieldLink RX0 23 "PrimeBench" "columns" "I"] ++ wsX00)
def wsX0_solvable : List Cond := .code yX0_solvable cX0_solvable 2 (some .boolean) :: ([.fieldLink RX0 42 "PrimeBench" "isReduced" "Z", .fieldLink RX0 46 "PrimeBench" "pivots" "I", .fieldLink RX0 20 "PrimeBench" "rows" "I", .methodLink RX0 74 yX0_changedRightSide, .instanceMethod yX0_changedRightSide, .selects RX0 yX0_changedRightSide yX0_changedRightSide, .initialized RX0, .code yX0_changedRightSide cX0_changedRightSide 5 (some .int), .fieldLink RX0 33 "PrimeBench" "rightSide" "[I", .fieldLink RX0 16 "PrimeBench" "prime" "I", .methodLink RX0 66 yX0_transformNumber, .instanceMethod yX0_transformNumber, .selects RX0 yX0_transformNumber yX0_transformNumber, .code yX0_transformNumber cX0_transformNumber 3 (some .int), .fieldLink RX0 36 "PrimeBench" "work" "[I", .fieldLink RX0 26 "PrimeBench" "workWidth" "I", .fieldLink RX0 23 "PrimeBench" "columns" "I"] ++ wsX00)
def wsX0_solution_r1 : List Cond := [Cond.fieldLink RX0 39 "PrimeBench" "pivotRows" "[I", Cond.methodLink RX0 56 yX0_isColumn, Cond.instanceMethod yX0_isColumn, Cond.selects RX0 yX0_isColumn yX0_isColumn, Cond.initialized RX0, Cond.code yX0_isColumn cX0_isColumn 2 (some .boolean), Cond.fieldLink RX0 23 "PrimeBench" "columns" "I", Cond.methodLink RX0 78 yX0_solvable, Cond.instanceMethod yX0_solvable, Cond.selects RX0 yX0_solvable yX0_solvable, Cond.code yX0_solvable cX0_solvable 2 (some .boolean), Cond.fieldLink RX0 42 "PrimeBench" "isReduced" "Z", Cond.fieldLink RX0 46 "PrimeBench" "pivots" "I", Cond.fieldLink RX0 20 "PrimeBench" "rows" "I", Cond.methodLink RX0 74 yX0_changedRightSide, Cond.instanceMethod yX0_changedRightSide, Cond.selects RX0 yX0_changedRightSide yX0_changedRightSide, Cond.code yX0_changedRightSide cX0_changedRightSide 5 (some .int), Cond.fieldLink RX0 33 "PrimeBench" "rightSide" "[I", Cond.fieldLink RX0 16 "PrimeBench" "prime" "I", Cond.methodLink RX0 66 yX0_transformNumber, Cond.instanceMethod yX0_transformNumber, Cond.selects RX0 yX0_transformNumber yX0_transformNumber, Cond.code yX0_transformNumber cX0_transformNumber 3 (some .int)]
def wsX0_solution_r2 : List Cond := [Cond.fieldLink RX0 36 "PrimeBench" "work" "[I", Cond.fieldLink RX0 26 "PrimeBench" "workWidth" "I"]
def wsX0_solution : List Cond := .code yX0_solution cX0_solution 3 (some .int) :: ((wsX0_solution_r1 ++ wsX0_solution_r2) ++ wsX00)
def wsX0_kernelDim : List Cond := .code yX0_kernelDim cX0_kernelDim 1 (some .int) :: ([.fieldLink RX0 42 "PrimeBench" "isReduced" "Z", .fieldLink RX0 23 "PrimeBench" "columns" "I", .fieldLink RX0 46 "PrimeBench" "pivots" "I"] ++ wsX00)
def wsX0_freeColumn : List Cond := .code yX0_freeColumn cX0_freeColumn 4 (some .int) :: ([.fieldLink RX0 23 "PrimeBench" "columns" "I", .fieldLink RX0 39 "PrimeBench" "pivotRows" "[I"] ++ wsX00)
def wsX0_kernelAt : List Cond := .code yX0_kernelAt cX0_kernelAt 5 (some .int) :: ([.fieldLink RX0 42 "PrimeBench" "isReduced" "Z", .fieldLink RX0 39 "PrimeBench" "pivotRows" "[I", .fieldLink RX0 36 "PrimeBench" "work" "[I", .fieldLink RX0 26 "PrimeBench" "workWidth" "I", .methodLink RX0 56 yX0_isColumn, .instanceMethod yX0_isColumn, .selects RX0 yX0_isColumn yX0_isColumn, .initialized RX0, .code yX0_isColumn cX0_isColumn 2 (some .boolean), .fieldLink RX0 23 "PrimeBench" "columns" "I", .methodLink RX0 81 yX0_freeColumn, .instanceMethod yX0_freeColumn, .selects RX0 yX0_freeColumn yX0_freeColumn, .code yX0_freeColumn cX0_freeColumn 4 (some .int), .methodLink RX0 84 yX0_negative, .instanceMethod yX0_negative, .selects RX0 yX0_negative yX0_negative, .code yX0_negative cX0_negative 3 (some .long), .fieldLink RX0 16 "PrimeBench" "prime" "I"] ++ wsX00)
def wsX1_isPrime : List Cond := .code yX1_isPrime cX1_isPrime 4 (some .boolean) :: ([.constantLong RX1 48 (2)])
def wsX1_init : List Cond := .code yX1_init cX1_init 4 none :: ([.methodLink RX1 1 objectInit, .instanceMethod objectInit, .code objectInit ⟨#[0xb1]⟩ 1 none, .arrayClass .long, .fieldLink RX1 7 "PrimeBenchModel" "a" "[J", .fieldLink RX1 13 "PrimeBenchModel" "b" "[J", .fieldLink RX1 16 "PrimeBenchModel" "rows" "[J", .arrayClass .int, .fieldLink RX1 19 "PrimeBenchModel" "pivots" "[I", .fieldLink RX1 23 "PrimeBenchModel" "sums" "[J", .fieldLink RX1 26 "PrimeBenchModel" "p" "J", .fieldLink RX1 30 "PrimeBenchModel" "m" "I", .fieldLink RX1 34 "PrimeBenchModel" "n" "I", .fieldLink RX1 41 "PrimeBenchModel" "valid" "Z", .methodLink RX1 37 yX1_isPrime, .static yX1_isPrime, .initialized RX1, .code yX1_isPrime cX1_isPrime 4 (some .boolean), .constantLong RX1 48 (2)] ++ wsX10)
def wsX1_isPlace : List Cond := .code yX1_isPlace cX1_isPlace 3 (some .boolean) :: ([.fieldLink RX1 41 "PrimeBenchModel" "valid" "Z", .fieldLink RX1 30 "PrimeBenchModel" "m" "I", .fieldLink RX1 34 "PrimeBenchModel" "n" "I"] ++ wsX10)
def wsX1_set : List Cond := .code yX1_set cX1_set 4 (some .boolean) :: ([.fieldLink RX1 45 "PrimeBenchModel" "thrown" "I", .fieldLink RX1 7 "PrimeBenchModel" "a" "[J", .fieldLink RX1 26 "PrimeBenchModel" "p" "J", .fieldLink RX1 54 "PrimeBenchModel" "reduced" "Z", .methodLink RX1 50 yX1_isPlace, .instanceMethod yX1_isPlace, .selects RX1 yX1_isPlace yX1_isPlace, .initialized RX1, .code yX1_isPlace cX1_isPlace 3 (some .boolean), .fieldLink RX1 41 "PrimeBenchModel" "valid" "Z", .fieldLink RX1 30 "PrimeBenchModel" "m" "I", .fieldLink RX1 34 "PrimeBenchModel" "n" "I"] ++ wsX10)
def wsX1_get : List Cond := .code yX1_get cX1_get 3 (some .int) :: ([.fieldLink RX1 45 "PrimeBenchModel" "thrown" "I", .fieldLink RX1 7 "PrimeBenchModel" "a" "[J", .methodLink RX1 50 yX1_isPlace, .instanceMethod yX1_isPlace, .selects RX1 yX1_isPlace yX1_isPlace, .initialized RX1, .code yX1_isPlace cX1_isPlace 3 (some .boolean), .fieldLink RX1 41 "PrimeBenchModel" "valid" "Z", .fieldLink RX1 30 "PrimeBenchModel" "m" "I", .fieldLink RX1 34 "PrimeBenchModel" "n" "I"] ++ wsX10)
def wsX1_setRhs : List Cond := .code yX1_setRhs cX1_setRhs 3 (some .boolean) :: ([.fieldLink RX1 45 "PrimeBenchModel" "thrown" "I", .fieldLink RX1 13 "PrimeBenchModel" "b" "[J", .fieldLink RX1 26 "PrimeBenchModel" "p" "J", .methodLink RX1 50 yX1_isPlace, .instanceMethod yX1_isPlace, .selects RX1 yX1_isPlace yX1_isPlace, .initialized RX1, .code yX1_isPlace cX1_isPlace 3 (some .boolean), .fieldLink RX1 41 "PrimeBenchModel" "valid" "Z", .fieldLink RX1 30 "PrimeBenchModel" "m" "I", .fieldLink RX1 34 "PrimeBenchModel" "n" "I"] ++ wsX10)
def wsX1_power : List Cond := .code yX1_power cX1_power 8 (some .long) :: ([.fieldLink RX1 26 "PrimeBenchModel" "p" "J"] ++ wsX10)
def wsX1_swap : List Cond := .code yX1_swap cX1_swap 6 none :: ([.fieldLink RX1 16 "PrimeBenchModel" "rows" "[J"] ++ wsX10)
def wsX1_firstWith : List Cond := .code yX1_firstWith cX1_firstWith 3 (some .int) :: ([.fieldLink RX1 57 "PrimeBenchModel" "rank" "I", .fieldLink RX1 30 "PrimeBenchModel" "m" "I", .fieldLink RX1 16 "PrimeBenchModel" "rows" "[J"] ++ wsX10)
def wsX1_clear : List Cond := .code yX1_clear cX1_clear 8 none :: ([.fieldLink RX1 16 "PrimeBenchModel" "rows" "[J", .fieldLink RX1 57 "PrimeBenchModel" "rank" "I", .fieldLink RX1 26 "PrimeBenchModel" "p" "J", .constantLong RX1 48 (2), .fieldLink RX1 30 "PrimeBenchModel" "m" "I", .methodLink RX1 60 yX1_power, .instanceMethod yX1_power, .selects RX1 yX1_power yX1_power, .initialized RX1, .code yX1_power cX1_power 8 (some .long)] ++ wsX10)
def wsX1_reduce_r1 : List Cond := [Cond.fieldLink RX1 45 "PrimeBenchModel" "thrown" "I", Cond.fieldLink RX1 41 "PrimeBenchModel" "valid" "Z", Cond.fieldLink RX1 30 "PrimeBenchModel" "m" "I", Cond.fieldLink RX1 16 "PrimeBenchModel" "rows" "[J", Cond.fieldLink RX1 34 "PrimeBenchModel" "n" "I", Cond.fieldLink RX1 7 "PrimeBenchModel" "a" "[J", Cond.fieldLink RX1 57 "PrimeBenchModel" "rank" "I", Cond.fieldLink RX1 19 "PrimeBenchModel" "pivots" "[I", Cond.fieldLink RX1 54 "PrimeBenchModel" "reduced" "Z", Cond.methodLink RX1 64 yX1_firstWith, Cond.instanceMethod yX1_firstWith, Cond.selects RX1 yX1_firstWith yX1_firstWith, Cond.initialized RX1, Cond.code yX1_firstWith cX1_firstWith 3 (some .int), Cond.methodLink RX1 68 yX1_swap, Cond.instanceMethod yX1_swap, Cond.selects RX1 yX1_swap yX1_swap, Cond.code yX1_swap cX1_swap 6 none, Cond.methodLink RX1 72 yX1_clear, Cond.instanceMethod yX1_clear, Cond.selects RX1 yX1_clear yX1_clear, Cond.code yX1_clear cX1_clear 8 none, Cond.fieldLink RX1 26 "PrimeBenchModel" "p" "J", Cond.constantLong RX1 48 (2)]
def wsX1_reduce_r2 : List Cond := [Cond.methodLink RX1 60 yX1_power, Cond.instanceMethod yX1_power, Cond.selects RX1 yX1_power yX1_power, Cond.code yX1_power cX1_power 8 (some .long)]
def wsX1_reduce : List Cond := .code yX1_reduce cX1_reduce 3 (some .int) :: ((wsX1_reduce_r1 ++ wsX1_reduce_r2) ++ wsX10)
def wsX1_rank : List Cond := .code yX1_rank cX1_rank 1 (some .int) :: ([.fieldLink RX1 45 "PrimeBenchModel" "thrown" "I", .fieldLink RX1 54 "PrimeBenchModel" "reduced" "Z", .fieldLink RX1 57 "PrimeBenchModel" "rank" "I"] ++ wsX10)
def wsX1_rrefAt : List Cond := .code yX1_rrefAt cX1_rrefAt 3 (some .int) :: ([.fieldLink RX1 45 "PrimeBenchModel" "thrown" "I", .fieldLink RX1 54 "PrimeBenchModel" "reduced" "Z", .fieldLink RX1 16 "PrimeBenchModel" "rows" "[J", .methodLink RX1 50 yX1_isPlace, .instanceMethod yX1_isPlace, .selects RX1 yX1_isPlace yX1_isPlace, .initialized RX1, .code yX1_isPlace cX1_isPlace 3 (some .boolean), .fieldLink RX1 41 "PrimeBenchModel" "valid" "Z", .fieldLink RX1 30 "PrimeBenchModel" "m" "I", .fieldLink RX1 34 "PrimeBenchModel" "n" "I"] ++ wsX10)
def wsX1_isSquare : List Cond := .code yX1_isSquare cX1_isSquare 3 (some .boolean) :: ([.fieldLink RX1 41 "PrimeBenchModel" "valid" "Z", .fieldLink RX1 30 "PrimeBenchModel" "m" "I"] ++ wsX10)
def wsX1_transformAt : List Cond := .code yX1_transformAt cX1_transformAt 3 (some .int) :: ([.fieldLink RX1 45 "PrimeBenchModel" "thrown" "I", .fieldLink RX1 54 "PrimeBenchModel" "reduced" "Z", .fieldLink RX1 16 "PrimeBenchModel" "rows" "[J", .methodLink RX1 76 yX1_isSquare, .instanceMethod yX1_isSquare, .selects RX1 yX1_isSquare yX1_isSquare, .initialized RX1, .code yX1_isSquare cX1_isSquare 3 (some .boolean), .fieldLink RX1 41 "PrimeBenchModel" "valid" "Z", .fieldLink RX1 30 "PrimeBenchModel" "m" "I"] ++ wsX10)
def wsX1_det : List Cond := .code yX1_det cX1_det 9 (some .int) :: ([.fieldLink RX1 45 "PrimeBenchModel" "thrown" "I", .fieldLink RX1 54 "PrimeBenchModel" "reduced" "Z", .fieldLink RX1 30 "PrimeBenchModel" "m" "I", .fieldLink RX1 34 "PrimeBenchModel" "n" "I", .fieldLink RX1 23 "PrimeBenchModel" "sums" "[J", .fieldLink RX1 7 "PrimeBenchModel" "a" "[J", .fieldLink RX1 26 "PrimeBenchModel" "p" "J"] ++ wsX10)
def wsX1_inverseAt : List Cond := .code yX1_inverseAt cX1_inverseAt 3 (some .int) :: ([.fieldLink RX1 45 "PrimeBenchModel" "thrown" "I", .fieldLink RX1 54 "PrimeBenchModel" "reduced" "Z", .fieldLink RX1 30 "PrimeBenchModel" "m" "I", .fieldLink RX1 34 "PrimeBenchModel" "n" "I", .fieldLink RX1 57 "PrimeBenchModel" "rank" "I", .fieldLink RX1 16 "PrimeBenchModel" "rows" "[J", .methodLink RX1 76 yX1_isSquare, .instanceMethod yX1_isSquare, .selects RX1 yX1_isSquare yX1_isSquare, .initialized RX1, .code yX1_isSquare cX1_isSquare 3 (some .boolean), .fieldLink RX1 41 "PrimeBenchModel" "valid" "Z"] ++ wsX10)
def wsX1_changed : List Cond := .code yX1_changed cX1_changed 5 (some .long) :: ([.fieldLink RX1 30 "PrimeBenchModel" "m" "I", .fieldLink RX1 16 "PrimeBenchModel" "rows" "[J", .fieldLink RX1 13 "PrimeBenchModel" "b" "[J", .fieldLink RX1 26 "PrimeBenchModel" "p" "J"] ++ wsX10)
def wsX1_isSolvable : List Cond := .code yX1_isSolvable cX1_isSolvable 3 (some .boolean) :: ([.fieldLink RX1 54 "PrimeBenchModel" "reduced" "Z", .fieldLink RX1 57 "PrimeBenchModel" "rank" "I", .fieldLink RX1 30 "PrimeBenchModel" "m" "I", .methodLink RX1 79 yX1_changed, .instanceMethod yX1_changed, .selects RX1 yX1_changed yX1_changed, .initialized RX1, .code yX1_changed cX1_changed 5 (some .long), .fieldLink RX1 16 "PrimeBenchModel" "rows" "[J", .fieldLink RX1 13 "PrimeBenchModel" "b" "[J", .fieldLink RX1 26 "PrimeBenchModel" "p" "J"] ++ wsX10)
def wsX1_solvable : List Cond := .code yX1_solvable cX1_solvable 1 (some .boolean) :: ([.fieldLink RX1 45 "PrimeBenchModel" "thrown" "I", .methodLink RX1 83 yX1_isSolvable, .instanceMethod yX1_isSolvable, .selects RX1 yX1_isSolvable yX1_isSolvable, .initialized RX1, .code yX1_isSolvable cX1_isSolvable 3 (some .boolean), .fieldLink RX1 54 "PrimeBenchModel" "reduced" "Z", .fieldLink RX1 57 "PrimeBenchModel" "rank" "I", .fieldLink RX1 30 "PrimeBenchModel" "m" "I", .methodLink RX1 79 yX1_changed, .instanceMethod yX1_changed, .selects RX1 yX1_changed yX1_changed, .code yX1_changed cX1_changed 5 (some .long), .fieldLink RX1 16 "PrimeBenchModel" "rows" "[J", .fieldLink RX1 13 "PrimeBenchModel" "b" "[J", .fieldLink RX1 26 "PrimeBenchModel" "p" "J"] ++ wsX10)
def wsX1_rowOf : List Cond := .code yX1_rowOf cX1_rowOf 4 (some .int) :: ([.fieldLink RX1 57 "PrimeBenchModel" "rank" "I", .fieldLink RX1 19 "PrimeBenchModel" "pivots" "[I"] ++ wsX10)
def wsX1_solution : List Cond := .code yX1_solution cX1_solution 3 (some .int) :: ([.fieldLink RX1 45 "PrimeBenchModel" "thrown" "I", .fieldLink RX1 34 "PrimeBenchModel" "n" "I", .methodLink RX1 83 yX1_isSolvable, .instanceMethod yX1_isSolvable, .selects RX1 yX1_isSolvable yX1_isSolvable, .initialized RX1, .code yX1_isSolvable cX1_isSolvable 3 (some .boolean), .fieldLink RX1 54 "PrimeBenchModel" "reduced" "Z", .fieldLink RX1 57 "PrimeBenchModel" "rank" "I", .fieldLink RX1 30 "PrimeBenchModel" "m" "I", .methodLink RX1 79 yX1_changed, .instanceMethod yX1_changed, .selects RX1 yX1_changed yX1_changed, .code yX1_changed cX1_changed 5 (some .long), .fieldLink RX1 16 "PrimeBenchModel" "rows" "[J", .fieldLink RX1 13 "PrimeBenchModel" "b" "[J", .fieldLink RX1 26 "PrimeBenchModel" "p" "J", .methodLink RX1 87 yX1_rowOf, .instanceMethod yX1_rowOf, .selects RX1 yX1_rowOf yX1_rowOf, .code yX1_rowOf cX1_rowOf 4 (some .int), .fieldLink RX1 19 "PrimeBenchModel" "pivots" "[I"] ++ wsX10)
def wsX1_kernelDim : List Cond := .code yX1_kernelDim cX1_kernelDim 1 (some .int) :: ([.fieldLink RX1 45 "PrimeBenchModel" "thrown" "I", .fieldLink RX1 54 "PrimeBenchModel" "reduced" "Z", .fieldLink RX1 34 "PrimeBenchModel" "n" "I", .fieldLink RX1 57 "PrimeBenchModel" "rank" "I"] ++ wsX10)
def wsX1_kernelAt : List Cond := .code yX1_kernelAt cX1_kernelAt 6 (some .int) :: ([.fieldLink RX1 45 "PrimeBenchModel" "thrown" "I", .fieldLink RX1 54 "PrimeBenchModel" "reduced" "Z", .fieldLink RX1 34 "PrimeBenchModel" "n" "I", .fieldLink RX1 57 "PrimeBenchModel" "rank" "I", .fieldLink RX1 26 "PrimeBenchModel" "p" "J", .fieldLink RX1 16 "PrimeBenchModel" "rows" "[J", .methodLink RX1 87 yX1_rowOf, .instanceMethod yX1_rowOf, .selects RX1 yX1_rowOf yX1_rowOf, .initialized RX1, .code yX1_rowOf cX1_rowOf 4 (some .int), .fieldLink RX1 19 "PrimeBenchModel" "pivots" "[I"] ++ wsX10)
def wsL_cell : List Cond := .code yL_cell cL_cell 2 (some .int) :: ([])
def wsL_law_r1 : List Cond := [Cond.classLink RL 7 RX0, Cond.instantiable RX0 11, Cond.initialized RX0, Cond.classLink RL 18 RX1, Cond.instantiable RX1 12, Cond.initialized RX1, Cond.methodLink RL 9 yL_cell, Cond.static yL_cell, Cond.initialized RL, Cond.code yL_cell cL_cell 2 (some .int), Cond.methodLink RL 15 yX0_init, Cond.instanceMethod yX0_init, Cond.code yX0_init cX0_init 5 none, Cond.methodLink RX0 1 objectInit, Cond.instanceMethod objectInit, Cond.code objectInit ⟨#[0xb1]⟩ 1 none, Cond.fieldLink RX0 16 "PrimeBench" "prime" "I", Cond.fieldLink RX0 20 "PrimeBench" "rows" "I", Cond.fieldLink RX0 23 "PrimeBench" "columns" "I", Cond.fieldLink RX0 26 "PrimeBench" "workWidth" "I", Cond.arrayClass .int, Cond.fieldLink RX0 29 "PrimeBench" "matrix" "[I", Cond.fieldLink RX0 33 "PrimeBench" "rightSide" "[I", Cond.fieldLink RX0 36 "PrimeBench" "work" "[I"]
def wsL_law_r2 : List Cond := [Cond.fieldLink RX0 39 "PrimeBench" "pivotRows" "[I", Cond.fieldLink RX0 42 "PrimeBench" "isReduced" "Z", Cond.fieldLink RX0 46 "PrimeBench" "pivots" "I", Cond.fieldLink RX0 49 "PrimeBench" "pivotProduct" "J", Cond.methodLink RX0 7 yX0_isSide, Cond.static yX0_isSide, Cond.code yX0_isSide cX0_isSide 1 (some .boolean), Cond.methodLink RX0 13 yX0_isPrime, Cond.static yX0_isPrime, Cond.code yX0_isPrime cX0_isPrime 2 (some .boolean), Cond.methodLink RL 20 yX1_init, Cond.instanceMethod yX1_init, Cond.code yX1_init cX1_init 4 none, Cond.methodLink RX1 1 objectInit, Cond.arrayClass .long, Cond.fieldLink RX1 7 "PrimeBenchModel" "a" "[J", Cond.fieldLink RX1 13 "PrimeBenchModel" "b" "[J", Cond.fieldLink RX1 16 "PrimeBenchModel" "rows" "[J", Cond.fieldLink RX1 19 "PrimeBenchModel" "pivots" "[I", Cond.fieldLink RX1 23 "PrimeBenchModel" "sums" "[J", Cond.fieldLink RX1 26 "PrimeBenchModel" "p" "J", Cond.fieldLink RX1 30 "PrimeBenchModel" "m" "I", Cond.fieldLink RX1 34 "PrimeBenchModel" "n" "I", Cond.fieldLink RX1 41 "PrimeBenchModel" "valid" "Z"]
def wsL_law_r3 : List Cond := [Cond.methodLink RX1 37 yX1_isPrime, Cond.static yX1_isPrime, Cond.code yX1_isPrime cX1_isPrime 4 (some .boolean), Cond.constantLong RX1 48 (2), Cond.methodLink RL 21 yX0_set, Cond.instanceMethod yX0_set, Cond.selects RX0 yX0_set yX0_set, Cond.code yX0_set cX0_set 4 (some .boolean), Cond.methodLink RX0 53 yX0_isRow, Cond.instanceMethod yX0_isRow, Cond.selects RX0 yX0_isRow yX0_isRow, Cond.code yX0_isRow cX0_isRow 2 (some .boolean), Cond.methodLink RX0 56 yX0_isColumn, Cond.instanceMethod yX0_isColumn, Cond.selects RX0 yX0_isColumn yX0_isColumn, Cond.code yX0_isColumn cX0_isColumn 2 (some .boolean), Cond.methodLink RL 25 yX1_set, Cond.instanceMethod yX1_set, Cond.selects RX1 yX1_set yX1_set, Cond.code yX1_set cX1_set 4 (some .boolean), Cond.fieldLink RX1 45 "PrimeBenchModel" "thrown" "I", Cond.fieldLink RX1 54 "PrimeBenchModel" "reduced" "Z", Cond.methodLink RX1 50 yX1_isPlace, Cond.instanceMethod yX1_isPlace]
def wsL_law_r4 : List Cond := [Cond.selects RX1 yX1_isPlace yX1_isPlace, Cond.code yX1_isPlace cX1_isPlace 3 (some .boolean), Cond.methodLink RL 26 yX0_get, Cond.instanceMethod yX0_get, Cond.selects RX0 yX0_get yX0_get, Cond.code yX0_get cX0_get 3 (some .int), Cond.methodLink RL 30 yX1_get, Cond.instanceMethod yX1_get, Cond.selects RX1 yX1_get yX1_get, Cond.code yX1_get cX1_get 3 (some .int), Cond.methodLink RL 31 yX0_setRhs, Cond.instanceMethod yX0_setRhs, Cond.selects RX0 yX0_setRhs yX0_setRhs, Cond.code yX0_setRhs cX0_setRhs 3 (some .boolean), Cond.methodLink RL 35 yX1_setRhs, Cond.instanceMethod yX1_setRhs, Cond.selects RX1 yX1_setRhs yX1_setRhs, Cond.code yX1_setRhs cX1_setRhs 3 (some .boolean), Cond.methodLink RL 36 yX0_reduce, Cond.instanceMethod yX0_reduce, Cond.selects RX0 yX0_reduce yX0_reduce, Cond.code yX0_reduce cX0_reduce 2 (some .int), Cond.methodLink RX0 59 yX0_startWork, Cond.instanceMethod yX0_startWork]
def wsL_law_r5 : List Cond := [Cond.selects RX0 yX0_startWork yX0_startWork, Cond.code yX0_startWork cX0_startWork 3 none, Cond.methodLink RX0 62 yX0_reduceColumn, Cond.instanceMethod yX0_reduceColumn, Cond.selects RX0 yX0_reduceColumn yX0_reduceColumn, Cond.code yX0_reduceColumn cX0_reduceColumn 6 none, Cond.methodLink RX0 88 yX0_firstRowLeft, Cond.instanceMethod yX0_firstRowLeft, Cond.selects RX0 yX0_firstRowLeft yX0_firstRowLeft, Cond.code yX0_firstRowLeft cX0_firstRowLeft 3 (some .int), Cond.methodLink RX0 91 yX0_changePlaces, Cond.instanceMethod yX0_changePlaces, Cond.selects RX0 yX0_changePlaces yX0_changePlaces, Cond.code yX0_changePlaces cX0_changePlaces 5 none, Cond.methodLink RX0 84 yX0_negative, Cond.instanceMethod yX0_negative, Cond.selects RX0 yX0_negative yX0_negative, Cond.code yX0_negative cX0_negative 3 (some .long), Cond.methodLink RX0 95 yX0_inverseOf, Cond.instanceMethod yX0_inverseOf, Cond.selects RX0 yX0_inverseOf yX0_inverseOf, Cond.code yX0_inverseOf cX0_inverseOf 7 (some .long), Cond.methodLink RX0 99 yX0_multiplyRow, Cond.instanceMethod yX0_multiplyRow]
def wsL_law_r6 : List Cond := [Cond.selects RX0 yX0_multiplyRow yX0_multiplyRow, Cond.code yX0_multiplyRow cX0_multiplyRow 6 none, Cond.methodLink RX0 103 yX0_takeRow, Cond.instanceMethod yX0_takeRow, Cond.selects RX0 yX0_takeRow yX0_takeRow, Cond.code yX0_takeRow cX0_takeRow 8 none, Cond.methodLink RL 40 yX1_reduce, Cond.instanceMethod yX1_reduce, Cond.selects RX1 yX1_reduce yX1_reduce, Cond.code yX1_reduce cX1_reduce 3 (some .int), Cond.fieldLink RX1 57 "PrimeBenchModel" "rank" "I", Cond.methodLink RX1 64 yX1_firstWith, Cond.instanceMethod yX1_firstWith, Cond.selects RX1 yX1_firstWith yX1_firstWith, Cond.code yX1_firstWith cX1_firstWith 3 (some .int), Cond.methodLink RX1 68 yX1_swap, Cond.instanceMethod yX1_swap, Cond.selects RX1 yX1_swap yX1_swap, Cond.code yX1_swap cX1_swap 6 none, Cond.methodLink RX1 72 yX1_clear, Cond.instanceMethod yX1_clear, Cond.selects RX1 yX1_clear yX1_clear, Cond.code yX1_clear cX1_clear 8 none, Cond.methodLink RX1 60 yX1_power]
def wsL_law_r7 : List Cond := [Cond.instanceMethod yX1_power, Cond.selects RX1 yX1_power yX1_power, Cond.code yX1_power cX1_power 8 (some .long), Cond.methodLink RL 41 yX0_rank, Cond.instanceMethod yX0_rank, Cond.selects RX0 yX0_rank yX0_rank, Cond.code yX0_rank cX0_rank 1 (some .int), Cond.methodLink RL 44 yX1_rank, Cond.instanceMethod yX1_rank, Cond.selects RX1 yX1_rank yX1_rank, Cond.code yX1_rank cX1_rank 1 (some .int), Cond.methodLink RL 45 yX0_rrefAt, Cond.instanceMethod yX0_rrefAt, Cond.selects RX0 yX0_rrefAt yX0_rrefAt, Cond.code yX0_rrefAt cX0_rrefAt 3 (some .int), Cond.methodLink RL 48 yX1_rrefAt, Cond.instanceMethod yX1_rrefAt, Cond.selects RX1 yX1_rrefAt yX1_rrefAt, Cond.code yX1_rrefAt cX1_rrefAt 3 (some .int), Cond.methodLink RL 49 yX0_transformAt, Cond.instanceMethod yX0_transformAt, Cond.selects RX0 yX0_transformAt yX0_transformAt, Cond.code yX0_transformAt cX0_transformAt 3 (some .int), Cond.methodLink RX0 66 yX0_transformNumber]
def wsL_law_r8 : List Cond := [Cond.instanceMethod yX0_transformNumber, Cond.selects RX0 yX0_transformNumber yX0_transformNumber, Cond.code yX0_transformNumber cX0_transformNumber 3 (some .int), Cond.methodLink RL 52 yX1_transformAt, Cond.instanceMethod yX1_transformAt, Cond.selects RX1 yX1_transformAt yX1_transformAt, Cond.code yX1_transformAt cX1_transformAt 3 (some .int), Cond.methodLink RX1 76 yX1_isSquare, Cond.instanceMethod yX1_isSquare, Cond.selects RX1 yX1_isSquare yX1_isSquare, Cond.code yX1_isSquare cX1_isSquare 3 (some .boolean), Cond.methodLink RL 53 yX0_det, Cond.instanceMethod yX0_det, Cond.selects RX0 yX0_det yX0_det, Cond.code yX0_det cX0_det 1 (some .int), Cond.methodLink RL 56 yX1_det, Cond.instanceMethod yX1_det, Cond.selects RX1 yX1_det yX1_det, Cond.code yX1_det cX1_det 9 (some .int), Cond.methodLink RL 57 yX0_inverseAt, Cond.instanceMethod yX0_inverseAt, Cond.selects RX0 yX0_inverseAt yX0_inverseAt, Cond.code yX0_inverseAt cX0_inverseAt 3 (some .int), Cond.methodLink RX0 70 yX0_hasInverse]
def wsL_law_r9 : List Cond := [Cond.instanceMethod yX0_hasInverse, Cond.selects RX0 yX0_hasInverse yX0_hasInverse, Cond.code yX0_hasInverse cX0_hasInverse 1 (some .boolean), Cond.methodLink RL 60 yX1_inverseAt, Cond.instanceMethod yX1_inverseAt, Cond.selects RX1 yX1_inverseAt yX1_inverseAt, Cond.code yX1_inverseAt cX1_inverseAt 3 (some .int), Cond.methodLink RL 61 yX0_solvable, Cond.instanceMethod yX0_solvable, Cond.selects RX0 yX0_solvable yX0_solvable, Cond.code yX0_solvable cX0_solvable 2 (some .boolean), Cond.methodLink RX0 74 yX0_changedRightSide, Cond.instanceMethod yX0_changedRightSide, Cond.selects RX0 yX0_changedRightSide yX0_changedRightSide, Cond.code yX0_changedRightSide cX0_changedRightSide 5 (some .int), Cond.methodLink RL 65 yX1_solvable, Cond.instanceMethod yX1_solvable, Cond.selects RX1 yX1_solvable yX1_solvable, Cond.code yX1_solvable cX1_solvable 1 (some .boolean), Cond.methodLink RX1 83 yX1_isSolvable, Cond.instanceMethod yX1_isSolvable, Cond.selects RX1 yX1_isSolvable yX1_isSolvable, Cond.code yX1_isSolvable cX1_isSolvable 3 (some .boolean), Cond.methodLink RX1 79 yX1_changed]
def wsL_law_r10 : List Cond := [Cond.instanceMethod yX1_changed, Cond.selects RX1 yX1_changed yX1_changed, Cond.code yX1_changed cX1_changed 5 (some .long), Cond.methodLink RL 66 yX0_solution, Cond.instanceMethod yX0_solution, Cond.selects RX0 yX0_solution yX0_solution, Cond.code yX0_solution cX0_solution 3 (some .int), Cond.methodLink RX0 78 yX0_solvable, Cond.methodLink RL 70 yX1_solution, Cond.instanceMethod yX1_solution, Cond.selects RX1 yX1_solution yX1_solution, Cond.code yX1_solution cX1_solution 3 (some .int), Cond.methodLink RX1 87 yX1_rowOf, Cond.instanceMethod yX1_rowOf, Cond.selects RX1 yX1_rowOf yX1_rowOf, Cond.code yX1_rowOf cX1_rowOf 4 (some .int), Cond.methodLink RL 71 yX0_kernelDim, Cond.instanceMethod yX0_kernelDim, Cond.selects RX0 yX0_kernelDim yX0_kernelDim, Cond.code yX0_kernelDim cX0_kernelDim 1 (some .int), Cond.methodLink RL 74 yX1_kernelDim, Cond.instanceMethod yX1_kernelDim, Cond.selects RX1 yX1_kernelDim yX1_kernelDim, Cond.code yX1_kernelDim cX1_kernelDim 1 (some .int)]
def wsL_law_r11 : List Cond := [Cond.methodLink RL 75 yX0_kernelAt, Cond.instanceMethod yX0_kernelAt, Cond.selects RX0 yX0_kernelAt yX0_kernelAt, Cond.code yX0_kernelAt cX0_kernelAt 5 (some .int), Cond.methodLink RX0 81 yX0_freeColumn, Cond.instanceMethod yX0_freeColumn, Cond.selects RX0 yX0_freeColumn yX0_freeColumn, Cond.code yX0_freeColumn cX0_freeColumn 4 (some .int), Cond.methodLink RL 78 yX1_kernelAt, Cond.instanceMethod yX1_kernelAt, Cond.selects RX1 yX1_kernelAt yX1_kernelAt, Cond.code yX1_kernelAt cX1_kernelAt 6 (some .int)]
def wsL_law : List Cond := (wsL_law_r1 ++ (wsL_law_r2 ++ (wsL_law_r3 ++ (wsL_law_r4 ++ (wsL_law_r5 ++ (wsL_law_r6 ++ (wsL_law_r7 ++ (wsL_law_r8 ++ (wsL_law_r9 ++ (wsL_law_r10 ++ wsL_law_r11)))))))))) ++ wsX00 ++ wsX10 ++ ([] : List Cond)
set_option maxRecDepth 20000 in
theorem wsL_law_in : ∀ w ∈ wsL_law, w ∈ lw_tbl := fun w h => (goodIn_p wsL_law [186, 30, 33, 36, 39, 191, 195, 78, 82, 86, 238, 242, 90, 246, 94, 250, 98, 102, 106, 110, 114, 118, 122, 126, 130, 254, 258, 262, 266, 270, 134, 274, 138, 278, 142, 146, 282, 286, 150, 290, 154, 158, 294, 162, 166, 298, 302, 306, 170, 310, 314, 175, 318, 179, 183, 322] (by decide +kernel) (by decide +kernel) w h).1
theorem inlX0 : ∀ w ∈ wsX00, w ∈ wsL_law := fun _ h => List.mem_append_left _ (List.mem_append_left _ (List.mem_append_right _ h))
theorem inX0 : ∀ w ∈ wsX00, w ∈ lw_tbl := fun w h => wsL_law_in w (inlX0 w h)
theorem inlX1 : ∀ w ∈ wsX10, w ∈ wsL_law := fun _ h => List.mem_append_left _ (List.mem_append_right _ h)
theorem inX1 : ∀ w ∈ wsX10, w ∈ lw_tbl := fun w h => wsL_law_in w (inlX1 w h)
set_option maxRecDepth 20000 in
theorem ggX0_init_X0_isSide : GoodIn wsX0_init wsX0_isSide := goodIn_r _ [19] (by decide +kernel) (by decide +kernel)
end
section
set_option maxRecDepth 20000 in
theorem gX0_init_X0_isSide : GoodIn wsX0_init (va_wsS RX0 7 yX0_isSide wsX0_isSide) := goodIn_app (goodIn_of _ (by decide +kernel)) ggX0_init_X0_isSide
set_option maxRecDepth 20000 in
theorem ggX0_init_X0_isPrime : GoodIn wsX0_init wsX0_isPrime := goodIn_r _ [22] (by decide +kernel) (by decide +kernel)
set_option maxRecDepth 20000 in
theorem gX0_init_X0_isPrime : GoodIn wsX0_init (va_wsS RX0 13 yX0_isPrime wsX0_isPrime) := goodIn_app (goodIn_of _ (by decide +kernel)) ggX0_init_X0_isPrime
theorem dX0_init_0 : decode cX0_init 0 = .ok (.aload_n 0, 1) := by decide +kernel
theorem dX0_init_1 : decode cX0_init 1 = .ok (.invokespecial 1, 3) := by decide +kernel
theorem dX0_init_4 : decode cX0_init 4 = .ok (.iload_n 2, 1) := by decide +kernel
theorem dX0_init_5 : decode cX0_init 5 = .ok (.invokestatic 7, 3) := by decide +kernel
theorem dX0_init_8 : decode cX0_init 8 = .ok (.ifCond .eq 21, 3) := by decide +kernel
theorem dX0_init_11 : decode cX0_init 11 = .ok (.iload_n 3, 1) := by decide +kernel
theorem dX0_init_12 : decode cX0_init 12 = .ok (.invokestatic 7, 3) := by decide +kernel
theorem dX0_init_15 : decode cX0_init 15 = .ok (.ifCond .eq 14, 3) := by decide +kernel
theorem dX0_init_18 : decode cX0_init 18 = .ok (.iload_n 1, 1) := by decide +kernel
theorem dX0_init_19 : decode cX0_init 19 = .ok (.invokestatic 13, 3) := by decide +kernel
theorem dX0_init_22 : decode cX0_init 22 = .ok (.ifCond .eq 7, 3) := by decide +kernel
theorem dX0_init_25 : decode cX0_init 25 = .ok (.iconst 1, 1) := by decide +kernel
theorem dX0_init_26 : decode cX0_init 26 = .ok (.goto 4, 3) := by decide +kernel
theorem dX0_init_29 : decode cX0_init 29 = .ok (.iconst 0, 1) := by decide +kernel
theorem dX0_init_30 : decode cX0_init 30 = .ok (.istore 4, 2) := by decide +kernel
theorem dX0_init_32 : decode cX0_init 32 = .ok (.aload_n 0, 1) := by decide +kernel
theorem dX0_init_33 : decode cX0_init 33 = .ok (.iload_n 1, 1) := by decide +kernel
theorem dX0_init_34 : decode cX0_init 34 = .ok (.putfield 16, 3) := by decide +kernel
theorem dX0_init_37 : decode cX0_init 37 = .ok (.aload_n 0, 1) := by decide +kernel
theorem dX0_init_38 : decode cX0_init 38 = .ok (.iload 4, 2) := by decide +kernel
theorem dX0_init_40 : decode cX0_init 40 = .ok (.ifCond .eq 7, 3) := by decide +kernel
theorem dX0_init_43 : decode cX0_init 43 = .ok (.iload_n 2, 1) := by decide +kernel
theorem dX0_init_44 : decode cX0_init 44 = .ok (.goto 4, 3) := by decide +kernel
theorem dX0_init_47 : decode cX0_init 47 = .ok (.iconst 0, 1) := by decide +kernel
theorem dX0_init_48 : decode cX0_init 48 = .ok (.putfield 20, 3) := by decide +kernel
theorem dX0_init_51 : decode cX0_init 51 = .ok (.aload_n 0, 1) := by decide +kernel
theorem dX0_init_52 : decode cX0_init 52 = .ok (.iload 4, 2) := by decide +kernel
theorem dX0_init_54 : decode cX0_init 54 = .ok (.ifCond .eq 7, 3) := by decide +kernel
theorem dX0_init_57 : decode cX0_init 57 = .ok (.iload_n 3, 1) := by decide +kernel
theorem dX0_init_58 : decode cX0_init 58 = .ok (.goto 4, 3) := by decide +kernel
theorem dX0_init_61 : decode cX0_init 61 = .ok (.iconst 0, 1) := by decide +kernel
theorem dX0_init_62 : decode cX0_init 62 = .ok (.putfield 23, 3) := by decide +kernel
theorem dX0_init_65 : decode cX0_init 65 = .ok (.aload_n 0, 1) := by decide +kernel
theorem dX0_init_66 : decode cX0_init 66 = .ok (.aload_n 0, 1) := by decide +kernel
theorem dX0_init_67 : decode cX0_init 67 = .ok (.getfield 23, 3) := by decide +kernel
theorem dX0_init_70 : decode cX0_init 70 = .ok (.aload_n 0, 1) := by decide +kernel
theorem dX0_init_71 : decode cX0_init 71 = .ok (.getfield 20, 3) := by decide +kernel
theorem dX0_init_74 : decode cX0_init 74 = .ok (.iadd, 1) := by decide +kernel
theorem dX0_init_75 : decode cX0_init 75 = .ok (.putfield 26, 3) := by decide +kernel
theorem dX0_init_78 : decode cX0_init 78 = .ok (.aload_n 0, 1) := by decide +kernel
theorem dX0_init_79 : decode cX0_init 79 = .ok (.aload_n 0, 1) := by decide +kernel
theorem dX0_init_80 : decode cX0_init 80 = .ok (.getfield 20, 3) := by decide +kernel
theorem dX0_init_83 : decode cX0_init 83 = .ok (.aload_n 0, 1) := by decide +kernel
theorem dX0_init_84 : decode cX0_init 84 = .ok (.getfield 23, 3) := by decide +kernel
theorem dX0_init_87 : decode cX0_init 87 = .ok (.imul, 1) := by decide +kernel
theorem dX0_init_88 : decode cX0_init 88 = .ok (.newarray .int, 2) := by decide +kernel
theorem dX0_init_90 : decode cX0_init 90 = .ok (.putfield 29, 3) := by decide +kernel
theorem dX0_init_93 : decode cX0_init 93 = .ok (.aload_n 0, 1) := by decide +kernel
theorem dX0_init_94 : decode cX0_init 94 = .ok (.aload_n 0, 1) := by decide +kernel
theorem dX0_init_95 : decode cX0_init 95 = .ok (.getfield 20, 3) := by decide +kernel
theorem dX0_init_98 : decode cX0_init 98 = .ok (.newarray .int, 2) := by decide +kernel
theorem dX0_init_100 : decode cX0_init 100 = .ok (.putfield 33, 3) := by decide +kernel
theorem dX0_init_103 : decode cX0_init 103 = .ok (.aload_n 0, 1) := by decide +kernel
theorem dX0_init_104 : decode cX0_init 104 = .ok (.aload_n 0, 1) := by decide +kernel
theorem dX0_init_105 : decode cX0_init 105 = .ok (.getfield 20, 3) := by decide +kernel
theorem dX0_init_108 : decode cX0_init 108 = .ok (.aload_n 0, 1) := by decide +kernel
theorem dX0_init_109 : decode cX0_init 109 = .ok (.getfield 26, 3) := by decide +kernel
theorem dX0_init_112 : decode cX0_init 112 = .ok (.imul, 1) := by decide +kernel
theorem dX0_init_113 : decode cX0_init 113 = .ok (.newarray .int, 2) := by decide +kernel
theorem dX0_init_115 : decode cX0_init 115 = .ok (.putfield 36, 3) := by decide +kernel
theorem dX0_init_118 : decode cX0_init 118 = .ok (.aload_n 0, 1) := by decide +kernel
theorem dX0_init_119 : decode cX0_init 119 = .ok (.aload_n 0, 1) := by decide +kernel
theorem dX0_init_120 : decode cX0_init 120 = .ok (.getfield 23, 3) := by decide +kernel
theorem dX0_init_123 : decode cX0_init 123 = .ok (.newarray .int, 2) := by decide +kernel
theorem dX0_init_125 : decode cX0_init 125 = .ok (.putfield 39, 3) := by decide +kernel
theorem dX0_init_128 : decode cX0_init 128 = .ok (.aload_n 0, 1) := by decide +kernel
theorem dX0_init_129 : decode cX0_init 129 = .ok (.iconst 0, 1) := by decide +kernel
theorem dX0_init_130 : decode cX0_init 130 = .ok (.putfield 42, 3) := by decide +kernel
theorem dX0_init_133 : decode cX0_init 133 = .ok (.aload_n 0, 1) := by decide +kernel
theorem dX0_init_134 : decode cX0_init 134 = .ok (.iconst 0, 1) := by decide +kernel
theorem dX0_init_135 : decode cX0_init 135 = .ok (.putfield 46, 3) := by decide +kernel
theorem dX0_init_138 : decode cX0_init 138 = .ok (.aload_n 0, 1) := by decide +kernel
theorem dX0_init_139 : decode cX0_init 139 = .ok (.lconst 1, 1) := by decide +kernel
theorem dX0_init_140 : decode cX0_init 140 = .ok (.putfield 49, 3) := by decide +kernel
theorem dX0_init_143 : decode cX0_init 143 = .ok (.return_, 1) := by decide +kernel
set_option maxRecDepth 20000 in
theorem ggX0_set_X0_isRow : GoodIn wsX0_set wsX0_isRow := goodIn_r _ [9, 10, 15, 16, 17, 18, 19, 20, 21, 22, 23, 24, 25] (by decide +kernel) (by decide +kernel)
set_option maxRecDepth 20000 in
theorem gX0_set_X0_isRow : GoodIn wsX0_set (wsV RX0 53 RX0 yX0_isRow wsX0_isRow) := goodIn_app (goodIn_of _ (by decide +kernel)) ggX0_set_X0_isRow
set_option maxRecDepth 20000 in
theorem ggX0_set_X0_isColumn : GoodIn wsX0_set wsX0_isColumn := goodIn_r _ [14, 2, 15, 16, 17, 18, 19, 20, 21, 22, 23, 24, 25] (by decide +kernel) (by decide +kernel)
set_option maxRecDepth 20000 in
theorem gX0_set_X0_isColumn : GoodIn wsX0_set (wsV RX0 56 RX0 yX0_isColumn wsX0_isColumn) := goodIn_app (goodIn_of _ (by decide +kernel)) ggX0_set_X0_isColumn
theorem dX0_set_0 : decode cX0_set 0 = .ok (.aload_n 0, 1) := by decide +kernel
theorem dX0_set_1 : decode cX0_set 1 = .ok (.iload_n 1, 1) := by decide +kernel
theorem dX0_set_2 : decode cX0_set 2 = .ok (.invokevirtual 53, 3) := by decide +kernel
theorem dX0_set_5 : decode cX0_set 5 = .ok (.ifCond .eq 15, 3) := by decide +kernel
theorem dX0_set_8 : decode cX0_set 8 = .ok (.aload_n 0, 1) := by decide +kernel
theorem dX0_set_9 : decode cX0_set 9 = .ok (.iload_n 2, 1) := by decide +kernel
theorem dX0_set_10 : decode cX0_set 10 = .ok (.invokevirtual 56, 3) := by decide +kernel
theorem dX0_set_13 : decode cX0_set 13 = .ok (.ifCond .eq 7, 3) := by decide +kernel
theorem dX0_set_16 : decode cX0_set 16 = .ok (.iload_n 3, 1) := by decide +kernel
theorem dX0_set_17 : decode cX0_set 17 = .ok (.ifCond .ge 5, 3) := by decide +kernel
theorem dX0_set_20 : decode cX0_set 20 = .ok (.iconst 0, 1) := by decide +kernel
theorem dX0_set_21 : decode cX0_set 21 = .ok (.ireturn, 1) := by decide +kernel
theorem dX0_set_22 : decode cX0_set 22 = .ok (.aload_n 0, 1) := by decide +kernel
theorem dX0_set_23 : decode cX0_set 23 = .ok (.getfield 29, 3) := by decide +kernel
theorem dX0_set_26 : decode cX0_set 26 = .ok (.iload_n 1, 1) := by decide +kernel
theorem dX0_set_27 : decode cX0_set 27 = .ok (.aload_n 0, 1) := by decide +kernel
theorem dX0_set_28 : decode cX0_set 28 = .ok (.getfield 23, 3) := by decide +kernel
theorem dX0_set_31 : decode cX0_set 31 = .ok (.imul, 1) := by decide +kernel
theorem dX0_set_32 : decode cX0_set 32 = .ok (.iload_n 2, 1) := by decide +kernel
theorem dX0_set_33 : decode cX0_set 33 = .ok (.iadd, 1) := by decide +kernel
theorem dX0_set_34 : decode cX0_set 34 = .ok (.iload_n 3, 1) := by decide +kernel
theorem dX0_set_35 : decode cX0_set 35 = .ok (.aload_n 0, 1) := by decide +kernel
theorem dX0_set_36 : decode cX0_set 36 = .ok (.getfield 16, 3) := by decide +kernel
theorem dX0_set_39 : decode cX0_set 39 = .ok (.irem, 1) := by decide +kernel
theorem dX0_set_40 : decode cX0_set 40 = .ok (.iastore, 1) := by decide +kernel
theorem dX0_set_41 : decode cX0_set 41 = .ok (.aload_n 0, 1) := by decide +kernel
theorem dX0_set_42 : decode cX0_set 42 = .ok (.iconst 0, 1) := by decide +kernel
theorem dX0_set_43 : decode cX0_set 43 = .ok (.putfield 42, 3) := by decide +kernel
theorem dX0_set_46 : decode cX0_set 46 = .ok (.iconst 1, 1) := by decide +kernel
theorem dX0_set_47 : decode cX0_set 47 = .ok (.ireturn, 1) := by decide +kernel
set_option maxRecDepth 20000 in
theorem ggX0_get_X0_isRow : GoodIn wsX0_get wsX0_isRow := goodIn_r _ [7, 8, 13, 14, 15, 16, 17, 18, 19, 20, 21, 22, 23] (by decide +kernel) (by decide +kernel)
set_option maxRecDepth 20000 in
theorem gX0_get_X0_isRow : GoodIn wsX0_get (wsV RX0 53 RX0 yX0_isRow wsX0_isRow) := goodIn_app (goodIn_of _ (by decide +kernel)) ggX0_get_X0_isRow
set_option maxRecDepth 20000 in
theorem ggX0_get_X0_isColumn : GoodIn wsX0_get wsX0_isColumn := goodIn_r _ [12, 2, 13, 14, 15, 16, 17, 18, 19, 20, 21, 22, 23] (by decide +kernel) (by decide +kernel)
set_option maxRecDepth 20000 in
theorem gX0_get_X0_isColumn : GoodIn wsX0_get (wsV RX0 56 RX0 yX0_isColumn wsX0_isColumn) := goodIn_app (goodIn_of _ (by decide +kernel)) ggX0_get_X0_isColumn
theorem dX0_get_0 : decode cX0_get 0 = .ok (.aload_n 0, 1) := by decide +kernel
theorem dX0_get_1 : decode cX0_get 1 = .ok (.iload_n 1, 1) := by decide +kernel
theorem dX0_get_2 : decode cX0_get 2 = .ok (.invokevirtual 53, 3) := by decide +kernel
theorem dX0_get_5 : decode cX0_get 5 = .ok (.ifCond .eq 11, 3) := by decide +kernel
theorem dX0_get_8 : decode cX0_get 8 = .ok (.aload_n 0, 1) := by decide +kernel
theorem dX0_get_9 : decode cX0_get 9 = .ok (.iload_n 2, 1) := by decide +kernel
theorem dX0_get_10 : decode cX0_get 10 = .ok (.invokevirtual 56, 3) := by decide +kernel
theorem dX0_get_13 : decode cX0_get 13 = .ok (.ifCond .ne 5, 3) := by decide +kernel
theorem dX0_get_16 : decode cX0_get 16 = .ok (.iconst (-1), 1) := by decide +kernel
theorem dX0_get_17 : decode cX0_get 17 = .ok (.ireturn, 1) := by decide +kernel
theorem dX0_get_18 : decode cX0_get 18 = .ok (.aload_n 0, 1) := by decide +kernel
theorem dX0_get_19 : decode cX0_get 19 = .ok (.getfield 29, 3) := by decide +kernel
theorem dX0_get_22 : decode cX0_get 22 = .ok (.iload_n 1, 1) := by decide +kernel
theorem dX0_get_23 : decode cX0_get 23 = .ok (.aload_n 0, 1) := by decide +kernel
theorem dX0_get_24 : decode cX0_get 24 = .ok (.getfield 23, 3) := by decide +kernel
theorem dX0_get_27 : decode cX0_get 27 = .ok (.imul, 1) := by decide +kernel
theorem dX0_get_28 : decode cX0_get 28 = .ok (.iload_n 2, 1) := by decide +kernel
theorem dX0_get_29 : decode cX0_get 29 = .ok (.iadd, 1) := by decide +kernel
theorem dX0_get_30 : decode cX0_get 30 = .ok (.iaload, 1) := by decide +kernel
theorem dX0_get_31 : decode cX0_get 31 = .ok (.ireturn, 1) := by decide +kernel
set_option maxRecDepth 20000 in
theorem ggX0_setRhs_X0_isRow : GoodIn wsX0_setRhs wsX0_isRow := goodIn_r _ [7, 8, 9, 10, 11, 12, 13, 14, 15, 16, 17, 18, 19] (by decide +kernel) (by decide +kernel)
set_option maxRecDepth 20000 in
theorem gX0_setRhs_X0_isRow : GoodIn wsX0_setRhs (wsV RX0 53 RX0 yX0_isRow wsX0_isRow) := goodIn_app (goodIn_of _ (by decide +kernel)) ggX0_setRhs_X0_isRow
theorem dX0_setRhs_0 : decode cX0_setRhs 0 = .ok (.aload_n 0, 1) := by decide +kernel
theorem dX0_setRhs_1 : decode cX0_setRhs 1 = .ok (.iload_n 1, 1) := by decide +kernel
theorem dX0_setRhs_2 : decode cX0_setRhs 2 = .ok (.invokevirtual 53, 3) := by decide +kernel
theorem dX0_setRhs_5 : decode cX0_setRhs 5 = .ok (.ifCond .eq 7, 3) := by decide +kernel
theorem dX0_setRhs_8 : decode cX0_setRhs 8 = .ok (.iload_n 2, 1) := by decide +kernel
theorem dX0_setRhs_9 : decode cX0_setRhs 9 = .ok (.ifCond .ge 5, 3) := by decide +kernel
theorem dX0_setRhs_12 : decode cX0_setRhs 12 = .ok (.iconst 0, 1) := by decide +kernel
theorem dX0_setRhs_13 : decode cX0_setRhs 13 = .ok (.ireturn, 1) := by decide +kernel
theorem dX0_setRhs_14 : decode cX0_setRhs 14 = .ok (.aload_n 0, 1) := by decide +kernel
theorem dX0_setRhs_15 : decode cX0_setRhs 15 = .ok (.getfield 33, 3) := by decide +kernel
theorem dX0_setRhs_18 : decode cX0_setRhs 18 = .ok (.iload_n 1, 1) := by decide +kernel
theorem dX0_setRhs_19 : decode cX0_setRhs 19 = .ok (.iload_n 2, 1) := by decide +kernel
theorem dX0_setRhs_20 : decode cX0_setRhs 20 = .ok (.aload_n 0, 1) := by decide +kernel
theorem dX0_setRhs_21 : decode cX0_setRhs 21 = .ok (.getfield 16, 3) := by decide +kernel
theorem dX0_setRhs_24 : decode cX0_setRhs 24 = .ok (.irem, 1) := by decide +kernel
theorem dX0_setRhs_25 : decode cX0_setRhs 25 = .ok (.iastore, 1) := by decide +kernel
theorem dX0_setRhs_26 : decode cX0_setRhs 26 = .ok (.iconst 1, 1) := by decide +kernel
theorem dX0_setRhs_27 : decode cX0_setRhs 27 = .ok (.ireturn, 1) := by decide +kernel
set_option maxRecDepth 20000 in
theorem ggX0_reduce_X0_startWork : GoodIn wsX0_reduce wsX0_startWork := goodIn_r _ [9, 1, 2, 10, 11, 12, 13, 3, 14, 44, 45, 46, 47, 48, 49, 50, 51, 52, 53, 54] (by decide +kernel) (by decide +kernel)
set_option maxRecDepth 20000 in
theorem gX0_reduce_X0_startWork : GoodIn wsX0_reduce (wsV RX0 59 RX0 yX0_startWork wsX0_startWork) := goodIn_app (goodIn_of _ (by decide +kernel)) ggX0_reduce_X0_startWork
set_option maxRecDepth 20000 in
theorem ggX0_reduce_X0_reduceColumn : GoodIn wsX0_reduce wsX0_reduceColumn := goodIn_r _ [18, 3, 14, 10, 11, 19, 1, 13, 20, 21, 22, 8, 23, 24, 25, 26, 27, 28, 29, 30, 31, 32, 33, 34, 35, 36, 37, 38, 39, 40, 41, 42, 43, 44, 45, 46, 47, 48, 49, 50, 51, 52, 53, 54] (by decide +kernel) (by decide +kernel)
set_option maxRecDepth 20000 in
theorem gX0_reduce_X0_reduceColumn : GoodIn wsX0_reduce (wsV RX0 62 RX0 yX0_reduceColumn wsX0_reduceColumn) := goodIn_app (goodIn_of _ (by decide +kernel)) ggX0_reduce_X0_reduceColumn
theorem dX0_reduce_0 : decode cX0_reduce 0 = .ok (.aload_n 0, 1) := by decide +kernel
theorem dX0_reduce_1 : decode cX0_reduce 1 = .ok (.getfield 20, 3) := by decide +kernel
theorem dX0_reduce_4 : decode cX0_reduce 4 = .ok (.ifCond .ne 5, 3) := by decide +kernel
theorem dX0_reduce_7 : decode cX0_reduce 7 = .ok (.iconst (-1), 1) := by decide +kernel
theorem dX0_reduce_8 : decode cX0_reduce 8 = .ok (.ireturn, 1) := by decide +kernel
theorem dX0_reduce_9 : decode cX0_reduce 9 = .ok (.aload_n 0, 1) := by decide +kernel
theorem dX0_reduce_10 : decode cX0_reduce 10 = .ok (.invokevirtual 59, 3) := by decide +kernel
theorem dX0_reduce_13 : decode cX0_reduce 13 = .ok (.iconst 0, 1) := by decide +kernel
theorem dX0_reduce_14 : decode cX0_reduce 14 = .ok (.istore_n 1, 1) := by decide +kernel
theorem dX0_reduce_15 : decode cX0_reduce 15 = .ok (.iload_n 1, 1) := by decide +kernel
theorem dX0_reduce_16 : decode cX0_reduce 16 = .ok (.aload_n 0, 1) := by decide +kernel
theorem dX0_reduce_17 : decode cX0_reduce 17 = .ok (.getfield 23, 3) := by decide +kernel
theorem dX0_reduce_20 : decode cX0_reduce 20 = .ok (.if_icmp .ge 25, 3) := by decide +kernel
theorem dX0_reduce_23 : decode cX0_reduce 23 = .ok (.aload_n 0, 1) := by decide +kernel
theorem dX0_reduce_24 : decode cX0_reduce 24 = .ok (.getfield 46, 3) := by decide +kernel
theorem dX0_reduce_27 : decode cX0_reduce 27 = .ok (.aload_n 0, 1) := by decide +kernel
theorem dX0_reduce_28 : decode cX0_reduce 28 = .ok (.getfield 20, 3) := by decide +kernel
theorem dX0_reduce_31 : decode cX0_reduce 31 = .ok (.if_icmp .ge 14, 3) := by decide +kernel
theorem dX0_reduce_34 : decode cX0_reduce 34 = .ok (.aload_n 0, 1) := by decide +kernel
theorem dX0_reduce_35 : decode cX0_reduce 35 = .ok (.iload_n 1, 1) := by decide +kernel
theorem dX0_reduce_36 : decode cX0_reduce 36 = .ok (.invokevirtual 62, 3) := by decide +kernel
theorem dX0_reduce_39 : decode cX0_reduce 39 = .ok (.iinc 1 1, 3) := by decide +kernel
theorem dX0_reduce_42 : decode cX0_reduce 42 = .ok (.goto (-27), 3) := by decide +kernel
theorem dX0_reduce_45 : decode cX0_reduce 45 = .ok (.aload_n 0, 1) := by decide +kernel
theorem dX0_reduce_46 : decode cX0_reduce 46 = .ok (.iconst 1, 1) := by decide +kernel
theorem dX0_reduce_47 : decode cX0_reduce 47 = .ok (.putfield 42, 3) := by decide +kernel
theorem dX0_reduce_50 : decode cX0_reduce 50 = .ok (.aload_n 0, 1) := by decide +kernel
theorem dX0_reduce_51 : decode cX0_reduce 51 = .ok (.getfield 46, 3) := by decide +kernel
theorem dX0_reduce_54 : decode cX0_reduce 54 = .ok (.ireturn, 1) := by decide +kernel
theorem dX0_rank_0 : decode cX0_rank 0 = .ok (.aload_n 0, 1) := by decide +kernel
theorem dX0_rank_1 : decode cX0_rank 1 = .ok (.getfield 42, 3) := by decide +kernel
theorem dX0_rank_4 : decode cX0_rank 4 = .ok (.ifCond .eq 10, 3) := by decide +kernel
theorem dX0_rank_7 : decode cX0_rank 7 = .ok (.aload_n 0, 1) := by decide +kernel
theorem dX0_rank_8 : decode cX0_rank 8 = .ok (.getfield 46, 3) := by decide +kernel
theorem dX0_rank_11 : decode cX0_rank 11 = .ok (.goto 4, 3) := by decide +kernel
theorem dX0_rank_14 : decode cX0_rank 14 = .ok (.iconst (-1), 1) := by decide +kernel
theorem dX0_rank_15 : decode cX0_rank 15 = .ok (.ireturn, 1) := by decide +kernel
set_option maxRecDepth 20000 in
theorem ggX0_rrefAt_X0_isRow : GoodIn wsX0_rrefAt wsX0_isRow := goodIn_r _ [8, 9, 15, 16, 17, 18, 19, 20, 21, 22, 23, 24, 25] (by decide +kernel) (by decide +kernel)
set_option maxRecDepth 20000 in
theorem gX0_rrefAt_X0_isRow : GoodIn wsX0_rrefAt (wsV RX0 53 RX0 yX0_isRow wsX0_isRow) := goodIn_app (goodIn_of _ (by decide +kernel)) ggX0_rrefAt_X0_isRow
set_option maxRecDepth 20000 in
theorem ggX0_rrefAt_X0_isColumn : GoodIn wsX0_rrefAt wsX0_isColumn := goodIn_r _ [13, 14, 15, 16, 17, 18, 19, 20, 21, 22, 23, 24, 25] (by decide +kernel) (by decide +kernel)
set_option maxRecDepth 20000 in
theorem gX0_rrefAt_X0_isColumn : GoodIn wsX0_rrefAt (wsV RX0 56 RX0 yX0_isColumn wsX0_isColumn) := goodIn_app (goodIn_of _ (by decide +kernel)) ggX0_rrefAt_X0_isColumn
theorem dX0_rrefAt_0 : decode cX0_rrefAt 0 = .ok (.aload_n 0, 1) := by decide +kernel
theorem dX0_rrefAt_1 : decode cX0_rrefAt 1 = .ok (.getfield 42, 3) := by decide +kernel
theorem dX0_rrefAt_4 : decode cX0_rrefAt 4 = .ok (.ifCond .eq 19, 3) := by decide +kernel
theorem dX0_rrefAt_7 : decode cX0_rrefAt 7 = .ok (.aload_n 0, 1) := by decide +kernel
theorem dX0_rrefAt_8 : decode cX0_rrefAt 8 = .ok (.iload_n 1, 1) := by decide +kernel
theorem dX0_rrefAt_9 : decode cX0_rrefAt 9 = .ok (.invokevirtual 53, 3) := by decide +kernel
theorem dX0_rrefAt_12 : decode cX0_rrefAt 12 = .ok (.ifCond .eq 11, 3) := by decide +kernel
theorem dX0_rrefAt_15 : decode cX0_rrefAt 15 = .ok (.aload_n 0, 1) := by decide +kernel
theorem dX0_rrefAt_16 : decode cX0_rrefAt 16 = .ok (.iload_n 2, 1) := by decide +kernel
theorem dX0_rrefAt_17 : decode cX0_rrefAt 17 = .ok (.invokevirtual 56, 3) := by decide +kernel
theorem dX0_rrefAt_20 : decode cX0_rrefAt 20 = .ok (.ifCond .ne 5, 3) := by decide +kernel
theorem dX0_rrefAt_23 : decode cX0_rrefAt 23 = .ok (.iconst (-1), 1) := by decide +kernel
theorem dX0_rrefAt_24 : decode cX0_rrefAt 24 = .ok (.ireturn, 1) := by decide +kernel
theorem dX0_rrefAt_25 : decode cX0_rrefAt 25 = .ok (.aload_n 0, 1) := by decide +kernel
theorem dX0_rrefAt_26 : decode cX0_rrefAt 26 = .ok (.getfield 36, 3) := by decide +kernel
theorem dX0_rrefAt_29 : decode cX0_rrefAt 29 = .ok (.iload_n 1, 1) := by decide +kernel
theorem dX0_rrefAt_30 : decode cX0_rrefAt 30 = .ok (.aload_n 0, 1) := by decide +kernel
theorem dX0_rrefAt_31 : decode cX0_rrefAt 31 = .ok (.getfield 26, 3) := by decide +kernel
theorem dX0_rrefAt_34 : decode cX0_rrefAt 34 = .ok (.imul, 1) := by decide +kernel
theorem dX0_rrefAt_35 : decode cX0_rrefAt 35 = .ok (.iload_n 2, 1) := by decide +kernel
theorem dX0_rrefAt_36 : decode cX0_rrefAt 36 = .ok (.iadd, 1) := by decide +kernel
theorem dX0_rrefAt_37 : decode cX0_rrefAt 37 = .ok (.iaload, 1) := by decide +kernel
theorem dX0_rrefAt_38 : decode cX0_rrefAt 38 = .ok (.ireturn, 1) := by decide +kernel
set_option maxRecDepth 20000 in
theorem ggX0_transformAt_X0_isRow : GoodIn wsX0_transformAt wsX0_isRow := goodIn_r _ [6, 7, 15, 16, 17, 18, 19, 20, 21, 22, 23, 24, 25] (by decide +kernel) (by decide +kernel)
set_option maxRecDepth 20000 in
theorem gX0_transformAt_X0_isRow : GoodIn wsX0_transformAt (wsV RX0 53 RX0 yX0_isRow wsX0_isRow) := goodIn_app (goodIn_of _ (by decide +kernel)) ggX0_transformAt_X0_isRow
set_option maxRecDepth 20000 in
theorem ggX0_transformAt_X0_transformNumber : GoodIn wsX0_transformAt wsX0_transformNumber := goodIn_r _ [11, 12, 13, 14, 15, 16, 17, 18, 19, 20, 21, 22, 23, 24, 25] (by decide +kernel) (by decide +kernel)
set_option maxRecDepth 20000 in
theorem gX0_transformAt_X0_transformNumber : GoodIn wsX0_transformAt (wsV RX0 66 RX0 yX0_transformNumber wsX0_transformNumber) := goodIn_app (goodIn_of _ (by decide +kernel)) ggX0_transformAt_X0_transformNumber
theorem dX0_transformAt_0 : decode cX0_transformAt 0 = .ok (.aload_n 0, 1) := by decide +kernel
theorem dX0_transformAt_1 : decode cX0_transformAt 1 = .ok (.getfield 42, 3) := by decide +kernel
theorem dX0_transformAt_4 : decode cX0_transformAt 4 = .ok (.ifCond .eq 19, 3) := by decide +kernel
theorem dX0_transformAt_7 : decode cX0_transformAt 7 = .ok (.aload_n 0, 1) := by decide +kernel
theorem dX0_transformAt_8 : decode cX0_transformAt 8 = .ok (.iload_n 1, 1) := by decide +kernel
theorem dX0_transformAt_9 : decode cX0_transformAt 9 = .ok (.invokevirtual 53, 3) := by decide +kernel
theorem dX0_transformAt_12 : decode cX0_transformAt 12 = .ok (.ifCond .eq 11, 3) := by decide +kernel
theorem dX0_transformAt_15 : decode cX0_transformAt 15 = .ok (.aload_n 0, 1) := by decide +kernel
theorem dX0_transformAt_16 : decode cX0_transformAt 16 = .ok (.iload_n 2, 1) := by decide +kernel
theorem dX0_transformAt_17 : decode cX0_transformAt 17 = .ok (.invokevirtual 53, 3) := by decide +kernel
theorem dX0_transformAt_20 : decode cX0_transformAt 20 = .ok (.ifCond .ne 5, 3) := by decide +kernel
theorem dX0_transformAt_23 : decode cX0_transformAt 23 = .ok (.iconst (-1), 1) := by decide +kernel
theorem dX0_transformAt_24 : decode cX0_transformAt 24 = .ok (.ireturn, 1) := by decide +kernel
theorem dX0_transformAt_25 : decode cX0_transformAt 25 = .ok (.aload_n 0, 1) := by decide +kernel
theorem dX0_transformAt_26 : decode cX0_transformAt 26 = .ok (.iload_n 1, 1) := by decide +kernel
theorem dX0_transformAt_27 : decode cX0_transformAt 27 = .ok (.iload_n 2, 1) := by decide +kernel
theorem dX0_transformAt_28 : decode cX0_transformAt 28 = .ok (.invokevirtual 66, 3) := by decide +kernel
theorem dX0_transformAt_31 : decode cX0_transformAt 31 = .ok (.ireturn, 1) := by decide +kernel
theorem dX0_det_0 : decode cX0_det 0 = .ok (.aload_n 0, 1) := by decide +kernel
theorem dX0_det_1 : decode cX0_det 1 = .ok (.getfield 42, 3) := by decide +kernel
theorem dX0_det_4 : decode cX0_det 4 = .ok (.ifCond .eq 14, 3) := by decide +kernel
theorem dX0_det_7 : decode cX0_det 7 = .ok (.aload_n 0, 1) := by decide +kernel
theorem dX0_det_8 : decode cX0_det 8 = .ok (.getfield 20, 3) := by decide +kernel
theorem dX0_det_11 : decode cX0_det 11 = .ok (.aload_n 0, 1) := by decide +kernel
theorem dX0_det_12 : decode cX0_det 12 = .ok (.getfield 23, 3) := by decide +kernel
theorem dX0_det_15 : decode cX0_det 15 = .ok (.if_icmp .eq 5, 3) := by decide +kernel
theorem dX0_det_18 : decode cX0_det 18 = .ok (.iconst (-1), 1) := by decide +kernel
theorem dX0_det_19 : decode cX0_det 19 = .ok (.ireturn, 1) := by decide +kernel
theorem dX0_det_20 : decode cX0_det 20 = .ok (.aload_n 0, 1) := by decide +kernel
theorem dX0_det_21 : decode cX0_det 21 = .ok (.getfield 46, 3) := by decide +kernel
theorem dX0_det_24 : decode cX0_det 24 = .ok (.aload_n 0, 1) := by decide +kernel
theorem dX0_det_25 : decode cX0_det 25 = .ok (.getfield 23, 3) := by decide +kernel
theorem dX0_det_28 : decode cX0_det 28 = .ok (.if_icmp .ge 7, 3) := by decide +kernel
theorem dX0_det_31 : decode cX0_det 31 = .ok (.iconst 0, 1) := by decide +kernel
theorem dX0_det_32 : decode cX0_det 32 = .ok (.goto 8, 3) := by decide +kernel
theorem dX0_det_35 : decode cX0_det 35 = .ok (.aload_n 0, 1) := by decide +kernel
theorem dX0_det_36 : decode cX0_det 36 = .ok (.getfield 49, 3) := by decide +kernel
theorem dX0_det_39 : decode cX0_det 39 = .ok (.l2i, 1) := by decide +kernel
theorem dX0_det_40 : decode cX0_det 40 = .ok (.ireturn, 1) := by decide +kernel
set_option maxRecDepth 20000 in
theorem ggX0_inverseAt_X0_hasInverse : GoodIn wsX0_inverseAt wsX0_hasInverse := goodIn_r _ [5, 6, 7, 8, 9, 20, 21, 22, 23, 24, 25, 26, 27, 28, 29, 30] (by decide +kernel) (by decide +kernel)
set_option maxRecDepth 20000 in
theorem gX0_inverseAt_X0_hasInverse : GoodIn wsX0_inverseAt (wsV RX0 70 RX0 yX0_hasInverse wsX0_hasInverse) := goodIn_app (goodIn_of _ (by decide +kernel)) ggX0_inverseAt_X0_hasInverse
set_option maxRecDepth 20000 in
theorem ggX0_inverseAt_X0_isRow : GoodIn wsX0_inverseAt wsX0_isRow := goodIn_r _ [13, 7, 20, 21, 22, 23, 24, 25, 26, 27, 28, 29, 30] (by decide +kernel) (by decide +kernel)
set_option maxRecDepth 20000 in
theorem gX0_inverseAt_X0_isRow : GoodIn wsX0_inverseAt (wsV RX0 53 RX0 yX0_isRow wsX0_isRow) := goodIn_app (goodIn_of _ (by decide +kernel)) ggX0_inverseAt_X0_isRow
set_option maxRecDepth 20000 in
theorem ggX0_inverseAt_X0_transformNumber : GoodIn wsX0_inverseAt wsX0_transformNumber := goodIn_r _ [17, 18, 19, 8, 20, 21, 22, 23, 24, 25, 26, 27, 28, 29, 30] (by decide +kernel) (by decide +kernel)
set_option maxRecDepth 20000 in
theorem gX0_inverseAt_X0_transformNumber : GoodIn wsX0_inverseAt (wsV RX0 66 RX0 yX0_transformNumber wsX0_transformNumber) := goodIn_app (goodIn_of _ (by decide +kernel)) ggX0_inverseAt_X0_transformNumber
theorem dX0_inverseAt_0 : decode cX0_inverseAt 0 = .ok (.aload_n 0, 1) := by decide +kernel
theorem dX0_inverseAt_1 : decode cX0_inverseAt 1 = .ok (.invokevirtual 70, 3) := by decide +kernel
theorem dX0_inverseAt_4 : decode cX0_inverseAt 4 = .ok (.ifCond .eq 19, 3) := by decide +kernel
theorem dX0_inverseAt_7 : decode cX0_inverseAt 7 = .ok (.aload_n 0, 1) := by decide +kernel
theorem dX0_inverseAt_8 : decode cX0_inverseAt 8 = .ok (.iload_n 1, 1) := by decide +kernel
theorem dX0_inverseAt_9 : decode cX0_inverseAt 9 = .ok (.invokevirtual 53, 3) := by decide +kernel
theorem dX0_inverseAt_12 : decode cX0_inverseAt 12 = .ok (.ifCond .eq 11, 3) := by decide +kernel
theorem dX0_inverseAt_15 : decode cX0_inverseAt 15 = .ok (.aload_n 0, 1) := by decide +kernel
theorem dX0_inverseAt_16 : decode cX0_inverseAt 16 = .ok (.iload_n 2, 1) := by decide +kernel
theorem dX0_inverseAt_17 : decode cX0_inverseAt 17 = .ok (.invokevirtual 53, 3) := by decide +kernel
theorem dX0_inverseAt_20 : decode cX0_inverseAt 20 = .ok (.ifCond .ne 5, 3) := by decide +kernel
theorem dX0_inverseAt_23 : decode cX0_inverseAt 23 = .ok (.iconst (-1), 1) := by decide +kernel
theorem dX0_inverseAt_24 : decode cX0_inverseAt 24 = .ok (.ireturn, 1) := by decide +kernel
theorem dX0_inverseAt_25 : decode cX0_inverseAt 25 = .ok (.aload_n 0, 1) := by decide +kernel
theorem dX0_inverseAt_26 : decode cX0_inverseAt 26 = .ok (.iload_n 1, 1) := by decide +kernel
theorem dX0_inverseAt_27 : decode cX0_inverseAt 27 = .ok (.iload_n 2, 1) := by decide +kernel
theorem dX0_inverseAt_28 : decode cX0_inverseAt 28 = .ok (.invokevirtual 66, 3) := by decide +kernel
theorem dX0_inverseAt_31 : decode cX0_inverseAt 31 = .ok (.ireturn, 1) := by decide +kernel
set_option maxRecDepth 20000 in
theorem ggX0_solvable_X0_changedRightSide : GoodIn wsX0_solvable wsX0_changedRightSide := goodIn_r _ [8, 3, 9, 10, 11, 12, 13, 7, 14, 15, 16, 17, 18, 19, 20, 21, 22, 23, 24, 25, 26, 27, 28] (by decide +kernel) (by decide +kernel)
set_option maxRecDepth 20000 in
theorem gX0_solvable_X0_changedRightSide : GoodIn wsX0_solvable (wsV RX0 74 RX0 yX0_changedRightSide wsX0_changedRightSide) := goodIn_app (goodIn_of _ (by decide +kernel)) ggX0_solvable_X0_changedRightSide
theorem dX0_solvable_0 : decode cX0_solvable 0 = .ok (.aload_n 0, 1) := by decide +kernel
theorem dX0_solvable_1 : decode cX0_solvable 1 = .ok (.getfield 42, 3) := by decide +kernel
theorem dX0_solvable_4 : decode cX0_solvable 4 = .ok (.ifCond .ne 5, 3) := by decide +kernel
theorem dX0_solvable_7 : decode cX0_solvable 7 = .ok (.iconst 0, 1) := by decide +kernel
theorem dX0_solvable_8 : decode cX0_solvable 8 = .ok (.ireturn, 1) := by decide +kernel
theorem dX0_solvable_9 : decode cX0_solvable 9 = .ok (.aload_n 0, 1) := by decide +kernel
theorem dX0_solvable_10 : decode cX0_solvable 10 = .ok (.getfield 46, 3) := by decide +kernel
theorem dX0_solvable_13 : decode cX0_solvable 13 = .ok (.istore_n 1, 1) := by decide +kernel
theorem dX0_solvable_14 : decode cX0_solvable 14 = .ok (.iload_n 1, 1) := by decide +kernel
theorem dX0_solvable_15 : decode cX0_solvable 15 = .ok (.aload_n 0, 1) := by decide +kernel
theorem dX0_solvable_16 : decode cX0_solvable 16 = .ok (.getfield 20, 3) := by decide +kernel
theorem dX0_solvable_19 : decode cX0_solvable 19 = .ok (.if_icmp .ge 19, 3) := by decide +kernel
theorem dX0_solvable_22 : decode cX0_solvable 22 = .ok (.aload_n 0, 1) := by decide +kernel
theorem dX0_solvable_23 : decode cX0_solvable 23 = .ok (.iload_n 1, 1) := by decide +kernel
theorem dX0_solvable_24 : decode cX0_solvable 24 = .ok (.invokevirtual 74, 3) := by decide +kernel
theorem dX0_solvable_27 : decode cX0_solvable 27 = .ok (.ifCond .eq 5, 3) := by decide +kernel
theorem dX0_solvable_30 : decode cX0_solvable 30 = .ok (.iconst 0, 1) := by decide +kernel
theorem dX0_solvable_31 : decode cX0_solvable 31 = .ok (.ireturn, 1) := by decide +kernel
theorem dX0_solvable_32 : decode cX0_solvable 32 = .ok (.iinc 1 1, 3) := by decide +kernel
theorem dX0_solvable_35 : decode cX0_solvable 35 = .ok (.goto (-21), 3) := by decide +kernel
theorem dX0_solvable_38 : decode cX0_solvable 38 = .ok (.iconst 1, 1) := by decide +kernel
theorem dX0_solvable_39 : decode cX0_solvable 39 = .ok (.ireturn, 1) := by decide +kernel
set_option maxRecDepth 20000 in
theorem ggX0_solution_X0_isColumn : GoodIn wsX0_solution wsX0_isColumn := goodIn_r _ [6, 7, 27, 28, 29, 30, 31, 32, 33, 34, 35, 36, 37] (by decide +kernel) (by decide +kernel)
set_option maxRecDepth 20000 in
theorem gX0_solution_X0_isColumn : GoodIn wsX0_solution (wsV RX0 56 RX0 yX0_isColumn wsX0_isColumn) := goodIn_app (goodIn_of _ (by decide +kernel)) ggX0_solution_X0_isColumn
set_option maxRecDepth 20000 in
theorem ggX0_solution_X0_solvable : GoodIn wsX0_solution wsX0_solvable := goodIn_r _ [11, 12, 13, 14, 15, 16, 17, 5, 18, 19, 20, 21, 22, 23, 24, 25, 26, 7, 27, 28, 29, 30, 31, 32, 33, 34, 35, 36, 37] (by decide +kernel) (by decide +kernel)
set_option maxRecDepth 20000 in
theorem gX0_solution_X0_solvable : GoodIn wsX0_solution (wsV RX0 78 RX0 yX0_solvable wsX0_solvable) := goodIn_app (goodIn_of _ (by decide +kernel)) ggX0_solution_X0_solvable
set_option maxRecDepth 20000 in
theorem ggX0_solution_X0_changedRightSide : GoodIn wsX0_solution wsX0_changedRightSide := goodIn_r _ [18, 14, 19, 20, 21, 22, 23, 5, 24, 25, 26, 7, 27, 28, 29, 30, 31, 32, 33, 34, 35, 36, 37] (by decide +kernel) (by decide +kernel)
set_option maxRecDepth 20000 in
theorem gX0_solution_X0_changedRightSide : GoodIn wsX0_solution (wsV RX0 74 RX0 yX0_changedRightSide wsX0_changedRightSide) := goodIn_app (goodIn_of _ (by decide +kernel)) ggX0_solution_X0_changedRightSide
theorem dX0_solution_0 : decode cX0_solution 0 = .ok (.aload_n 0, 1) := by decide +kernel
theorem dX0_solution_1 : decode cX0_solution 1 = .ok (.iload_n 1, 1) := by decide +kernel
theorem dX0_solution_2 : decode cX0_solution 2 = .ok (.invokevirtual 56, 3) := by decide +kernel
theorem dX0_solution_5 : decode cX0_solution 5 = .ok (.ifCond .eq 10, 3) := by decide +kernel
theorem dX0_solution_8 : decode cX0_solution 8 = .ok (.aload_n 0, 1) := by decide +kernel
theorem dX0_solution_9 : decode cX0_solution 9 = .ok (.invokevirtual 78, 3) := by decide +kernel
theorem dX0_solution_12 : decode cX0_solution 12 = .ok (.ifCond .ne 5, 3) := by decide +kernel
theorem dX0_solution_15 : decode cX0_solution 15 = .ok (.iconst (-1), 1) := by decide +kernel
theorem dX0_solution_16 : decode cX0_solution 16 = .ok (.ireturn, 1) := by decide +kernel
theorem dX0_solution_17 : decode cX0_solution 17 = .ok (.aload_n 0, 1) := by decide +kernel
theorem dX0_solution_18 : decode cX0_solution 18 = .ok (.getfield 39, 3) := by decide +kernel
theorem dX0_solution_21 : decode cX0_solution 21 = .ok (.iload_n 1, 1) := by decide +kernel
theorem dX0_solution_22 : decode cX0_solution 22 = .ok (.iaload, 1) := by decide +kernel
theorem dX0_solution_23 : decode cX0_solution 23 = .ok (.istore_n 2, 1) := by decide +kernel
theorem dX0_solution_24 : decode cX0_solution 24 = .ok (.iload_n 2, 1) := by decide +kernel
theorem dX0_solution_25 : decode cX0_solution 25 = .ok (.iconst (-1), 1) := by decide +kernel
theorem dX0_solution_26 : decode cX0_solution 26 = .ok (.if_icmp .ne 7, 3) := by decide +kernel
theorem dX0_solution_29 : decode cX0_solution 29 = .ok (.iconst 0, 1) := by decide +kernel
theorem dX0_solution_30 : decode cX0_solution 30 = .ok (.goto 8, 3) := by decide +kernel
theorem dX0_solution_33 : decode cX0_solution 33 = .ok (.aload_n 0, 1) := by decide +kernel
theorem dX0_solution_34 : decode cX0_solution 34 = .ok (.iload_n 2, 1) := by decide +kernel
theorem dX0_solution_35 : decode cX0_solution 35 = .ok (.invokevirtual 74, 3) := by decide +kernel
theorem dX0_solution_38 : decode cX0_solution 38 = .ok (.ireturn, 1) := by decide +kernel
theorem dX0_kernelDim_0 : decode cX0_kernelDim 0 = .ok (.aload_n 0, 1) := by decide +kernel
theorem dX0_kernelDim_1 : decode cX0_kernelDim 1 = .ok (.getfield 42, 3) := by decide +kernel
theorem dX0_kernelDim_4 : decode cX0_kernelDim 4 = .ok (.ifCond .eq 15, 3) := by decide +kernel
theorem dX0_kernelDim_7 : decode cX0_kernelDim 7 = .ok (.aload_n 0, 1) := by decide +kernel
theorem dX0_kernelDim_8 : decode cX0_kernelDim 8 = .ok (.getfield 23, 3) := by decide +kernel
theorem dX0_kernelDim_11 : decode cX0_kernelDim 11 = .ok (.aload_n 0, 1) := by decide +kernel
theorem dX0_kernelDim_12 : decode cX0_kernelDim 12 = .ok (.getfield 46, 3) := by decide +kernel
theorem dX0_kernelDim_15 : decode cX0_kernelDim 15 = .ok (.isub, 1) := by decide +kernel
theorem dX0_kernelDim_16 : decode cX0_kernelDim 16 = .ok (.goto 4, 3) := by decide +kernel
theorem dX0_kernelDim_19 : decode cX0_kernelDim 19 = .ok (.iconst (-1), 1) := by decide +kernel
theorem dX0_kernelDim_20 : decode cX0_kernelDim 20 = .ok (.ireturn, 1) := by decide +kernel
set_option maxRecDepth 20000 in
theorem ggX0_kernelAt_X0_isColumn : GoodIn wsX0_kernelAt wsX0_isColumn := goodIn_r _ [9, 10, 20, 21, 22, 23, 24, 25, 26, 27, 28, 29, 30] (by decide +kernel) (by decide +kernel)
set_option maxRecDepth 20000 in
theorem gX0_kernelAt_X0_isColumn : GoodIn wsX0_kernelAt (wsV RX0 56 RX0 yX0_isColumn wsX0_isColumn) := goodIn_app (goodIn_of _ (by decide +kernel)) ggX0_kernelAt_X0_isColumn
set_option maxRecDepth 20000 in
theorem ggX0_kernelAt_X0_freeColumn : GoodIn wsX0_kernelAt wsX0_freeColumn := goodIn_r _ [14, 10, 2, 20, 21, 22, 23, 24, 25, 26, 27, 28, 29, 30] (by decide +kernel) (by decide +kernel)
set_option maxRecDepth 20000 in
theorem gX0_kernelAt_X0_freeColumn : GoodIn wsX0_kernelAt (wsV RX0 81 RX0 yX0_freeColumn wsX0_freeColumn) := goodIn_app (goodIn_of _ (by decide +kernel)) ggX0_kernelAt_X0_freeColumn
set_option maxRecDepth 20000 in
theorem ggX0_kernelAt_X0_negative : GoodIn wsX0_kernelAt wsX0_negative := goodIn_r _ [18, 19, 20, 21, 22, 23, 24, 25, 26, 27, 28, 29, 30] (by decide +kernel) (by decide +kernel)
set_option maxRecDepth 20000 in
theorem gX0_kernelAt_X0_negative : GoodIn wsX0_kernelAt (wsV RX0 84 RX0 yX0_negative wsX0_negative) := goodIn_app (goodIn_of _ (by decide +kernel)) ggX0_kernelAt_X0_negative
theorem dX0_kernelAt_0 : decode cX0_kernelAt 0 = .ok (.aload_n 0, 1) := by decide +kernel
theorem dX0_kernelAt_1 : decode cX0_kernelAt 1 = .ok (.getfield 42, 3) := by decide +kernel
theorem dX0_kernelAt_4 : decode cX0_kernelAt 4 = .ok (.ifCond .eq 11, 3) := by decide +kernel
theorem dX0_kernelAt_7 : decode cX0_kernelAt 7 = .ok (.aload_n 0, 1) := by decide +kernel
theorem dX0_kernelAt_8 : decode cX0_kernelAt 8 = .ok (.iload_n 2, 1) := by decide +kernel
theorem dX0_kernelAt_9 : decode cX0_kernelAt 9 = .ok (.invokevirtual 56, 3) := by decide +kernel
theorem dX0_kernelAt_12 : decode cX0_kernelAt 12 = .ok (.ifCond .ne 5, 3) := by decide +kernel
theorem dX0_kernelAt_15 : decode cX0_kernelAt 15 = .ok (.iconst (-1), 1) := by decide +kernel
theorem dX0_kernelAt_16 : decode cX0_kernelAt 16 = .ok (.ireturn, 1) := by decide +kernel
theorem dX0_kernelAt_17 : decode cX0_kernelAt 17 = .ok (.aload_n 0, 1) := by decide +kernel
theorem dX0_kernelAt_18 : decode cX0_kernelAt 18 = .ok (.iload_n 1, 1) := by decide +kernel
theorem dX0_kernelAt_19 : decode cX0_kernelAt 19 = .ok (.invokevirtual 81, 3) := by decide +kernel
theorem dX0_kernelAt_22 : decode cX0_kernelAt 22 = .ok (.istore_n 3, 1) := by decide +kernel
theorem dX0_kernelAt_23 : decode cX0_kernelAt 23 = .ok (.iload_n 3, 1) := by decide +kernel
theorem dX0_kernelAt_24 : decode cX0_kernelAt 24 = .ok (.iconst (-1), 1) := by decide +kernel
theorem dX0_kernelAt_25 : decode cX0_kernelAt 25 = .ok (.if_icmp .ne 5, 3) := by decide +kernel
theorem dX0_kernelAt_28 : decode cX0_kernelAt 28 = .ok (.iconst (-1), 1) := by decide +kernel
theorem dX0_kernelAt_29 : decode cX0_kernelAt 29 = .ok (.ireturn, 1) := by decide +kernel
theorem dX0_kernelAt_30 : decode cX0_kernelAt 30 = .ok (.aload_n 0, 1) := by decide +kernel
theorem dX0_kernelAt_31 : decode cX0_kernelAt 31 = .ok (.getfield 39, 3) := by decide +kernel
theorem dX0_kernelAt_34 : decode cX0_kernelAt 34 = .ok (.iload_n 2, 1) := by decide +kernel
theorem dX0_kernelAt_35 : decode cX0_kernelAt 35 = .ok (.iaload, 1) := by decide +kernel
theorem dX0_kernelAt_36 : decode cX0_kernelAt 36 = .ok (.istore 4, 2) := by decide +kernel
theorem dX0_kernelAt_38 : decode cX0_kernelAt 38 = .ok (.iload 4, 2) := by decide +kernel
theorem dX0_kernelAt_40 : decode cX0_kernelAt 40 = .ok (.iconst (-1), 1) := by decide +kernel
theorem dX0_kernelAt_41 : decode cX0_kernelAt 41 = .ok (.if_icmp .ne 14, 3) := by decide +kernel
theorem dX0_kernelAt_44 : decode cX0_kernelAt 44 = .ok (.iload_n 2, 1) := by decide +kernel
theorem dX0_kernelAt_45 : decode cX0_kernelAt 45 = .ok (.iload_n 3, 1) := by decide +kernel
theorem dX0_kernelAt_46 : decode cX0_kernelAt 46 = .ok (.if_icmp .ne 7, 3) := by decide +kernel
theorem dX0_kernelAt_49 : decode cX0_kernelAt 49 = .ok (.iconst 1, 1) := by decide +kernel
theorem dX0_kernelAt_50 : decode cX0_kernelAt 50 = .ok (.goto 4, 3) := by decide +kernel
theorem dX0_kernelAt_53 : decode cX0_kernelAt 53 = .ok (.iconst 0, 1) := by decide +kernel
theorem dX0_kernelAt_54 : decode cX0_kernelAt 54 = .ok (.ireturn, 1) := by decide +kernel
theorem dX0_kernelAt_55 : decode cX0_kernelAt 55 = .ok (.aload_n 0, 1) := by decide +kernel
theorem dX0_kernelAt_56 : decode cX0_kernelAt 56 = .ok (.aload_n 0, 1) := by decide +kernel
theorem dX0_kernelAt_57 : decode cX0_kernelAt 57 = .ok (.getfield 36, 3) := by decide +kernel
theorem dX0_kernelAt_60 : decode cX0_kernelAt 60 = .ok (.iload 4, 2) := by decide +kernel
theorem dX0_kernelAt_62 : decode cX0_kernelAt 62 = .ok (.aload_n 0, 1) := by decide +kernel
theorem dX0_kernelAt_63 : decode cX0_kernelAt 63 = .ok (.getfield 26, 3) := by decide +kernel
theorem dX0_kernelAt_66 : decode cX0_kernelAt 66 = .ok (.imul, 1) := by decide +kernel
theorem dX0_kernelAt_67 : decode cX0_kernelAt 67 = .ok (.iload_n 3, 1) := by decide +kernel
theorem dX0_kernelAt_68 : decode cX0_kernelAt 68 = .ok (.iadd, 1) := by decide +kernel
theorem dX0_kernelAt_69 : decode cX0_kernelAt 69 = .ok (.iaload, 1) := by decide +kernel
theorem dX0_kernelAt_70 : decode cX0_kernelAt 70 = .ok (.i2l, 1) := by decide +kernel
theorem dX0_kernelAt_71 : decode cX0_kernelAt 71 = .ok (.invokevirtual 84, 3) := by decide +kernel
theorem dX0_kernelAt_74 : decode cX0_kernelAt 74 = .ok (.l2i, 1) := by decide +kernel
theorem dX0_kernelAt_75 : decode cX0_kernelAt 75 = .ok (.ireturn, 1) := by decide +kernel
theorem dX0_isSide_0 : decode cX0_isSide 0 = .ok (.iload_n 0, 1) := by decide +kernel
theorem dX0_isSide_1 : decode cX0_isSide 1 = .ok (.iconst 1, 1) := by decide +kernel
theorem dX0_isSide_2 : decode cX0_isSide 2 = .ok (.if_icmp .lt 13, 3) := by decide +kernel
theorem dX0_isSide_5 : decode cX0_isSide 5 = .ok (.iload_n 0, 1) := by decide +kernel
theorem dX0_isSide_6 : decode cX0_isSide 6 = .ok (.bipush 10, 2) := by decide +kernel
theorem dX0_isSide_8 : decode cX0_isSide 8 = .ok (.if_icmp .gt 7, 3) := by decide +kernel
theorem dX0_isSide_11 : decode cX0_isSide 11 = .ok (.iconst 1, 1) := by decide +kernel
theorem dX0_isSide_12 : decode cX0_isSide 12 = .ok (.goto 4, 3) := by decide +kernel
theorem dX0_isSide_15 : decode cX0_isSide 15 = .ok (.iconst 0, 1) := by decide +kernel
theorem dX0_isSide_16 : decode cX0_isSide 16 = .ok (.ireturn, 1) := by decide +kernel
theorem dX0_isPrime_0 : decode cX0_isPrime 0 = .ok (.iload_n 0, 1) := by decide +kernel
theorem dX0_isPrime_1 : decode cX0_isPrime 1 = .ok (.iconst 2, 1) := by decide +kernel
theorem dX0_isPrime_2 : decode cX0_isPrime 2 = .ok (.if_icmp .lt 9, 3) := by decide +kernel
theorem dX0_isPrime_5 : decode cX0_isPrime 5 = .ok (.iload_n 0, 1) := by decide +kernel
theorem dX0_isPrime_6 : decode cX0_isPrime 6 = .ok (.iconst 2, 1) := by decide +kernel
theorem dX0_isPrime_7 : decode cX0_isPrime 7 = .ok (.irem, 1) := by decide +kernel
theorem dX0_isPrime_8 : decode cX0_isPrime 8 = .ok (.ifCond .ne 14, 3) := by decide +kernel
theorem dX0_isPrime_11 : decode cX0_isPrime 11 = .ok (.iload_n 0, 1) := by decide +kernel
theorem dX0_isPrime_12 : decode cX0_isPrime 12 = .ok (.iconst 2, 1) := by decide +kernel
theorem dX0_isPrime_13 : decode cX0_isPrime 13 = .ok (.if_icmp .ne 7, 3) := by decide +kernel
theorem dX0_isPrime_16 : decode cX0_isPrime 16 = .ok (.iconst 1, 1) := by decide +kernel
theorem dX0_isPrime_17 : decode cX0_isPrime 17 = .ok (.goto 4, 3) := by decide +kernel
theorem dX0_isPrime_20 : decode cX0_isPrime 20 = .ok (.iconst 0, 1) := by decide +kernel
theorem dX0_isPrime_21 : decode cX0_isPrime 21 = .ok (.ireturn, 1) := by decide +kernel
theorem dX0_isPrime_22 : decode cX0_isPrime 22 = .ok (.iconst 3, 1) := by decide +kernel
theorem dX0_isPrime_23 : decode cX0_isPrime 23 = .ok (.istore_n 1, 1) := by decide +kernel
theorem dX0_isPrime_24 : decode cX0_isPrime 24 = .ok (.iload_n 1, 1) := by decide +kernel
theorem dX0_isPrime_25 : decode cX0_isPrime 25 = .ok (.i2l, 1) := by decide +kernel
theorem dX0_isPrime_26 : decode cX0_isPrime 26 = .ok (.iload_n 1, 1) := by decide +kernel
theorem dX0_isPrime_27 : decode cX0_isPrime 27 = .ok (.i2l, 1) := by decide +kernel
theorem dX0_isPrime_28 : decode cX0_isPrime 28 = .ok (.lmul, 1) := by decide +kernel
theorem dX0_isPrime_29 : decode cX0_isPrime 29 = .ok (.iload_n 0, 1) := by decide +kernel
theorem dX0_isPrime_30 : decode cX0_isPrime 30 = .ok (.i2l, 1) := by decide +kernel
theorem dX0_isPrime_31 : decode cX0_isPrime 31 = .ok (.lcmp, 1) := by decide +kernel
theorem dX0_isPrime_32 : decode cX0_isPrime 32 = .ok (.ifCond .gt 17, 3) := by decide +kernel
theorem dX0_isPrime_35 : decode cX0_isPrime 35 = .ok (.iload_n 0, 1) := by decide +kernel
theorem dX0_isPrime_36 : decode cX0_isPrime 36 = .ok (.iload_n 1, 1) := by decide +kernel
theorem dX0_isPrime_37 : decode cX0_isPrime 37 = .ok (.irem, 1) := by decide +kernel
theorem dX0_isPrime_38 : decode cX0_isPrime 38 = .ok (.ifCond .ne 5, 3) := by decide +kernel
theorem dX0_isPrime_41 : decode cX0_isPrime 41 = .ok (.iconst 0, 1) := by decide +kernel
theorem dX0_isPrime_42 : decode cX0_isPrime 42 = .ok (.ireturn, 1) := by decide +kernel
theorem dX0_isPrime_43 : decode cX0_isPrime 43 = .ok (.iinc 1 2, 3) := by decide +kernel
theorem dX0_isPrime_46 : decode cX0_isPrime 46 = .ok (.goto (-22), 3) := by decide +kernel
theorem dX0_isPrime_49 : decode cX0_isPrime 49 = .ok (.iconst 1, 1) := by decide +kernel
theorem dX0_isPrime_50 : decode cX0_isPrime 50 = .ok (.ireturn, 1) := by decide +kernel
theorem dX0_isRow_0 : decode cX0_isRow 0 = .ok (.iload_n 1, 1) := by decide +kernel
theorem dX0_isRow_1 : decode cX0_isRow 1 = .ok (.ifCond .lt 15, 3) := by decide +kernel
theorem dX0_isRow_4 : decode cX0_isRow 4 = .ok (.iload_n 1, 1) := by decide +kernel
theorem dX0_isRow_5 : decode cX0_isRow 5 = .ok (.aload_n 0, 1) := by decide +kernel
theorem dX0_isRow_6 : decode cX0_isRow 6 = .ok (.getfield 20, 3) := by decide +kernel
theorem dX0_isRow_9 : decode cX0_isRow 9 = .ok (.if_icmp .ge 7, 3) := by decide +kernel
theorem dX0_isRow_12 : decode cX0_isRow 12 = .ok (.iconst 1, 1) := by decide +kernel
theorem dX0_isRow_13 : decode cX0_isRow 13 = .ok (.goto 4, 3) := by decide +kernel
theorem dX0_isRow_16 : decode cX0_isRow 16 = .ok (.iconst 0, 1) := by decide +kernel
theorem dX0_isRow_17 : decode cX0_isRow 17 = .ok (.ireturn, 1) := by decide +kernel
theorem dX0_isColumn_0 : decode cX0_isColumn 0 = .ok (.iload_n 1, 1) := by decide +kernel
theorem dX0_isColumn_1 : decode cX0_isColumn 1 = .ok (.ifCond .lt 15, 3) := by decide +kernel
theorem dX0_isColumn_4 : decode cX0_isColumn 4 = .ok (.iload_n 1, 1) := by decide +kernel
theorem dX0_isColumn_5 : decode cX0_isColumn 5 = .ok (.aload_n 0, 1) := by decide +kernel
theorem dX0_isColumn_6 : decode cX0_isColumn 6 = .ok (.getfield 23, 3) := by decide +kernel
theorem dX0_isColumn_9 : decode cX0_isColumn 9 = .ok (.if_icmp .ge 7, 3) := by decide +kernel
theorem dX0_isColumn_12 : decode cX0_isColumn 12 = .ok (.iconst 1, 1) := by decide +kernel
theorem dX0_isColumn_13 : decode cX0_isColumn 13 = .ok (.goto 4, 3) := by decide +kernel
theorem dX0_isColumn_16 : decode cX0_isColumn 16 = .ok (.iconst 0, 1) := by decide +kernel
theorem dX0_isColumn_17 : decode cX0_isColumn 17 = .ok (.ireturn, 1) := by decide +kernel
theorem dX0_hasInverse_0 : decode cX0_hasInverse 0 = .ok (.aload_n 0, 1) := by decide +kernel
theorem dX0_hasInverse_1 : decode cX0_hasInverse 1 = .ok (.getfield 42, 3) := by decide +kernel
theorem dX0_hasInverse_4 : decode cX0_hasInverse 4 = .ok (.ifCond .eq 29, 3) := by decide +kernel
theorem dX0_hasInverse_7 : decode cX0_hasInverse 7 = .ok (.aload_n 0, 1) := by decide +kernel
theorem dX0_hasInverse_8 : decode cX0_hasInverse 8 = .ok (.getfield 20, 3) := by decide +kernel
theorem dX0_hasInverse_11 : decode cX0_hasInverse 11 = .ok (.aload_n 0, 1) := by decide +kernel
theorem dX0_hasInverse_12 : decode cX0_hasInverse 12 = .ok (.getfield 23, 3) := by decide +kernel
theorem dX0_hasInverse_15 : decode cX0_hasInverse 15 = .ok (.if_icmp .ne 18, 3) := by decide +kernel
theorem dX0_hasInverse_18 : decode cX0_hasInverse 18 = .ok (.aload_n 0, 1) := by decide +kernel
theorem dX0_hasInverse_19 : decode cX0_hasInverse 19 = .ok (.getfield 46, 3) := by decide +kernel
theorem dX0_hasInverse_22 : decode cX0_hasInverse 22 = .ok (.aload_n 0, 1) := by decide +kernel
theorem dX0_hasInverse_23 : decode cX0_hasInverse 23 = .ok (.getfield 23, 3) := by decide +kernel
theorem dX0_hasInverse_26 : decode cX0_hasInverse 26 = .ok (.if_icmp .ne 7, 3) := by decide +kernel
theorem dX0_hasInverse_29 : decode cX0_hasInverse 29 = .ok (.iconst 1, 1) := by decide +kernel
theorem dX0_hasInverse_30 : decode cX0_hasInverse 30 = .ok (.goto 4, 3) := by decide +kernel
theorem dX0_hasInverse_33 : decode cX0_hasInverse 33 = .ok (.iconst 0, 1) := by decide +kernel
theorem dX0_hasInverse_34 : decode cX0_hasInverse 34 = .ok (.ireturn, 1) := by decide +kernel
theorem dX0_transformNumber_0 : decode cX0_transformNumber 0 = .ok (.aload_n 0, 1) := by decide +kernel
theorem dX0_transformNumber_1 : decode cX0_transformNumber 1 = .ok (.getfield 36, 3) := by decide +kernel
theorem dX0_transformNumber_4 : decode cX0_transformNumber 4 = .ok (.iload_n 1, 1) := by decide +kernel
theorem dX0_transformNumber_5 : decode cX0_transformNumber 5 = .ok (.aload_n 0, 1) := by decide +kernel
theorem dX0_transformNumber_6 : decode cX0_transformNumber 6 = .ok (.getfield 26, 3) := by decide +kernel
theorem dX0_transformNumber_9 : decode cX0_transformNumber 9 = .ok (.imul, 1) := by decide +kernel
theorem dX0_transformNumber_10 : decode cX0_transformNumber 10 = .ok (.aload_n 0, 1) := by decide +kernel
theorem dX0_transformNumber_11 : decode cX0_transformNumber 11 = .ok (.getfield 23, 3) := by decide +kernel
theorem dX0_transformNumber_14 : decode cX0_transformNumber 14 = .ok (.iadd, 1) := by decide +kernel
theorem dX0_transformNumber_15 : decode cX0_transformNumber 15 = .ok (.iload_n 2, 1) := by decide +kernel
theorem dX0_transformNumber_16 : decode cX0_transformNumber 16 = .ok (.iadd, 1) := by decide +kernel
theorem dX0_transformNumber_17 : decode cX0_transformNumber 17 = .ok (.iaload, 1) := by decide +kernel
theorem dX0_transformNumber_18 : decode cX0_transformNumber 18 = .ok (.ireturn, 1) := by decide +kernel
theorem dX0_startWork_0 : decode cX0_startWork 0 = .ok (.iconst 0, 1) := by decide +kernel
theorem dX0_startWork_1 : decode cX0_startWork 1 = .ok (.istore_n 1, 1) := by decide +kernel
theorem dX0_startWork_2 : decode cX0_startWork 2 = .ok (.iload_n 1, 1) := by decide +kernel
theorem dX0_startWork_3 : decode cX0_startWork 3 = .ok (.aload_n 0, 1) := by decide +kernel
theorem dX0_startWork_4 : decode cX0_startWork 4 = .ok (.getfield 20, 3) := by decide +kernel
theorem dX0_startWork_7 : decode cX0_startWork 7 = .ok (.if_icmp .ge 95, 3) := by decide +kernel
theorem dX0_startWork_10 : decode cX0_startWork 10 = .ok (.iconst 0, 1) := by decide +kernel
theorem dX0_startWork_11 : decode cX0_startWork 11 = .ok (.istore_n 2, 1) := by decide +kernel
theorem dX0_startWork_12 : decode cX0_startWork 12 = .ok (.iload_n 2, 1) := by decide +kernel
theorem dX0_startWork_13 : decode cX0_startWork 13 = .ok (.aload_n 0, 1) := by decide +kernel
theorem dX0_startWork_14 : decode cX0_startWork 14 = .ok (.getfield 23, 3) := by decide +kernel
theorem dX0_startWork_17 : decode cX0_startWork 17 = .ok (.if_icmp .ge 35, 3) := by decide +kernel
theorem dX0_startWork_20 : decode cX0_startWork 20 = .ok (.aload_n 0, 1) := by decide +kernel
theorem dX0_startWork_21 : decode cX0_startWork 21 = .ok (.getfield 36, 3) := by decide +kernel
theorem dX0_startWork_24 : decode cX0_startWork 24 = .ok (.iload_n 1, 1) := by decide +kernel
theorem dX0_startWork_25 : decode cX0_startWork 25 = .ok (.aload_n 0, 1) := by decide +kernel
theorem dX0_startWork_26 : decode cX0_startWork 26 = .ok (.getfield 26, 3) := by decide +kernel
theorem dX0_startWork_29 : decode cX0_startWork 29 = .ok (.imul, 1) := by decide +kernel
theorem dX0_startWork_30 : decode cX0_startWork 30 = .ok (.iload_n 2, 1) := by decide +kernel
theorem dX0_startWork_31 : decode cX0_startWork 31 = .ok (.iadd, 1) := by decide +kernel
theorem dX0_startWork_32 : decode cX0_startWork 32 = .ok (.aload_n 0, 1) := by decide +kernel
theorem dX0_startWork_33 : decode cX0_startWork 33 = .ok (.getfield 29, 3) := by decide +kernel
theorem dX0_startWork_36 : decode cX0_startWork 36 = .ok (.iload_n 1, 1) := by decide +kernel
theorem dX0_startWork_37 : decode cX0_startWork 37 = .ok (.aload_n 0, 1) := by decide +kernel
theorem dX0_startWork_38 : decode cX0_startWork 38 = .ok (.getfield 23, 3) := by decide +kernel
theorem dX0_startWork_41 : decode cX0_startWork 41 = .ok (.imul, 1) := by decide +kernel
theorem dX0_startWork_42 : decode cX0_startWork 42 = .ok (.iload_n 2, 1) := by decide +kernel
theorem dX0_startWork_43 : decode cX0_startWork 43 = .ok (.iadd, 1) := by decide +kernel
theorem dX0_startWork_44 : decode cX0_startWork 44 = .ok (.iaload, 1) := by decide +kernel
theorem dX0_startWork_45 : decode cX0_startWork 45 = .ok (.iastore, 1) := by decide +kernel
theorem dX0_startWork_46 : decode cX0_startWork 46 = .ok (.iinc 2 1, 3) := by decide +kernel
theorem dX0_startWork_49 : decode cX0_startWork 49 = .ok (.goto (-37), 3) := by decide +kernel
theorem dX0_startWork_52 : decode cX0_startWork 52 = .ok (.iconst 0, 1) := by decide +kernel
theorem dX0_startWork_53 : decode cX0_startWork 53 = .ok (.istore_n 2, 1) := by decide +kernel
theorem dX0_startWork_54 : decode cX0_startWork 54 = .ok (.iload_n 2, 1) := by decide +kernel
theorem dX0_startWork_55 : decode cX0_startWork 55 = .ok (.aload_n 0, 1) := by decide +kernel
theorem dX0_startWork_56 : decode cX0_startWork 56 = .ok (.getfield 20, 3) := by decide +kernel
theorem dX0_startWork_59 : decode cX0_startWork 59 = .ok (.if_icmp .ge 37, 3) := by decide +kernel
theorem dX0_startWork_62 : decode cX0_startWork 62 = .ok (.aload_n 0, 1) := by decide +kernel
theorem dX0_startWork_63 : decode cX0_startWork 63 = .ok (.getfield 36, 3) := by decide +kernel
theorem dX0_startWork_66 : decode cX0_startWork 66 = .ok (.iload_n 1, 1) := by decide +kernel
theorem dX0_startWork_67 : decode cX0_startWork 67 = .ok (.aload_n 0, 1) := by decide +kernel
theorem dX0_startWork_68 : decode cX0_startWork 68 = .ok (.getfield 26, 3) := by decide +kernel
theorem dX0_startWork_71 : decode cX0_startWork 71 = .ok (.imul, 1) := by decide +kernel
theorem dX0_startWork_72 : decode cX0_startWork 72 = .ok (.aload_n 0, 1) := by decide +kernel
theorem dX0_startWork_73 : decode cX0_startWork 73 = .ok (.getfield 23, 3) := by decide +kernel
theorem dX0_startWork_76 : decode cX0_startWork 76 = .ok (.iadd, 1) := by decide +kernel
theorem dX0_startWork_77 : decode cX0_startWork 77 = .ok (.iload_n 2, 1) := by decide +kernel
theorem dX0_startWork_78 : decode cX0_startWork 78 = .ok (.iadd, 1) := by decide +kernel
theorem dX0_startWork_79 : decode cX0_startWork 79 = .ok (.iload_n 1, 1) := by decide +kernel
theorem dX0_startWork_80 : decode cX0_startWork 80 = .ok (.iload_n 2, 1) := by decide +kernel
theorem dX0_startWork_81 : decode cX0_startWork 81 = .ok (.if_icmp .ne 7, 3) := by decide +kernel
theorem dX0_startWork_84 : decode cX0_startWork 84 = .ok (.iconst 1, 1) := by decide +kernel
theorem dX0_startWork_85 : decode cX0_startWork 85 = .ok (.goto 4, 3) := by decide +kernel
theorem dX0_startWork_88 : decode cX0_startWork 88 = .ok (.iconst 0, 1) := by decide +kernel
theorem dX0_startWork_89 : decode cX0_startWork 89 = .ok (.iastore, 1) := by decide +kernel
theorem dX0_startWork_90 : decode cX0_startWork 90 = .ok (.iinc 2 1, 3) := by decide +kernel
theorem dX0_startWork_93 : decode cX0_startWork 93 = .ok (.goto (-39), 3) := by decide +kernel
theorem dX0_startWork_96 : decode cX0_startWork 96 = .ok (.iinc 1 1, 3) := by decide +kernel
theorem dX0_startWork_99 : decode cX0_startWork 99 = .ok (.goto (-97), 3) := by decide +kernel
theorem dX0_startWork_102 : decode cX0_startWork 102 = .ok (.iconst 0, 1) := by decide +kernel
end
section
theorem dX0_startWork_103 : decode cX0_startWork 103 = .ok (.istore_n 1, 1) := by decide +kernel
theorem dX0_startWork_104 : decode cX0_startWork 104 = .ok (.iload_n 1, 1) := by decide +kernel
theorem dX0_startWork_105 : decode cX0_startWork 105 = .ok (.aload_n 0, 1) := by decide +kernel
theorem dX0_startWork_106 : decode cX0_startWork 106 = .ok (.getfield 23, 3) := by decide +kernel
theorem dX0_startWork_109 : decode cX0_startWork 109 = .ok (.if_icmp .ge 16, 3) := by decide +kernel
theorem dX0_startWork_112 : decode cX0_startWork 112 = .ok (.aload_n 0, 1) := by decide +kernel
theorem dX0_startWork_113 : decode cX0_startWork 113 = .ok (.getfield 39, 3) := by decide +kernel
theorem dX0_startWork_116 : decode cX0_startWork 116 = .ok (.iload_n 1, 1) := by decide +kernel
theorem dX0_startWork_117 : decode cX0_startWork 117 = .ok (.iconst (-1), 1) := by decide +kernel
theorem dX0_startWork_118 : decode cX0_startWork 118 = .ok (.iastore, 1) := by decide +kernel
theorem dX0_startWork_119 : decode cX0_startWork 119 = .ok (.iinc 1 1, 3) := by decide +kernel
theorem dX0_startWork_122 : decode cX0_startWork 122 = .ok (.goto (-18), 3) := by decide +kernel
theorem dX0_startWork_125 : decode cX0_startWork 125 = .ok (.aload_n 0, 1) := by decide +kernel
theorem dX0_startWork_126 : decode cX0_startWork 126 = .ok (.iconst 0, 1) := by decide +kernel
theorem dX0_startWork_127 : decode cX0_startWork 127 = .ok (.putfield 46, 3) := by decide +kernel
theorem dX0_startWork_130 : decode cX0_startWork 130 = .ok (.aload_n 0, 1) := by decide +kernel
theorem dX0_startWork_131 : decode cX0_startWork 131 = .ok (.lconst 1, 1) := by decide +kernel
theorem dX0_startWork_132 : decode cX0_startWork 132 = .ok (.putfield 49, 3) := by decide +kernel
theorem dX0_startWork_135 : decode cX0_startWork 135 = .ok (.return_, 1) := by decide +kernel
set_option maxRecDepth 20000 in
theorem ggX0_reduceColumn_X0_firstRowLeft : GoodIn wsX0_reduceColumn wsX0_firstRowLeft := goodIn_r _ [12, 1, 6, 3, 4, 33, 34, 35, 36, 37, 38, 39, 40, 41, 42, 43] (by decide +kernel) (by decide +kernel)
set_option maxRecDepth 20000 in
theorem gX0_reduceColumn_X0_firstRowLeft : GoodIn wsX0_reduceColumn (wsV RX0 88 RX0 yX0_firstRowLeft wsX0_firstRowLeft) := goodIn_app (goodIn_of _ (by decide +kernel)) ggX0_reduceColumn_X0_firstRowLeft
set_option maxRecDepth 20000 in
theorem ggX0_reduceColumn_X0_changePlaces : GoodIn wsX0_reduceColumn wsX0_changePlaces := goodIn_r _ [16, 4, 3, 33, 34, 35, 36, 37, 38, 39, 40, 41, 42, 43] (by decide +kernel) (by decide +kernel)
set_option maxRecDepth 20000 in
theorem gX0_reduceColumn_X0_changePlaces : GoodIn wsX0_reduceColumn (wsV RX0 91 RX0 yX0_changePlaces wsX0_changePlaces) := goodIn_app (goodIn_of _ (by decide +kernel)) ggX0_reduceColumn_X0_changePlaces
set_option maxRecDepth 20000 in
theorem ggX0_reduceColumn_X0_negative : GoodIn wsX0_reduceColumn wsX0_negative := goodIn_r _ [20, 5, 33, 34, 35, 36, 37, 38, 39, 40, 41, 42, 43] (by decide +kernel) (by decide +kernel)
set_option maxRecDepth 20000 in
theorem gX0_reduceColumn_X0_negative : GoodIn wsX0_reduceColumn (wsV RX0 84 RX0 yX0_negative wsX0_negative) := goodIn_app (goodIn_of _ (by decide +kernel)) ggX0_reduceColumn_X0_negative
set_option maxRecDepth 20000 in
theorem ggX0_reduceColumn_X0_inverseOf : GoodIn wsX0_reduceColumn wsX0_inverseOf := goodIn_r _ [24, 5, 33, 34, 35, 36, 37, 38, 39, 40, 41, 42, 43] (by decide +kernel) (by decide +kernel)
set_option maxRecDepth 20000 in
theorem gX0_reduceColumn_X0_inverseOf : GoodIn wsX0_reduceColumn (wsV RX0 95 RX0 yX0_inverseOf wsX0_inverseOf) := goodIn_app (goodIn_of _ (by decide +kernel)) ggX0_reduceColumn_X0_inverseOf
set_option maxRecDepth 20000 in
theorem ggX0_reduceColumn_X0_multiplyRow : GoodIn wsX0_reduceColumn wsX0_multiplyRow := goodIn_r _ [28, 4, 3, 5, 33, 34, 35, 36, 37, 38, 39, 40, 41, 42, 43] (by decide +kernel) (by decide +kernel)
set_option maxRecDepth 20000 in
theorem gX0_reduceColumn_X0_multiplyRow : GoodIn wsX0_reduceColumn (wsV RX0 99 RX0 yX0_multiplyRow wsX0_multiplyRow) := goodIn_app (goodIn_of _ (by decide +kernel)) ggX0_reduceColumn_X0_multiplyRow
set_option maxRecDepth 20000 in
theorem ggX0_reduceColumn_X0_takeRow : GoodIn wsX0_reduceColumn wsX0_takeRow := goodIn_r _ [32, 4, 3, 5, 17, 18, 19, 11, 20, 33, 34, 35, 36, 37, 38, 39, 40, 41, 42, 43] (by decide +kernel) (by decide +kernel)
set_option maxRecDepth 20000 in
theorem gX0_reduceColumn_X0_takeRow : GoodIn wsX0_reduceColumn (wsV RX0 103 RX0 yX0_takeRow wsX0_takeRow) := goodIn_app (goodIn_of _ (by decide +kernel)) ggX0_reduceColumn_X0_takeRow
theorem dX0_reduceColumn_0 : decode cX0_reduceColumn 0 = .ok (.aload_n 0, 1) := by decide +kernel
theorem dX0_reduceColumn_1 : decode cX0_reduceColumn 1 = .ok (.iload_n 1, 1) := by decide +kernel
theorem dX0_reduceColumn_2 : decode cX0_reduceColumn 2 = .ok (.invokevirtual 88, 3) := by decide +kernel
theorem dX0_reduceColumn_5 : decode cX0_reduceColumn 5 = .ok (.istore_n 2, 1) := by decide +kernel
theorem dX0_reduceColumn_6 : decode cX0_reduceColumn 6 = .ok (.iload_n 2, 1) := by decide +kernel
theorem dX0_reduceColumn_7 : decode cX0_reduceColumn 7 = .ok (.iconst (-1), 1) := by decide +kernel
theorem dX0_reduceColumn_8 : decode cX0_reduceColumn 8 = .ok (.if_icmp .ne 4, 3) := by decide +kernel
theorem dX0_reduceColumn_11 : decode cX0_reduceColumn 11 = .ok (.return_, 1) := by decide +kernel
theorem dX0_reduceColumn_12 : decode cX0_reduceColumn 12 = .ok (.aload_n 0, 1) := by decide +kernel
theorem dX0_reduceColumn_13 : decode cX0_reduceColumn 13 = .ok (.getfield 46, 3) := by decide +kernel
theorem dX0_reduceColumn_16 : decode cX0_reduceColumn 16 = .ok (.istore_n 3, 1) := by decide +kernel
theorem dX0_reduceColumn_17 : decode cX0_reduceColumn 17 = .ok (.iload_n 2, 1) := by decide +kernel
theorem dX0_reduceColumn_18 : decode cX0_reduceColumn 18 = .ok (.iload_n 3, 1) := by decide +kernel
theorem dX0_reduceColumn_19 : decode cX0_reduceColumn 19 = .ok (.if_icmp .eq 21, 3) := by decide +kernel
theorem dX0_reduceColumn_22 : decode cX0_reduceColumn 22 = .ok (.aload_n 0, 1) := by decide +kernel
theorem dX0_reduceColumn_23 : decode cX0_reduceColumn 23 = .ok (.iload_n 2, 1) := by decide +kernel
theorem dX0_reduceColumn_24 : decode cX0_reduceColumn 24 = .ok (.iload_n 3, 1) := by decide +kernel
theorem dX0_reduceColumn_25 : decode cX0_reduceColumn 25 = .ok (.invokevirtual 91, 3) := by decide +kernel
theorem dX0_reduceColumn_28 : decode cX0_reduceColumn 28 = .ok (.aload_n 0, 1) := by decide +kernel
theorem dX0_reduceColumn_29 : decode cX0_reduceColumn 29 = .ok (.aload_n 0, 1) := by decide +kernel
theorem dX0_reduceColumn_30 : decode cX0_reduceColumn 30 = .ok (.aload_n 0, 1) := by decide +kernel
theorem dX0_reduceColumn_31 : decode cX0_reduceColumn 31 = .ok (.getfield 49, 3) := by decide +kernel
theorem dX0_reduceColumn_34 : decode cX0_reduceColumn 34 = .ok (.invokevirtual 84, 3) := by decide +kernel
theorem dX0_reduceColumn_37 : decode cX0_reduceColumn 37 = .ok (.putfield 49, 3) := by decide +kernel
theorem dX0_reduceColumn_40 : decode cX0_reduceColumn 40 = .ok (.aload_n 0, 1) := by decide +kernel
theorem dX0_reduceColumn_41 : decode cX0_reduceColumn 41 = .ok (.getfield 36, 3) := by decide +kernel
theorem dX0_reduceColumn_44 : decode cX0_reduceColumn 44 = .ok (.iload_n 3, 1) := by decide +kernel
theorem dX0_reduceColumn_45 : decode cX0_reduceColumn 45 = .ok (.aload_n 0, 1) := by decide +kernel
theorem dX0_reduceColumn_46 : decode cX0_reduceColumn 46 = .ok (.getfield 26, 3) := by decide +kernel
theorem dX0_reduceColumn_49 : decode cX0_reduceColumn 49 = .ok (.imul, 1) := by decide +kernel
theorem dX0_reduceColumn_50 : decode cX0_reduceColumn 50 = .ok (.iload_n 1, 1) := by decide +kernel
theorem dX0_reduceColumn_51 : decode cX0_reduceColumn 51 = .ok (.iadd, 1) := by decide +kernel
theorem dX0_reduceColumn_52 : decode cX0_reduceColumn 52 = .ok (.iaload, 1) := by decide +kernel
theorem dX0_reduceColumn_53 : decode cX0_reduceColumn 53 = .ok (.istore 4, 2) := by decide +kernel
theorem dX0_reduceColumn_55 : decode cX0_reduceColumn 55 = .ok (.aload_n 0, 1) := by decide +kernel
theorem dX0_reduceColumn_56 : decode cX0_reduceColumn 56 = .ok (.aload_n 0, 1) := by decide +kernel
theorem dX0_reduceColumn_57 : decode cX0_reduceColumn 57 = .ok (.getfield 49, 3) := by decide +kernel
theorem dX0_reduceColumn_60 : decode cX0_reduceColumn 60 = .ok (.iload 4, 2) := by decide +kernel
theorem dX0_reduceColumn_62 : decode cX0_reduceColumn 62 = .ok (.i2l, 1) := by decide +kernel
theorem dX0_reduceColumn_63 : decode cX0_reduceColumn 63 = .ok (.lmul, 1) := by decide +kernel
theorem dX0_reduceColumn_64 : decode cX0_reduceColumn 64 = .ok (.aload_n 0, 1) := by decide +kernel
theorem dX0_reduceColumn_65 : decode cX0_reduceColumn 65 = .ok (.getfield 16, 3) := by decide +kernel
theorem dX0_reduceColumn_68 : decode cX0_reduceColumn 68 = .ok (.i2l, 1) := by decide +kernel
theorem dX0_reduceColumn_69 : decode cX0_reduceColumn 69 = .ok (.lrem, 1) := by decide +kernel
theorem dX0_reduceColumn_70 : decode cX0_reduceColumn 70 = .ok (.putfield 49, 3) := by decide +kernel
theorem dX0_reduceColumn_73 : decode cX0_reduceColumn 73 = .ok (.aload_n 0, 1) := by decide +kernel
theorem dX0_reduceColumn_74 : decode cX0_reduceColumn 74 = .ok (.iload_n 3, 1) := by decide +kernel
theorem dX0_reduceColumn_75 : decode cX0_reduceColumn 75 = .ok (.aload_n 0, 1) := by decide +kernel
theorem dX0_reduceColumn_76 : decode cX0_reduceColumn 76 = .ok (.iload 4, 2) := by decide +kernel
theorem dX0_reduceColumn_78 : decode cX0_reduceColumn 78 = .ok (.invokevirtual 95, 3) := by decide +kernel
theorem dX0_reduceColumn_81 : decode cX0_reduceColumn 81 = .ok (.invokevirtual 99, 3) := by decide +kernel
theorem dX0_reduceColumn_84 : decode cX0_reduceColumn 84 = .ok (.iconst 0, 1) := by decide +kernel
theorem dX0_reduceColumn_85 : decode cX0_reduceColumn 85 = .ok (.istore 5, 2) := by decide +kernel
theorem dX0_reduceColumn_87 : decode cX0_reduceColumn 87 = .ok (.iload 5, 2) := by decide +kernel
theorem dX0_reduceColumn_89 : decode cX0_reduceColumn 89 = .ok (.aload_n 0, 1) := by decide +kernel
theorem dX0_reduceColumn_90 : decode cX0_reduceColumn 90 = .ok (.getfield 20, 3) := by decide +kernel
theorem dX0_reduceColumn_93 : decode cX0_reduceColumn 93 = .ok (.if_icmp .ge 36, 3) := by decide +kernel
theorem dX0_reduceColumn_96 : decode cX0_reduceColumn 96 = .ok (.iload 5, 2) := by decide +kernel
theorem dX0_reduceColumn_98 : decode cX0_reduceColumn 98 = .ok (.iload_n 3, 1) := by decide +kernel
theorem dX0_reduceColumn_99 : decode cX0_reduceColumn 99 = .ok (.if_icmp .eq 24, 3) := by decide +kernel
theorem dX0_reduceColumn_102 : decode cX0_reduceColumn 102 = .ok (.aload_n 0, 1) := by decide +kernel
theorem dX0_reduceColumn_103 : decode cX0_reduceColumn 103 = .ok (.iload_n 3, 1) := by decide +kernel
theorem dX0_reduceColumn_104 : decode cX0_reduceColumn 104 = .ok (.aload_n 0, 1) := by decide +kernel
theorem dX0_reduceColumn_105 : decode cX0_reduceColumn 105 = .ok (.getfield 36, 3) := by decide +kernel
theorem dX0_reduceColumn_108 : decode cX0_reduceColumn 108 = .ok (.iload 5, 2) := by decide +kernel
theorem dX0_reduceColumn_110 : decode cX0_reduceColumn 110 = .ok (.aload_n 0, 1) := by decide +kernel
theorem dX0_reduceColumn_111 : decode cX0_reduceColumn 111 = .ok (.getfield 26, 3) := by decide +kernel
theorem dX0_reduceColumn_114 : decode cX0_reduceColumn 114 = .ok (.imul, 1) := by decide +kernel
theorem dX0_reduceColumn_115 : decode cX0_reduceColumn 115 = .ok (.iload_n 1, 1) := by decide +kernel
theorem dX0_reduceColumn_116 : decode cX0_reduceColumn 116 = .ok (.iadd, 1) := by decide +kernel
theorem dX0_reduceColumn_117 : decode cX0_reduceColumn 117 = .ok (.iaload, 1) := by decide +kernel
theorem dX0_reduceColumn_118 : decode cX0_reduceColumn 118 = .ok (.iload 5, 2) := by decide +kernel
theorem dX0_reduceColumn_120 : decode cX0_reduceColumn 120 = .ok (.invokevirtual 103, 3) := by decide +kernel
theorem dX0_reduceColumn_123 : decode cX0_reduceColumn 123 = .ok (.iinc 5 1, 3) := by decide +kernel
theorem dX0_reduceColumn_126 : decode cX0_reduceColumn 126 = .ok (.goto (-39), 3) := by decide +kernel
theorem dX0_reduceColumn_129 : decode cX0_reduceColumn 129 = .ok (.aload_n 0, 1) := by decide +kernel
theorem dX0_reduceColumn_130 : decode cX0_reduceColumn 130 = .ok (.getfield 39, 3) := by decide +kernel
theorem dX0_reduceColumn_133 : decode cX0_reduceColumn 133 = .ok (.iload_n 1, 1) := by decide +kernel
theorem dX0_reduceColumn_134 : decode cX0_reduceColumn 134 = .ok (.iload_n 3, 1) := by decide +kernel
theorem dX0_reduceColumn_135 : decode cX0_reduceColumn 135 = .ok (.iastore, 1) := by decide +kernel
theorem dX0_reduceColumn_136 : decode cX0_reduceColumn 136 = .ok (.aload_n 0, 1) := by decide +kernel
theorem dX0_reduceColumn_137 : decode cX0_reduceColumn 137 = .ok (.dup, 1) := by decide +kernel
theorem dX0_reduceColumn_138 : decode cX0_reduceColumn 138 = .ok (.getfield 46, 3) := by decide +kernel
theorem dX0_reduceColumn_141 : decode cX0_reduceColumn 141 = .ok (.iconst 1, 1) := by decide +kernel
theorem dX0_reduceColumn_142 : decode cX0_reduceColumn 142 = .ok (.iadd, 1) := by decide +kernel
theorem dX0_reduceColumn_143 : decode cX0_reduceColumn 143 = .ok (.putfield 46, 3) := by decide +kernel
theorem dX0_reduceColumn_146 : decode cX0_reduceColumn 146 = .ok (.return_, 1) := by decide +kernel
theorem dX0_firstRowLeft_0 : decode cX0_firstRowLeft 0 = .ok (.aload_n 0, 1) := by decide +kernel
theorem dX0_firstRowLeft_1 : decode cX0_firstRowLeft 1 = .ok (.getfield 46, 3) := by decide +kernel
theorem dX0_firstRowLeft_4 : decode cX0_firstRowLeft 4 = .ok (.istore_n 2, 1) := by decide +kernel
theorem dX0_firstRowLeft_5 : decode cX0_firstRowLeft 5 = .ok (.iload_n 2, 1) := by decide +kernel
theorem dX0_firstRowLeft_6 : decode cX0_firstRowLeft 6 = .ok (.aload_n 0, 1) := by decide +kernel
theorem dX0_firstRowLeft_7 : decode cX0_firstRowLeft 7 = .ok (.getfield 20, 3) := by decide +kernel
theorem dX0_firstRowLeft_10 : decode cX0_firstRowLeft 10 = .ok (.if_icmp .ge 27, 3) := by decide +kernel
theorem dX0_firstRowLeft_13 : decode cX0_firstRowLeft 13 = .ok (.aload_n 0, 1) := by decide +kernel
theorem dX0_firstRowLeft_14 : decode cX0_firstRowLeft 14 = .ok (.getfield 36, 3) := by decide +kernel
theorem dX0_firstRowLeft_17 : decode cX0_firstRowLeft 17 = .ok (.iload_n 2, 1) := by decide +kernel
theorem dX0_firstRowLeft_18 : decode cX0_firstRowLeft 18 = .ok (.aload_n 0, 1) := by decide +kernel
theorem dX0_firstRowLeft_19 : decode cX0_firstRowLeft 19 = .ok (.getfield 26, 3) := by decide +kernel
theorem dX0_firstRowLeft_22 : decode cX0_firstRowLeft 22 = .ok (.imul, 1) := by decide +kernel
theorem dX0_firstRowLeft_23 : decode cX0_firstRowLeft 23 = .ok (.iload_n 1, 1) := by decide +kernel
theorem dX0_firstRowLeft_24 : decode cX0_firstRowLeft 24 = .ok (.iadd, 1) := by decide +kernel
theorem dX0_firstRowLeft_25 : decode cX0_firstRowLeft 25 = .ok (.iaload, 1) := by decide +kernel
theorem dX0_firstRowLeft_26 : decode cX0_firstRowLeft 26 = .ok (.ifCond .eq 5, 3) := by decide +kernel
theorem dX0_firstRowLeft_29 : decode cX0_firstRowLeft 29 = .ok (.iload_n 2, 1) := by decide +kernel
theorem dX0_firstRowLeft_30 : decode cX0_firstRowLeft 30 = .ok (.ireturn, 1) := by decide +kernel
theorem dX0_firstRowLeft_31 : decode cX0_firstRowLeft 31 = .ok (.iinc 2 1, 3) := by decide +kernel
theorem dX0_firstRowLeft_34 : decode cX0_firstRowLeft 34 = .ok (.goto (-29), 3) := by decide +kernel
theorem dX0_firstRowLeft_37 : decode cX0_firstRowLeft 37 = .ok (.iconst (-1), 1) := by decide +kernel
theorem dX0_firstRowLeft_38 : decode cX0_firstRowLeft 38 = .ok (.ireturn, 1) := by decide +kernel
theorem dX0_changePlaces_0 : decode cX0_changePlaces 0 = .ok (.iconst 0, 1) := by decide +kernel
theorem dX0_changePlaces_1 : decode cX0_changePlaces 1 = .ok (.istore_n 3, 1) := by decide +kernel
theorem dX0_changePlaces_2 : decode cX0_changePlaces 2 = .ok (.iload_n 3, 1) := by decide +kernel
theorem dX0_changePlaces_3 : decode cX0_changePlaces 3 = .ok (.aload_n 0, 1) := by decide +kernel
theorem dX0_changePlaces_4 : decode cX0_changePlaces 4 = .ok (.getfield 26, 3) := by decide +kernel
theorem dX0_changePlaces_7 : decode cX0_changePlaces 7 = .ok (.if_icmp .ge 65, 3) := by decide +kernel
theorem dX0_changePlaces_10 : decode cX0_changePlaces 10 = .ok (.aload_n 0, 1) := by decide +kernel
theorem dX0_changePlaces_11 : decode cX0_changePlaces 11 = .ok (.getfield 36, 3) := by decide +kernel
theorem dX0_changePlaces_14 : decode cX0_changePlaces 14 = .ok (.iload_n 1, 1) := by decide +kernel
theorem dX0_changePlaces_15 : decode cX0_changePlaces 15 = .ok (.aload_n 0, 1) := by decide +kernel
theorem dX0_changePlaces_16 : decode cX0_changePlaces 16 = .ok (.getfield 26, 3) := by decide +kernel
theorem dX0_changePlaces_19 : decode cX0_changePlaces 19 = .ok (.imul, 1) := by decide +kernel
theorem dX0_changePlaces_20 : decode cX0_changePlaces 20 = .ok (.iload_n 3, 1) := by decide +kernel
theorem dX0_changePlaces_21 : decode cX0_changePlaces 21 = .ok (.iadd, 1) := by decide +kernel
theorem dX0_changePlaces_22 : decode cX0_changePlaces 22 = .ok (.iaload, 1) := by decide +kernel
theorem dX0_changePlaces_23 : decode cX0_changePlaces 23 = .ok (.istore 4, 2) := by decide +kernel
theorem dX0_changePlaces_25 : decode cX0_changePlaces 25 = .ok (.aload_n 0, 1) := by decide +kernel
theorem dX0_changePlaces_26 : decode cX0_changePlaces 26 = .ok (.getfield 36, 3) := by decide +kernel
theorem dX0_changePlaces_29 : decode cX0_changePlaces 29 = .ok (.iload_n 1, 1) := by decide +kernel
theorem dX0_changePlaces_30 : decode cX0_changePlaces 30 = .ok (.aload_n 0, 1) := by decide +kernel
theorem dX0_changePlaces_31 : decode cX0_changePlaces 31 = .ok (.getfield 26, 3) := by decide +kernel
theorem dX0_changePlaces_34 : decode cX0_changePlaces 34 = .ok (.imul, 1) := by decide +kernel
theorem dX0_changePlaces_35 : decode cX0_changePlaces 35 = .ok (.iload_n 3, 1) := by decide +kernel
theorem dX0_changePlaces_36 : decode cX0_changePlaces 36 = .ok (.iadd, 1) := by decide +kernel
theorem dX0_changePlaces_37 : decode cX0_changePlaces 37 = .ok (.aload_n 0, 1) := by decide +kernel
theorem dX0_changePlaces_38 : decode cX0_changePlaces 38 = .ok (.getfield 36, 3) := by decide +kernel
theorem dX0_changePlaces_41 : decode cX0_changePlaces 41 = .ok (.iload_n 2, 1) := by decide +kernel
theorem dX0_changePlaces_42 : decode cX0_changePlaces 42 = .ok (.aload_n 0, 1) := by decide +kernel
theorem dX0_changePlaces_43 : decode cX0_changePlaces 43 = .ok (.getfield 26, 3) := by decide +kernel
theorem dX0_changePlaces_46 : decode cX0_changePlaces 46 = .ok (.imul, 1) := by decide +kernel
theorem dX0_changePlaces_47 : decode cX0_changePlaces 47 = .ok (.iload_n 3, 1) := by decide +kernel
theorem dX0_changePlaces_48 : decode cX0_changePlaces 48 = .ok (.iadd, 1) := by decide +kernel
theorem dX0_changePlaces_49 : decode cX0_changePlaces 49 = .ok (.iaload, 1) := by decide +kernel
theorem dX0_changePlaces_50 : decode cX0_changePlaces 50 = .ok (.iastore, 1) := by decide +kernel
theorem dX0_changePlaces_51 : decode cX0_changePlaces 51 = .ok (.aload_n 0, 1) := by decide +kernel
theorem dX0_changePlaces_52 : decode cX0_changePlaces 52 = .ok (.getfield 36, 3) := by decide +kernel
theorem dX0_changePlaces_55 : decode cX0_changePlaces 55 = .ok (.iload_n 2, 1) := by decide +kernel
theorem dX0_changePlaces_56 : decode cX0_changePlaces 56 = .ok (.aload_n 0, 1) := by decide +kernel
theorem dX0_changePlaces_57 : decode cX0_changePlaces 57 = .ok (.getfield 26, 3) := by decide +kernel
theorem dX0_changePlaces_60 : decode cX0_changePlaces 60 = .ok (.imul, 1) := by decide +kernel
theorem dX0_changePlaces_61 : decode cX0_changePlaces 61 = .ok (.iload_n 3, 1) := by decide +kernel
theorem dX0_changePlaces_62 : decode cX0_changePlaces 62 = .ok (.iadd, 1) := by decide +kernel
theorem dX0_changePlaces_63 : decode cX0_changePlaces 63 = .ok (.iload 4, 2) := by decide +kernel
theorem dX0_changePlaces_65 : decode cX0_changePlaces 65 = .ok (.iastore, 1) := by decide +kernel
theorem dX0_changePlaces_66 : decode cX0_changePlaces 66 = .ok (.iinc 3 1, 3) := by decide +kernel
theorem dX0_changePlaces_69 : decode cX0_changePlaces 69 = .ok (.goto (-67), 3) := by decide +kernel
theorem dX0_changePlaces_72 : decode cX0_changePlaces 72 = .ok (.return_, 1) := by decide +kernel
theorem dX0_multiplyRow_0 : decode cX0_multiplyRow 0 = .ok (.iconst 0, 1) := by decide +kernel
theorem dX0_multiplyRow_1 : decode cX0_multiplyRow 1 = .ok (.istore 4, 2) := by decide +kernel
theorem dX0_multiplyRow_3 : decode cX0_multiplyRow 3 = .ok (.iload 4, 2) := by decide +kernel
theorem dX0_multiplyRow_5 : decode cX0_multiplyRow 5 = .ok (.aload_n 0, 1) := by decide +kernel
theorem dX0_multiplyRow_6 : decode cX0_multiplyRow 6 = .ok (.getfield 26, 3) := by decide +kernel
theorem dX0_multiplyRow_9 : decode cX0_multiplyRow 9 = .ok (.if_icmp .ge 44, 3) := by decide +kernel
theorem dX0_multiplyRow_12 : decode cX0_multiplyRow 12 = .ok (.iload_n 1, 1) := by decide +kernel
theorem dX0_multiplyRow_13 : decode cX0_multiplyRow 13 = .ok (.aload_n 0, 1) := by decide +kernel
theorem dX0_multiplyRow_14 : decode cX0_multiplyRow 14 = .ok (.getfield 26, 3) := by decide +kernel
theorem dX0_multiplyRow_17 : decode cX0_multiplyRow 17 = .ok (.imul, 1) := by decide +kernel
theorem dX0_multiplyRow_18 : decode cX0_multiplyRow 18 = .ok (.iload 4, 2) := by decide +kernel
theorem dX0_multiplyRow_20 : decode cX0_multiplyRow 20 = .ok (.iadd, 1) := by decide +kernel
theorem dX0_multiplyRow_21 : decode cX0_multiplyRow 21 = .ok (.istore 5, 2) := by decide +kernel
theorem dX0_multiplyRow_23 : decode cX0_multiplyRow 23 = .ok (.aload_n 0, 1) := by decide +kernel
theorem dX0_multiplyRow_24 : decode cX0_multiplyRow 24 = .ok (.getfield 36, 3) := by decide +kernel
theorem dX0_multiplyRow_27 : decode cX0_multiplyRow 27 = .ok (.iload 5, 2) := by decide +kernel
theorem dX0_multiplyRow_29 : decode cX0_multiplyRow 29 = .ok (.aload_n 0, 1) := by decide +kernel
theorem dX0_multiplyRow_30 : decode cX0_multiplyRow 30 = .ok (.getfield 36, 3) := by decide +kernel
theorem dX0_multiplyRow_33 : decode cX0_multiplyRow 33 = .ok (.iload 5, 2) := by decide +kernel
theorem dX0_multiplyRow_35 : decode cX0_multiplyRow 35 = .ok (.iaload, 1) := by decide +kernel
theorem dX0_multiplyRow_36 : decode cX0_multiplyRow 36 = .ok (.i2l, 1) := by decide +kernel
theorem dX0_multiplyRow_37 : decode cX0_multiplyRow 37 = .ok (.lload_n 2, 1) := by decide +kernel
theorem dX0_multiplyRow_38 : decode cX0_multiplyRow 38 = .ok (.lmul, 1) := by decide +kernel
theorem dX0_multiplyRow_39 : decode cX0_multiplyRow 39 = .ok (.aload_n 0, 1) := by decide +kernel
theorem dX0_multiplyRow_40 : decode cX0_multiplyRow 40 = .ok (.getfield 16, 3) := by decide +kernel
theorem dX0_multiplyRow_43 : decode cX0_multiplyRow 43 = .ok (.i2l, 1) := by decide +kernel
theorem dX0_multiplyRow_44 : decode cX0_multiplyRow 44 = .ok (.lrem, 1) := by decide +kernel
theorem dX0_multiplyRow_45 : decode cX0_multiplyRow 45 = .ok (.l2i, 1) := by decide +kernel
theorem dX0_multiplyRow_46 : decode cX0_multiplyRow 46 = .ok (.iastore, 1) := by decide +kernel
theorem dX0_multiplyRow_47 : decode cX0_multiplyRow 47 = .ok (.iinc 4 1, 3) := by decide +kernel
theorem dX0_multiplyRow_50 : decode cX0_multiplyRow 50 = .ok (.goto (-47), 3) := by decide +kernel
theorem dX0_multiplyRow_53 : decode cX0_multiplyRow 53 = .ok (.return_, 1) := by decide +kernel
set_option maxRecDepth 20000 in
theorem ggX0_takeRow_X0_negative : GoodIn wsX0_takeRow wsX0_negative := goodIn_r _ [8, 3, 9, 10, 11, 12, 13, 14, 15, 16, 17, 18, 19] (by decide +kernel) (by decide +kernel)
set_option maxRecDepth 20000 in
theorem gX0_takeRow_X0_negative : GoodIn wsX0_takeRow (wsV RX0 84 RX0 yX0_negative wsX0_negative) := goodIn_app (goodIn_of _ (by decide +kernel)) ggX0_takeRow_X0_negative
theorem dX0_takeRow_0 : decode cX0_takeRow 0 = .ok (.aload_n 0, 1) := by decide +kernel
theorem dX0_takeRow_1 : decode cX0_takeRow 1 = .ok (.iload_n 2, 1) := by decide +kernel
theorem dX0_takeRow_2 : decode cX0_takeRow 2 = .ok (.i2l, 1) := by decide +kernel
theorem dX0_takeRow_3 : decode cX0_takeRow 3 = .ok (.invokevirtual 84, 3) := by decide +kernel
theorem dX0_takeRow_6 : decode cX0_takeRow 6 = .ok (.lstore 4, 2) := by decide +kernel
theorem dX0_takeRow_8 : decode cX0_takeRow 8 = .ok (.iconst 0, 1) := by decide +kernel
theorem dX0_takeRow_9 : decode cX0_takeRow 9 = .ok (.istore 6, 2) := by decide +kernel
theorem dX0_takeRow_11 : decode cX0_takeRow 11 = .ok (.iload 6, 2) := by decide +kernel
theorem dX0_takeRow_13 : decode cX0_takeRow 13 = .ok (.aload_n 0, 1) := by decide +kernel
theorem dX0_takeRow_14 : decode cX0_takeRow 14 = .ok (.getfield 26, 3) := by decide +kernel
theorem dX0_takeRow_17 : decode cX0_takeRow 17 = .ok (.if_icmp .ge 61, 3) := by decide +kernel
theorem dX0_takeRow_20 : decode cX0_takeRow 20 = .ok (.iload_n 3, 1) := by decide +kernel
theorem dX0_takeRow_21 : decode cX0_takeRow 21 = .ok (.aload_n 0, 1) := by decide +kernel
theorem dX0_takeRow_22 : decode cX0_takeRow 22 = .ok (.getfield 26, 3) := by decide +kernel
theorem dX0_takeRow_25 : decode cX0_takeRow 25 = .ok (.imul, 1) := by decide +kernel
theorem dX0_takeRow_26 : decode cX0_takeRow 26 = .ok (.iload 6, 2) := by decide +kernel
theorem dX0_takeRow_28 : decode cX0_takeRow 28 = .ok (.iadd, 1) := by decide +kernel
theorem dX0_takeRow_29 : decode cX0_takeRow 29 = .ok (.istore 7, 2) := by decide +kernel
theorem dX0_takeRow_31 : decode cX0_takeRow 31 = .ok (.aload_n 0, 1) := by decide +kernel
theorem dX0_takeRow_32 : decode cX0_takeRow 32 = .ok (.getfield 36, 3) := by decide +kernel
theorem dX0_takeRow_35 : decode cX0_takeRow 35 = .ok (.iload 7, 2) := by decide +kernel
theorem dX0_takeRow_37 : decode cX0_takeRow 37 = .ok (.aload_n 0, 1) := by decide +kernel
theorem dX0_takeRow_38 : decode cX0_takeRow 38 = .ok (.getfield 36, 3) := by decide +kernel
theorem dX0_takeRow_41 : decode cX0_takeRow 41 = .ok (.iload 7, 2) := by decide +kernel
theorem dX0_takeRow_43 : decode cX0_takeRow 43 = .ok (.iaload, 1) := by decide +kernel
theorem dX0_takeRow_44 : decode cX0_takeRow 44 = .ok (.i2l, 1) := by decide +kernel
theorem dX0_takeRow_45 : decode cX0_takeRow 45 = .ok (.lload 4, 2) := by decide +kernel
theorem dX0_takeRow_47 : decode cX0_takeRow 47 = .ok (.aload_n 0, 1) := by decide +kernel
theorem dX0_takeRow_48 : decode cX0_takeRow 48 = .ok (.getfield 36, 3) := by decide +kernel
theorem dX0_takeRow_51 : decode cX0_takeRow 51 = .ok (.iload_n 1, 1) := by decide +kernel
theorem dX0_takeRow_52 : decode cX0_takeRow 52 = .ok (.aload_n 0, 1) := by decide +kernel
theorem dX0_takeRow_53 : decode cX0_takeRow 53 = .ok (.getfield 26, 3) := by decide +kernel
theorem dX0_takeRow_56 : decode cX0_takeRow 56 = .ok (.imul, 1) := by decide +kernel
theorem dX0_takeRow_57 : decode cX0_takeRow 57 = .ok (.iload 6, 2) := by decide +kernel
theorem dX0_takeRow_59 : decode cX0_takeRow 59 = .ok (.iadd, 1) := by decide +kernel
theorem dX0_takeRow_60 : decode cX0_takeRow 60 = .ok (.iaload, 1) := by decide +kernel
theorem dX0_takeRow_61 : decode cX0_takeRow 61 = .ok (.i2l, 1) := by decide +kernel
theorem dX0_takeRow_62 : decode cX0_takeRow 62 = .ok (.lmul, 1) := by decide +kernel
theorem dX0_takeRow_63 : decode cX0_takeRow 63 = .ok (.ladd, 1) := by decide +kernel
theorem dX0_takeRow_64 : decode cX0_takeRow 64 = .ok (.aload_n 0, 1) := by decide +kernel
theorem dX0_takeRow_65 : decode cX0_takeRow 65 = .ok (.getfield 16, 3) := by decide +kernel
theorem dX0_takeRow_68 : decode cX0_takeRow 68 = .ok (.i2l, 1) := by decide +kernel
theorem dX0_takeRow_69 : decode cX0_takeRow 69 = .ok (.lrem, 1) := by decide +kernel
theorem dX0_takeRow_70 : decode cX0_takeRow 70 = .ok (.l2i, 1) := by decide +kernel
theorem dX0_takeRow_71 : decode cX0_takeRow 71 = .ok (.iastore, 1) := by decide +kernel
theorem dX0_takeRow_72 : decode cX0_takeRow 72 = .ok (.iinc 6 1, 3) := by decide +kernel
theorem dX0_takeRow_75 : decode cX0_takeRow 75 = .ok (.goto (-64), 3) := by decide +kernel
theorem dX0_takeRow_78 : decode cX0_takeRow 78 = .ok (.return_, 1) := by decide +kernel
theorem dX0_negative_0 : decode cX0_negative 0 = .ok (.lload_n 1, 1) := by decide +kernel
theorem dX0_negative_1 : decode cX0_negative 1 = .ok (.lconst 0, 1) := by decide +kernel
theorem dX0_negative_2 : decode cX0_negative 2 = .ok (.lcmp, 1) := by decide +kernel
theorem dX0_negative_3 : decode cX0_negative 3 = .ok (.ifCond .ne 7, 3) := by decide +kernel
theorem dX0_negative_6 : decode cX0_negative 6 = .ok (.lconst 0, 1) := by decide +kernel
theorem dX0_negative_7 : decode cX0_negative 7 = .ok (.goto 10, 3) := by decide +kernel
theorem dX0_negative_10 : decode cX0_negative 10 = .ok (.aload_n 0, 1) := by decide +kernel
theorem dX0_negative_11 : decode cX0_negative 11 = .ok (.getfield 16, 3) := by decide +kernel
theorem dX0_negative_14 : decode cX0_negative 14 = .ok (.i2l, 1) := by decide +kernel
theorem dX0_negative_15 : decode cX0_negative 15 = .ok (.lload_n 1, 1) := by decide +kernel
theorem dX0_negative_16 : decode cX0_negative 16 = .ok (.lsub, 1) := by decide +kernel
theorem dX0_negative_17 : decode cX0_negative 17 = .ok (.lreturn, 1) := by decide +kernel
theorem dX0_inverseOf_0 : decode cX0_inverseOf 0 = .ok (.lconst 1, 1) := by decide +kernel
theorem dX0_inverseOf_1 : decode cX0_inverseOf 1 = .ok (.lstore_n 2, 1) := by decide +kernel
theorem dX0_inverseOf_2 : decode cX0_inverseOf 2 = .ok (.iload_n 1, 1) := by decide +kernel
theorem dX0_inverseOf_3 : decode cX0_inverseOf 3 = .ok (.i2l, 1) := by decide +kernel
theorem dX0_inverseOf_4 : decode cX0_inverseOf 4 = .ok (.lstore 4, 2) := by decide +kernel
theorem dX0_inverseOf_6 : decode cX0_inverseOf 6 = .ok (.aload_n 0, 1) := by decide +kernel
theorem dX0_inverseOf_7 : decode cX0_inverseOf 7 = .ok (.getfield 16, 3) := by decide +kernel
theorem dX0_inverseOf_10 : decode cX0_inverseOf 10 = .ok (.iconst 2, 1) := by decide +kernel
theorem dX0_inverseOf_11 : decode cX0_inverseOf 11 = .ok (.isub, 1) := by decide +kernel
theorem dX0_inverseOf_12 : decode cX0_inverseOf 12 = .ok (.istore 6, 2) := by decide +kernel
theorem dX0_inverseOf_14 : decode cX0_inverseOf 14 = .ok (.iload 6, 2) := by decide +kernel
theorem dX0_inverseOf_16 : decode cX0_inverseOf 16 = .ok (.ifCond .le 44, 3) := by decide +kernel
theorem dX0_inverseOf_19 : decode cX0_inverseOf 19 = .ok (.iload 6, 2) := by decide +kernel
theorem dX0_inverseOf_21 : decode cX0_inverseOf 21 = .ok (.iconst 1, 1) := by decide +kernel
theorem dX0_inverseOf_22 : decode cX0_inverseOf 22 = .ok (.iand, 1) := by decide +kernel
theorem dX0_inverseOf_23 : decode cX0_inverseOf 23 = .ok (.iconst 1, 1) := by decide +kernel
theorem dX0_inverseOf_24 : decode cX0_inverseOf 24 = .ok (.if_icmp .ne 14, 3) := by decide +kernel
theorem dX0_inverseOf_27 : decode cX0_inverseOf 27 = .ok (.lload_n 2, 1) := by decide +kernel
theorem dX0_inverseOf_28 : decode cX0_inverseOf 28 = .ok (.lload 4, 2) := by decide +kernel
theorem dX0_inverseOf_30 : decode cX0_inverseOf 30 = .ok (.lmul, 1) := by decide +kernel
theorem dX0_inverseOf_31 : decode cX0_inverseOf 31 = .ok (.aload_n 0, 1) := by decide +kernel
theorem dX0_inverseOf_32 : decode cX0_inverseOf 32 = .ok (.getfield 16, 3) := by decide +kernel
theorem dX0_inverseOf_35 : decode cX0_inverseOf 35 = .ok (.i2l, 1) := by decide +kernel
theorem dX0_inverseOf_36 : decode cX0_inverseOf 36 = .ok (.lrem, 1) := by decide +kernel
theorem dX0_inverseOf_37 : decode cX0_inverseOf 37 = .ok (.lstore_n 2, 1) := by decide +kernel
theorem dX0_inverseOf_38 : decode cX0_inverseOf 38 = .ok (.lload 4, 2) := by decide +kernel
theorem dX0_inverseOf_40 : decode cX0_inverseOf 40 = .ok (.lload 4, 2) := by decide +kernel
theorem dX0_inverseOf_42 : decode cX0_inverseOf 42 = .ok (.lmul, 1) := by decide +kernel
theorem dX0_inverseOf_43 : decode cX0_inverseOf 43 = .ok (.aload_n 0, 1) := by decide +kernel
theorem dX0_inverseOf_44 : decode cX0_inverseOf 44 = .ok (.getfield 16, 3) := by decide +kernel
theorem dX0_inverseOf_47 : decode cX0_inverseOf 47 = .ok (.i2l, 1) := by decide +kernel
theorem dX0_inverseOf_48 : decode cX0_inverseOf 48 = .ok (.lrem, 1) := by decide +kernel
theorem dX0_inverseOf_49 : decode cX0_inverseOf 49 = .ok (.lstore 4, 2) := by decide +kernel
theorem dX0_inverseOf_51 : decode cX0_inverseOf 51 = .ok (.iload 6, 2) := by decide +kernel
theorem dX0_inverseOf_53 : decode cX0_inverseOf 53 = .ok (.iconst 1, 1) := by decide +kernel
theorem dX0_inverseOf_54 : decode cX0_inverseOf 54 = .ok (.ishr, 1) := by decide +kernel
theorem dX0_inverseOf_55 : decode cX0_inverseOf 55 = .ok (.istore 6, 2) := by decide +kernel
theorem dX0_inverseOf_57 : decode cX0_inverseOf 57 = .ok (.goto (-43), 3) := by decide +kernel
theorem dX0_inverseOf_60 : decode cX0_inverseOf 60 = .ok (.lload_n 2, 1) := by decide +kernel
theorem dX0_inverseOf_61 : decode cX0_inverseOf 61 = .ok (.lreturn, 1) := by decide +kernel
set_option maxRecDepth 20000 in
theorem ggX0_changedRightSide_X0_transformNumber : GoodIn wsX0_changedRightSide wsX0_transformNumber := goodIn_r _ [8, 9, 10, 11, 12, 13, 14, 15, 16, 17, 18, 19, 20, 21, 22] (by decide +kernel) (by decide +kernel)
set_option maxRecDepth 20000 in
theorem gX0_changedRightSide_X0_transformNumber : GoodIn wsX0_changedRightSide (wsV RX0 66 RX0 yX0_transformNumber wsX0_transformNumber) := goodIn_app (goodIn_of _ (by decide +kernel)) ggX0_changedRightSide_X0_transformNumber
theorem dX0_changedRightSide_0 : decode cX0_changedRightSide 0 = .ok (.lconst 0, 1) := by decide +kernel
theorem dX0_changedRightSide_1 : decode cX0_changedRightSide 1 = .ok (.lstore_n 2, 1) := by decide +kernel
theorem dX0_changedRightSide_2 : decode cX0_changedRightSide 2 = .ok (.iconst 0, 1) := by decide +kernel
theorem dX0_changedRightSide_3 : decode cX0_changedRightSide 3 = .ok (.istore 4, 2) := by decide +kernel
theorem dX0_changedRightSide_5 : decode cX0_changedRightSide 5 = .ok (.iload 4, 2) := by decide +kernel
theorem dX0_changedRightSide_7 : decode cX0_changedRightSide 7 = .ok (.aload_n 0, 1) := by decide +kernel
theorem dX0_changedRightSide_8 : decode cX0_changedRightSide 8 = .ok (.getfield 20, 3) := by decide +kernel
theorem dX0_changedRightSide_11 : decode cX0_changedRightSide 11 = .ok (.if_icmp .ge 35, 3) := by decide +kernel
theorem dX0_changedRightSide_14 : decode cX0_changedRightSide 14 = .ok (.lload_n 2, 1) := by decide +kernel
theorem dX0_changedRightSide_15 : decode cX0_changedRightSide 15 = .ok (.aload_n 0, 1) := by decide +kernel
theorem dX0_changedRightSide_16 : decode cX0_changedRightSide 16 = .ok (.iload_n 1, 1) := by decide +kernel
theorem dX0_changedRightSide_17 : decode cX0_changedRightSide 17 = .ok (.iload 4, 2) := by decide +kernel
theorem dX0_changedRightSide_19 : decode cX0_changedRightSide 19 = .ok (.invokevirtual 66, 3) := by decide +kernel
theorem dX0_changedRightSide_22 : decode cX0_changedRightSide 22 = .ok (.i2l, 1) := by decide +kernel
theorem dX0_changedRightSide_23 : decode cX0_changedRightSide 23 = .ok (.aload_n 0, 1) := by decide +kernel
theorem dX0_changedRightSide_24 : decode cX0_changedRightSide 24 = .ok (.getfield 33, 3) := by decide +kernel
theorem dX0_changedRightSide_27 : decode cX0_changedRightSide 27 = .ok (.iload 4, 2) := by decide +kernel
theorem dX0_changedRightSide_29 : decode cX0_changedRightSide 29 = .ok (.iaload, 1) := by decide +kernel
theorem dX0_changedRightSide_30 : decode cX0_changedRightSide 30 = .ok (.i2l, 1) := by decide +kernel
theorem dX0_changedRightSide_31 : decode cX0_changedRightSide 31 = .ok (.lmul, 1) := by decide +kernel
theorem dX0_changedRightSide_32 : decode cX0_changedRightSide 32 = .ok (.ladd, 1) := by decide +kernel
theorem dX0_changedRightSide_33 : decode cX0_changedRightSide 33 = .ok (.aload_n 0, 1) := by decide +kernel
theorem dX0_changedRightSide_34 : decode cX0_changedRightSide 34 = .ok (.getfield 16, 3) := by decide +kernel
theorem dX0_changedRightSide_37 : decode cX0_changedRightSide 37 = .ok (.i2l, 1) := by decide +kernel
theorem dX0_changedRightSide_38 : decode cX0_changedRightSide 38 = .ok (.lrem, 1) := by decide +kernel
theorem dX0_changedRightSide_39 : decode cX0_changedRightSide 39 = .ok (.lstore_n 2, 1) := by decide +kernel
theorem dX0_changedRightSide_40 : decode cX0_changedRightSide 40 = .ok (.iinc 4 1, 3) := by decide +kernel
theorem dX0_changedRightSide_43 : decode cX0_changedRightSide 43 = .ok (.goto (-38), 3) := by decide +kernel
theorem dX0_changedRightSide_46 : decode cX0_changedRightSide 46 = .ok (.lload_n 2, 1) := by decide +kernel
theorem dX0_changedRightSide_47 : decode cX0_changedRightSide 47 = .ok (.l2i, 1) := by decide +kernel
theorem dX0_changedRightSide_48 : decode cX0_changedRightSide 48 = .ok (.ireturn, 1) := by decide +kernel
theorem dX0_freeColumn_0 : decode cX0_freeColumn 0 = .ok (.iconst 0, 1) := by decide +kernel
theorem dX0_freeColumn_1 : decode cX0_freeColumn 1 = .ok (.istore_n 2, 1) := by decide +kernel
theorem dX0_freeColumn_2 : decode cX0_freeColumn 2 = .ok (.iconst 0, 1) := by decide +kernel
theorem dX0_freeColumn_3 : decode cX0_freeColumn 3 = .ok (.istore_n 3, 1) := by decide +kernel
theorem dX0_freeColumn_4 : decode cX0_freeColumn 4 = .ok (.iload_n 3, 1) := by decide +kernel
theorem dX0_freeColumn_5 : decode cX0_freeColumn 5 = .ok (.aload_n 0, 1) := by decide +kernel
theorem dX0_freeColumn_6 : decode cX0_freeColumn 6 = .ok (.getfield 23, 3) := by decide +kernel
theorem dX0_freeColumn_9 : decode cX0_freeColumn 9 = .ok (.if_icmp .ge 29, 3) := by decide +kernel
theorem dX0_freeColumn_12 : decode cX0_freeColumn 12 = .ok (.aload_n 0, 1) := by decide +kernel
theorem dX0_freeColumn_13 : decode cX0_freeColumn 13 = .ok (.getfield 39, 3) := by decide +kernel
theorem dX0_freeColumn_16 : decode cX0_freeColumn 16 = .ok (.iload_n 3, 1) := by decide +kernel
theorem dX0_freeColumn_17 : decode cX0_freeColumn 17 = .ok (.iaload, 1) := by decide +kernel
theorem dX0_freeColumn_18 : decode cX0_freeColumn 18 = .ok (.iconst (-1), 1) := by decide +kernel
theorem dX0_freeColumn_19 : decode cX0_freeColumn 19 = .ok (.if_icmp .ne 13, 3) := by decide +kernel
theorem dX0_freeColumn_22 : decode cX0_freeColumn 22 = .ok (.iload_n 2, 1) := by decide +kernel
theorem dX0_freeColumn_23 : decode cX0_freeColumn 23 = .ok (.iload_n 1, 1) := by decide +kernel
theorem dX0_freeColumn_24 : decode cX0_freeColumn 24 = .ok (.if_icmp .ne 5, 3) := by decide +kernel
theorem dX0_freeColumn_27 : decode cX0_freeColumn 27 = .ok (.iload_n 3, 1) := by decide +kernel
theorem dX0_freeColumn_28 : decode cX0_freeColumn 28 = .ok (.ireturn, 1) := by decide +kernel
theorem dX0_freeColumn_29 : decode cX0_freeColumn 29 = .ok (.iinc 2 1, 3) := by decide +kernel
theorem dX0_freeColumn_32 : decode cX0_freeColumn 32 = .ok (.iinc 3 1, 3) := by decide +kernel
theorem dX0_freeColumn_35 : decode cX0_freeColumn 35 = .ok (.goto (-31), 3) := by decide +kernel
theorem dX0_freeColumn_38 : decode cX0_freeColumn 38 = .ok (.iconst (-1), 1) := by decide +kernel
theorem dX0_freeColumn_39 : decode cX0_freeColumn 39 = .ok (.ireturn, 1) := by decide +kernel
set_option maxRecDepth 20000 in
theorem ggX1_init_X1_isPrime : GoodIn wsX1_init wsX1_isPrime := goodIn_r _ [18, 19] (by decide +kernel) (by decide +kernel)
set_option maxRecDepth 20000 in
theorem gX1_init_X1_isPrime : GoodIn wsX1_init (va_wsS RX1 37 yX1_isPrime wsX1_isPrime) := goodIn_app (goodIn_of _ (by decide +kernel)) ggX1_init_X1_isPrime
theorem dX1_init_0 : decode cX1_init 0 = .ok (.aload_n 0, 1) := by decide +kernel
theorem dX1_init_1 : decode cX1_init 1 = .ok (.invokespecial 1, 3) := by decide +kernel
theorem dX1_init_4 : decode cX1_init 4 = .ok (.aload_n 0, 1) := by decide +kernel
theorem dX1_init_5 : decode cX1_init 5 = .ok (.bipush 100, 2) := by decide +kernel
theorem dX1_init_7 : decode cX1_init 7 = .ok (.newarray .long, 2) := by decide +kernel
theorem dX1_init_9 : decode cX1_init 9 = .ok (.putfield 7, 3) := by decide +kernel
theorem dX1_init_12 : decode cX1_init 12 = .ok (.aload_n 0, 1) := by decide +kernel
theorem dX1_init_13 : decode cX1_init 13 = .ok (.bipush 10, 2) := by decide +kernel
theorem dX1_init_15 : decode cX1_init 15 = .ok (.newarray .long, 2) := by decide +kernel
theorem dX1_init_17 : decode cX1_init 17 = .ok (.putfield 13, 3) := by decide +kernel
theorem dX1_init_20 : decode cX1_init 20 = .ok (.aload_n 0, 1) := by decide +kernel
theorem dX1_init_21 : decode cX1_init 21 = .ok (.sipush 200, 3) := by decide +kernel
theorem dX1_init_24 : decode cX1_init 24 = .ok (.newarray .long, 2) := by decide +kernel
theorem dX1_init_26 : decode cX1_init 26 = .ok (.putfield 16, 3) := by decide +kernel
theorem dX1_init_29 : decode cX1_init 29 = .ok (.aload_n 0, 1) := by decide +kernel
theorem dX1_init_30 : decode cX1_init 30 = .ok (.bipush 10, 2) := by decide +kernel
theorem dX1_init_32 : decode cX1_init 32 = .ok (.newarray .int, 2) := by decide +kernel
theorem dX1_init_34 : decode cX1_init 34 = .ok (.putfield 19, 3) := by decide +kernel
theorem dX1_init_37 : decode cX1_init 37 = .ok (.aload_n 0, 1) := by decide +kernel
theorem dX1_init_38 : decode cX1_init 38 = .ok (.sipush 1024, 3) := by decide +kernel
theorem dX1_init_41 : decode cX1_init 41 = .ok (.newarray .long, 2) := by decide +kernel
theorem dX1_init_43 : decode cX1_init 43 = .ok (.putfield 23, 3) := by decide +kernel
theorem dX1_init_46 : decode cX1_init 46 = .ok (.aload_n 0, 1) := by decide +kernel
theorem dX1_init_47 : decode cX1_init 47 = .ok (.iload_n 1, 1) := by decide +kernel
theorem dX1_init_48 : decode cX1_init 48 = .ok (.i2l, 1) := by decide +kernel
theorem dX1_init_49 : decode cX1_init 49 = .ok (.putfield 26, 3) := by decide +kernel
theorem dX1_init_52 : decode cX1_init 52 = .ok (.aload_n 0, 1) := by decide +kernel
theorem dX1_init_53 : decode cX1_init 53 = .ok (.iload_n 2, 1) := by decide +kernel
theorem dX1_init_54 : decode cX1_init 54 = .ok (.putfield 30, 3) := by decide +kernel
theorem dX1_init_57 : decode cX1_init 57 = .ok (.aload_n 0, 1) := by decide +kernel
theorem dX1_init_58 : decode cX1_init 58 = .ok (.iload_n 3, 1) := by decide +kernel
theorem dX1_init_59 : decode cX1_init 59 = .ok (.putfield 34, 3) := by decide +kernel
theorem dX1_init_62 : decode cX1_init 62 = .ok (.aload_n 0, 1) := by decide +kernel
theorem dX1_init_63 : decode cX1_init 63 = .ok (.iload_n 1, 1) := by decide +kernel
theorem dX1_init_64 : decode cX1_init 64 = .ok (.invokestatic 37, 3) := by decide +kernel
theorem dX1_init_67 : decode cX1_init 67 = .ok (.ifCond .eq 27, 3) := by decide +kernel
theorem dX1_init_70 : decode cX1_init 70 = .ok (.iload_n 2, 1) := by decide +kernel
theorem dX1_init_71 : decode cX1_init 71 = .ok (.ifCond .le 23, 3) := by decide +kernel
theorem dX1_init_74 : decode cX1_init 74 = .ok (.iload_n 2, 1) := by decide +kernel
theorem dX1_init_75 : decode cX1_init 75 = .ok (.bipush 11, 2) := by decide +kernel
theorem dX1_init_77 : decode cX1_init 77 = .ok (.if_icmp .ge 17, 3) := by decide +kernel
theorem dX1_init_80 : decode cX1_init 80 = .ok (.iload_n 3, 1) := by decide +kernel
theorem dX1_init_81 : decode cX1_init 81 = .ok (.ifCond .le 13, 3) := by decide +kernel
theorem dX1_init_84 : decode cX1_init 84 = .ok (.iload_n 3, 1) := by decide +kernel
theorem dX1_init_85 : decode cX1_init 85 = .ok (.bipush 11, 2) := by decide +kernel
theorem dX1_init_87 : decode cX1_init 87 = .ok (.if_icmp .ge 7, 3) := by decide +kernel
theorem dX1_init_90 : decode cX1_init 90 = .ok (.iconst 1, 1) := by decide +kernel
theorem dX1_init_91 : decode cX1_init 91 = .ok (.goto 4, 3) := by decide +kernel
theorem dX1_init_94 : decode cX1_init 94 = .ok (.iconst 0, 1) := by decide +kernel
theorem dX1_init_95 : decode cX1_init 95 = .ok (.putfield 41, 3) := by decide +kernel
theorem dX1_init_98 : decode cX1_init 98 = .ok (.return_, 1) := by decide +kernel
theorem dX1_isPrime_0 : decode cX1_isPrime 0 = .ok (.iload_n 0, 1) := by decide +kernel
theorem dX1_isPrime_1 : decode cX1_isPrime 1 = .ok (.iconst 1, 1) := by decide +kernel
theorem dX1_isPrime_2 : decode cX1_isPrime 2 = .ok (.if_icmp .le 7, 3) := by decide +kernel
theorem dX1_isPrime_5 : decode cX1_isPrime 5 = .ok (.iconst 1, 1) := by decide +kernel
theorem dX1_isPrime_6 : decode cX1_isPrime 6 = .ok (.goto 4, 3) := by decide +kernel
theorem dX1_isPrime_9 : decode cX1_isPrime 9 = .ok (.iconst 0, 1) := by decide +kernel
theorem dX1_isPrime_10 : decode cX1_isPrime 10 = .ok (.istore_n 1, 1) := by decide +kernel
theorem dX1_isPrime_11 : decode cX1_isPrime 11 = .ok (.ldc2_w 48, 3) := by decide +kernel
theorem dX1_isPrime_14 : decode cX1_isPrime 14 = .ok (.lstore_n 2, 1) := by decide +kernel
theorem dX1_isPrime_15 : decode cX1_isPrime 15 = .ok (.iload_n 1, 1) := by decide +kernel
theorem dX1_isPrime_16 : decode cX1_isPrime 16 = .ok (.ifCond .eq 34, 3) := by decide +kernel
theorem dX1_isPrime_19 : decode cX1_isPrime 19 = .ok (.lload_n 2, 1) := by decide +kernel
theorem dX1_isPrime_20 : decode cX1_isPrime 20 = .ok (.lload_n 2, 1) := by decide +kernel
theorem dX1_isPrime_21 : decode cX1_isPrime 21 = .ok (.lmul, 1) := by decide +kernel
theorem dX1_isPrime_22 : decode cX1_isPrime 22 = .ok (.iload_n 0, 1) := by decide +kernel
theorem dX1_isPrime_23 : decode cX1_isPrime 23 = .ok (.i2l, 1) := by decide +kernel
theorem dX1_isPrime_24 : decode cX1_isPrime 24 = .ok (.lcmp, 1) := by decide +kernel
theorem dX1_isPrime_25 : decode cX1_isPrime 25 = .ok (.ifCond .gt 25, 3) := by decide +kernel
theorem dX1_isPrime_28 : decode cX1_isPrime 28 = .ok (.iload_n 0, 1) := by decide +kernel
theorem dX1_isPrime_29 : decode cX1_isPrime 29 = .ok (.i2l, 1) := by decide +kernel
theorem dX1_isPrime_30 : decode cX1_isPrime 30 = .ok (.lload_n 2, 1) := by decide +kernel
theorem dX1_isPrime_31 : decode cX1_isPrime 31 = .ok (.lrem, 1) := by decide +kernel
theorem dX1_isPrime_32 : decode cX1_isPrime 32 = .ok (.lconst 0, 1) := by decide +kernel
theorem dX1_isPrime_33 : decode cX1_isPrime 33 = .ok (.lcmp, 1) := by decide +kernel
theorem dX1_isPrime_34 : decode cX1_isPrime 34 = .ok (.ifCond .eq 7, 3) := by decide +kernel
theorem dX1_isPrime_37 : decode cX1_isPrime 37 = .ok (.iconst 1, 1) := by decide +kernel
theorem dX1_isPrime_38 : decode cX1_isPrime 38 = .ok (.goto 4, 3) := by decide +kernel
theorem dX1_isPrime_41 : decode cX1_isPrime 41 = .ok (.iconst 0, 1) := by decide +kernel
theorem dX1_isPrime_42 : decode cX1_isPrime 42 = .ok (.istore_n 1, 1) := by decide +kernel
theorem dX1_isPrime_43 : decode cX1_isPrime 43 = .ok (.lload_n 2, 1) := by decide +kernel
theorem dX1_isPrime_44 : decode cX1_isPrime 44 = .ok (.lconst 1, 1) := by decide +kernel
theorem dX1_isPrime_45 : decode cX1_isPrime 45 = .ok (.ladd, 1) := by decide +kernel
theorem dX1_isPrime_46 : decode cX1_isPrime 46 = .ok (.lstore_n 2, 1) := by decide +kernel
theorem dX1_isPrime_47 : decode cX1_isPrime 47 = .ok (.goto (-32), 3) := by decide +kernel
theorem dX1_isPrime_50 : decode cX1_isPrime 50 = .ok (.iload_n 1, 1) := by decide +kernel
theorem dX1_isPrime_51 : decode cX1_isPrime 51 = .ok (.ireturn, 1) := by decide +kernel
theorem dX1_isPlace_0 : decode cX1_isPlace 0 = .ok (.aload_n 0, 1) := by decide +kernel
theorem dX1_isPlace_1 : decode cX1_isPlace 1 = .ok (.getfield 41, 3) := by decide +kernel
theorem dX1_isPlace_4 : decode cX1_isPlace 4 = .ok (.ifCond .eq 31, 3) := by decide +kernel
theorem dX1_isPlace_7 : decode cX1_isPlace 7 = .ok (.iload_n 1, 1) := by decide +kernel
theorem dX1_isPlace_8 : decode cX1_isPlace 8 = .ok (.ifCond .lt 27, 3) := by decide +kernel
theorem dX1_isPlace_11 : decode cX1_isPlace 11 = .ok (.iload_n 1, 1) := by decide +kernel
theorem dX1_isPlace_12 : decode cX1_isPlace 12 = .ok (.aload_n 0, 1) := by decide +kernel
theorem dX1_isPlace_13 : decode cX1_isPlace 13 = .ok (.getfield 30, 3) := by decide +kernel
theorem dX1_isPlace_16 : decode cX1_isPlace 16 = .ok (.if_icmp .ge 19, 3) := by decide +kernel
theorem dX1_isPlace_19 : decode cX1_isPlace 19 = .ok (.iload_n 2, 1) := by decide +kernel
theorem dX1_isPlace_20 : decode cX1_isPlace 20 = .ok (.ifCond .lt 15, 3) := by decide +kernel
theorem dX1_isPlace_23 : decode cX1_isPlace 23 = .ok (.iload_n 2, 1) := by decide +kernel
theorem dX1_isPlace_24 : decode cX1_isPlace 24 = .ok (.aload_n 0, 1) := by decide +kernel
theorem dX1_isPlace_25 : decode cX1_isPlace 25 = .ok (.getfield 34, 3) := by decide +kernel
theorem dX1_isPlace_28 : decode cX1_isPlace 28 = .ok (.if_icmp .ge 7, 3) := by decide +kernel
theorem dX1_isPlace_31 : decode cX1_isPlace 31 = .ok (.iconst 1, 1) := by decide +kernel
theorem dX1_isPlace_32 : decode cX1_isPlace 32 = .ok (.goto 4, 3) := by decide +kernel
theorem dX1_isPlace_35 : decode cX1_isPlace 35 = .ok (.iconst 0, 1) := by decide +kernel
theorem dX1_isPlace_36 : decode cX1_isPlace 36 = .ok (.ireturn, 1) := by decide +kernel
set_option maxRecDepth 20000 in
theorem ggX1_set_X1_isPlace : GoodIn wsX1_set wsX1_isPlace := goodIn_r _ [9, 10, 11, 12, 13, 14, 15, 16, 17, 18, 19, 20, 21, 22, 23, 24] (by decide +kernel) (by decide +kernel)
set_option maxRecDepth 20000 in
theorem gX1_set_X1_isPlace : GoodIn wsX1_set (wsV RX1 50 RX1 yX1_isPlace wsX1_isPlace) := goodIn_app (goodIn_of _ (by decide +kernel)) ggX1_set_X1_isPlace
theorem dX1_set_0 : decode cX1_set 0 = .ok (.aload_n 0, 1) := by decide +kernel
theorem dX1_set_1 : decode cX1_set 1 = .ok (.iconst 0, 1) := by decide +kernel
theorem dX1_set_2 : decode cX1_set 2 = .ok (.putfield 45, 3) := by decide +kernel
theorem dX1_set_5 : decode cX1_set 5 = .ok (.aload_n 0, 1) := by decide +kernel
theorem dX1_set_6 : decode cX1_set 6 = .ok (.iload_n 1, 1) := by decide +kernel
theorem dX1_set_7 : decode cX1_set 7 = .ok (.iload_n 2, 1) := by decide +kernel
theorem dX1_set_8 : decode cX1_set 8 = .ok (.invokevirtual 50, 3) := by decide +kernel
theorem dX1_set_11 : decode cX1_set 11 = .ok (.ifCond .eq 7, 3) := by decide +kernel
theorem dX1_set_14 : decode cX1_set 14 = .ok (.iload_n 3, 1) := by decide +kernel
theorem dX1_set_15 : decode cX1_set 15 = .ok (.ifCond .ge 5, 3) := by decide +kernel
theorem dX1_set_18 : decode cX1_set 18 = .ok (.iconst 0, 1) := by decide +kernel
theorem dX1_set_19 : decode cX1_set 19 = .ok (.ireturn, 1) := by decide +kernel
theorem dX1_set_20 : decode cX1_set 20 = .ok (.aload_n 0, 1) := by decide +kernel
theorem dX1_set_21 : decode cX1_set 21 = .ok (.getfield 7, 3) := by decide +kernel
theorem dX1_set_24 : decode cX1_set 24 = .ok (.bipush 10, 2) := by decide +kernel
theorem dX1_set_26 : decode cX1_set 26 = .ok (.iload_n 1, 1) := by decide +kernel
theorem dX1_set_27 : decode cX1_set 27 = .ok (.imul, 1) := by decide +kernel
theorem dX1_set_28 : decode cX1_set 28 = .ok (.iload_n 2, 1) := by decide +kernel
theorem dX1_set_29 : decode cX1_set 29 = .ok (.iadd, 1) := by decide +kernel
theorem dX1_set_30 : decode cX1_set 30 = .ok (.iload_n 3, 1) := by decide +kernel
theorem dX1_set_31 : decode cX1_set 31 = .ok (.i2l, 1) := by decide +kernel
theorem dX1_set_32 : decode cX1_set 32 = .ok (.aload_n 0, 1) := by decide +kernel
theorem dX1_set_33 : decode cX1_set 33 = .ok (.getfield 26, 3) := by decide +kernel
theorem dX1_set_36 : decode cX1_set 36 = .ok (.lrem, 1) := by decide +kernel
theorem dX1_set_37 : decode cX1_set 37 = .ok (.lastore, 1) := by decide +kernel
theorem dX1_set_38 : decode cX1_set 38 = .ok (.aload_n 0, 1) := by decide +kernel
theorem dX1_set_39 : decode cX1_set 39 = .ok (.iconst 0, 1) := by decide +kernel
theorem dX1_set_40 : decode cX1_set 40 = .ok (.putfield 54, 3) := by decide +kernel
theorem dX1_set_43 : decode cX1_set 43 = .ok (.iconst 1, 1) := by decide +kernel
theorem dX1_set_44 : decode cX1_set 44 = .ok (.ireturn, 1) := by decide +kernel
set_option maxRecDepth 20000 in
theorem ggX1_get_X1_isPlace : GoodIn wsX1_get wsX1_isPlace := goodIn_r _ [7, 8, 9, 10, 11, 12, 13, 14, 15, 16, 17, 18, 19, 20, 21, 22] (by decide +kernel) (by decide +kernel)
set_option maxRecDepth 20000 in
theorem gX1_get_X1_isPlace : GoodIn wsX1_get (wsV RX1 50 RX1 yX1_isPlace wsX1_isPlace) := goodIn_app (goodIn_of _ (by decide +kernel)) ggX1_get_X1_isPlace
theorem dX1_get_0 : decode cX1_get 0 = .ok (.aload_n 0, 1) := by decide +kernel
theorem dX1_get_1 : decode cX1_get 1 = .ok (.iconst 0, 1) := by decide +kernel
theorem dX1_get_2 : decode cX1_get 2 = .ok (.putfield 45, 3) := by decide +kernel
theorem dX1_get_5 : decode cX1_get 5 = .ok (.aload_n 0, 1) := by decide +kernel
theorem dX1_get_6 : decode cX1_get 6 = .ok (.iload_n 1, 1) := by decide +kernel
theorem dX1_get_7 : decode cX1_get 7 = .ok (.iload_n 2, 1) := by decide +kernel
theorem dX1_get_8 : decode cX1_get 8 = .ok (.invokevirtual 50, 3) := by decide +kernel
theorem dX1_get_11 : decode cX1_get 11 = .ok (.ifCond .eq 18, 3) := by decide +kernel
theorem dX1_get_14 : decode cX1_get 14 = .ok (.aload_n 0, 1) := by decide +kernel
theorem dX1_get_15 : decode cX1_get 15 = .ok (.getfield 7, 3) := by decide +kernel
theorem dX1_get_18 : decode cX1_get 18 = .ok (.bipush 10, 2) := by decide +kernel
theorem dX1_get_20 : decode cX1_get 20 = .ok (.iload_n 1, 1) := by decide +kernel
theorem dX1_get_21 : decode cX1_get 21 = .ok (.imul, 1) := by decide +kernel
theorem dX1_get_22 : decode cX1_get 22 = .ok (.iload_n 2, 1) := by decide +kernel
theorem dX1_get_23 : decode cX1_get 23 = .ok (.iadd, 1) := by decide +kernel
theorem dX1_get_24 : decode cX1_get 24 = .ok (.laload, 1) := by decide +kernel
theorem dX1_get_25 : decode cX1_get 25 = .ok (.l2i, 1) := by decide +kernel
theorem dX1_get_26 : decode cX1_get 26 = .ok (.goto 4, 3) := by decide +kernel
theorem dX1_get_29 : decode cX1_get 29 = .ok (.iconst (-1), 1) := by decide +kernel
theorem dX1_get_30 : decode cX1_get 30 = .ok (.ireturn, 1) := by decide +kernel
set_option maxRecDepth 20000 in
theorem ggX1_setRhs_X1_isPlace : GoodIn wsX1_setRhs wsX1_isPlace := goodIn_r _ [8, 9, 10, 11, 12, 13, 14, 15, 16, 17, 18, 19, 20, 21, 22, 23] (by decide +kernel) (by decide +kernel)
set_option maxRecDepth 20000 in
theorem gX1_setRhs_X1_isPlace : GoodIn wsX1_setRhs (wsV RX1 50 RX1 yX1_isPlace wsX1_isPlace) := goodIn_app (goodIn_of _ (by decide +kernel)) ggX1_setRhs_X1_isPlace
theorem dX1_setRhs_0 : decode cX1_setRhs 0 = .ok (.aload_n 0, 1) := by decide +kernel
theorem dX1_setRhs_1 : decode cX1_setRhs 1 = .ok (.iconst 0, 1) := by decide +kernel
theorem dX1_setRhs_2 : decode cX1_setRhs 2 = .ok (.putfield 45, 3) := by decide +kernel
theorem dX1_setRhs_5 : decode cX1_setRhs 5 = .ok (.aload_n 0, 1) := by decide +kernel
theorem dX1_setRhs_6 : decode cX1_setRhs 6 = .ok (.iload_n 1, 1) := by decide +kernel
theorem dX1_setRhs_7 : decode cX1_setRhs 7 = .ok (.iconst 0, 1) := by decide +kernel
theorem dX1_setRhs_8 : decode cX1_setRhs 8 = .ok (.invokevirtual 50, 3) := by decide +kernel
theorem dX1_setRhs_11 : decode cX1_setRhs 11 = .ok (.ifCond .eq 7, 3) := by decide +kernel
theorem dX1_setRhs_14 : decode cX1_setRhs 14 = .ok (.iload_n 2, 1) := by decide +kernel
theorem dX1_setRhs_15 : decode cX1_setRhs 15 = .ok (.ifCond .ge 5, 3) := by decide +kernel
theorem dX1_setRhs_18 : decode cX1_setRhs 18 = .ok (.iconst 0, 1) := by decide +kernel
theorem dX1_setRhs_19 : decode cX1_setRhs 19 = .ok (.ireturn, 1) := by decide +kernel
theorem dX1_setRhs_20 : decode cX1_setRhs 20 = .ok (.aload_n 0, 1) := by decide +kernel
theorem dX1_setRhs_21 : decode cX1_setRhs 21 = .ok (.getfield 13, 3) := by decide +kernel
theorem dX1_setRhs_24 : decode cX1_setRhs 24 = .ok (.iload_n 1, 1) := by decide +kernel
theorem dX1_setRhs_25 : decode cX1_setRhs 25 = .ok (.iload_n 2, 1) := by decide +kernel
theorem dX1_setRhs_26 : decode cX1_setRhs 26 = .ok (.i2l, 1) := by decide +kernel
theorem dX1_setRhs_27 : decode cX1_setRhs 27 = .ok (.aload_n 0, 1) := by decide +kernel
theorem dX1_setRhs_28 : decode cX1_setRhs 28 = .ok (.getfield 26, 3) := by decide +kernel
theorem dX1_setRhs_31 : decode cX1_setRhs 31 = .ok (.lrem, 1) := by decide +kernel
theorem dX1_setRhs_32 : decode cX1_setRhs 32 = .ok (.lastore, 1) := by decide +kernel
theorem dX1_setRhs_33 : decode cX1_setRhs 33 = .ok (.iconst 1, 1) := by decide +kernel
theorem dX1_setRhs_34 : decode cX1_setRhs 34 = .ok (.ireturn, 1) := by decide +kernel
theorem dX1_power_0 : decode cX1_power 0 = .ok (.lconst 1, 1) := by decide +kernel
theorem dX1_power_1 : decode cX1_power 1 = .ok (.aload_n 0, 1) := by decide +kernel
theorem dX1_power_2 : decode cX1_power 2 = .ok (.getfield 26, 3) := by decide +kernel
theorem dX1_power_5 : decode cX1_power 5 = .ok (.lrem, 1) := by decide +kernel
theorem dX1_power_6 : decode cX1_power 6 = .ok (.lstore 5, 2) := by decide +kernel
theorem dX1_power_8 : decode cX1_power 8 = .ok (.bipush 30, 2) := by decide +kernel
theorem dX1_power_10 : decode cX1_power 10 = .ok (.istore 7, 2) := by decide +kernel
theorem dX1_power_12 : decode cX1_power 12 = .ok (.iload 7, 2) := by decide +kernel
theorem dX1_power_14 : decode cX1_power 14 = .ok (.ifCond .lt 48, 3) := by decide +kernel
theorem dX1_power_17 : decode cX1_power 17 = .ok (.lload 5, 2) := by decide +kernel
theorem dX1_power_19 : decode cX1_power 19 = .ok (.lload 5, 2) := by decide +kernel
theorem dX1_power_21 : decode cX1_power 21 = .ok (.lmul, 1) := by decide +kernel
theorem dX1_power_22 : decode cX1_power 22 = .ok (.aload_n 0, 1) := by decide +kernel
theorem dX1_power_23 : decode cX1_power 23 = .ok (.getfield 26, 3) := by decide +kernel
theorem dX1_power_26 : decode cX1_power 26 = .ok (.lrem, 1) := by decide +kernel
theorem dX1_power_27 : decode cX1_power 27 = .ok (.lstore 5, 2) := by decide +kernel
theorem dX1_power_29 : decode cX1_power 29 = .ok (.lload_n 3, 1) := by decide +kernel
theorem dX1_power_30 : decode cX1_power 30 = .ok (.iload 7, 2) := by decide +kernel
theorem dX1_power_32 : decode cX1_power 32 = .ok (.lshr, 1) := by decide +kernel
theorem dX1_power_33 : decode cX1_power 33 = .ok (.lconst 1, 1) := by decide +kernel
end
section
theorem dX1_power_34 : decode cX1_power 34 = .ok (.land, 1) := by decide +kernel
theorem dX1_power_35 : decode cX1_power 35 = .ok (.lconst 1, 1) := by decide +kernel
theorem dX1_power_36 : decode cX1_power 36 = .ok (.lcmp, 1) := by decide +kernel
theorem dX1_power_37 : decode cX1_power 37 = .ok (.ifCond .ne 15, 3) := by decide +kernel
theorem dX1_power_40 : decode cX1_power 40 = .ok (.lload 5, 2) := by decide +kernel
theorem dX1_power_42 : decode cX1_power 42 = .ok (.lload_n 1, 1) := by decide +kernel
theorem dX1_power_43 : decode cX1_power 43 = .ok (.lmul, 1) := by decide +kernel
theorem dX1_power_44 : decode cX1_power 44 = .ok (.aload_n 0, 1) := by decide +kernel
theorem dX1_power_45 : decode cX1_power 45 = .ok (.getfield 26, 3) := by decide +kernel
theorem dX1_power_48 : decode cX1_power 48 = .ok (.lrem, 1) := by decide +kernel
theorem dX1_power_49 : decode cX1_power 49 = .ok (.goto 5, 3) := by decide +kernel
theorem dX1_power_52 : decode cX1_power 52 = .ok (.lload 5, 2) := by decide +kernel
theorem dX1_power_54 : decode cX1_power 54 = .ok (.lstore 5, 2) := by decide +kernel
theorem dX1_power_56 : decode cX1_power 56 = .ok (.iinc 7 (-1), 3) := by decide +kernel
theorem dX1_power_59 : decode cX1_power 59 = .ok (.goto (-47), 3) := by decide +kernel
theorem dX1_power_62 : decode cX1_power 62 = .ok (.lload 5, 2) := by decide +kernel
theorem dX1_power_64 : decode cX1_power 64 = .ok (.lreturn, 1) := by decide +kernel
theorem dX1_swap_0 : decode cX1_swap 0 = .ok (.iconst 0, 1) := by decide +kernel
theorem dX1_swap_1 : decode cX1_swap 1 = .ok (.istore_n 3, 1) := by decide +kernel
theorem dX1_swap_2 : decode cX1_swap 2 = .ok (.iload_n 3, 1) := by decide +kernel
theorem dX1_swap_3 : decode cX1_swap 3 = .ok (.bipush 20, 2) := by decide +kernel
theorem dX1_swap_5 : decode cX1_swap 5 = .ok (.if_icmp .ge 57, 3) := by decide +kernel
theorem dX1_swap_8 : decode cX1_swap 8 = .ok (.aload_n 0, 1) := by decide +kernel
theorem dX1_swap_9 : decode cX1_swap 9 = .ok (.getfield 16, 3) := by decide +kernel
theorem dX1_swap_12 : decode cX1_swap 12 = .ok (.bipush 20, 2) := by decide +kernel
theorem dX1_swap_14 : decode cX1_swap 14 = .ok (.iload_n 1, 1) := by decide +kernel
theorem dX1_swap_15 : decode cX1_swap 15 = .ok (.imul, 1) := by decide +kernel
theorem dX1_swap_16 : decode cX1_swap 16 = .ok (.iload_n 3, 1) := by decide +kernel
theorem dX1_swap_17 : decode cX1_swap 17 = .ok (.iadd, 1) := by decide +kernel
theorem dX1_swap_18 : decode cX1_swap 18 = .ok (.laload, 1) := by decide +kernel
theorem dX1_swap_19 : decode cX1_swap 19 = .ok (.lstore 4, 2) := by decide +kernel
theorem dX1_swap_21 : decode cX1_swap 21 = .ok (.aload_n 0, 1) := by decide +kernel
theorem dX1_swap_22 : decode cX1_swap 22 = .ok (.getfield 16, 3) := by decide +kernel
theorem dX1_swap_25 : decode cX1_swap 25 = .ok (.bipush 20, 2) := by decide +kernel
theorem dX1_swap_27 : decode cX1_swap 27 = .ok (.iload_n 1, 1) := by decide +kernel
theorem dX1_swap_28 : decode cX1_swap 28 = .ok (.imul, 1) := by decide +kernel
theorem dX1_swap_29 : decode cX1_swap 29 = .ok (.iload_n 3, 1) := by decide +kernel
theorem dX1_swap_30 : decode cX1_swap 30 = .ok (.iadd, 1) := by decide +kernel
theorem dX1_swap_31 : decode cX1_swap 31 = .ok (.aload_n 0, 1) := by decide +kernel
theorem dX1_swap_32 : decode cX1_swap 32 = .ok (.getfield 16, 3) := by decide +kernel
theorem dX1_swap_35 : decode cX1_swap 35 = .ok (.bipush 20, 2) := by decide +kernel
theorem dX1_swap_37 : decode cX1_swap 37 = .ok (.iload_n 2, 1) := by decide +kernel
theorem dX1_swap_38 : decode cX1_swap 38 = .ok (.imul, 1) := by decide +kernel
theorem dX1_swap_39 : decode cX1_swap 39 = .ok (.iload_n 3, 1) := by decide +kernel
theorem dX1_swap_40 : decode cX1_swap 40 = .ok (.iadd, 1) := by decide +kernel
theorem dX1_swap_41 : decode cX1_swap 41 = .ok (.laload, 1) := by decide +kernel
theorem dX1_swap_42 : decode cX1_swap 42 = .ok (.lastore, 1) := by decide +kernel
theorem dX1_swap_43 : decode cX1_swap 43 = .ok (.aload_n 0, 1) := by decide +kernel
theorem dX1_swap_44 : decode cX1_swap 44 = .ok (.getfield 16, 3) := by decide +kernel
theorem dX1_swap_47 : decode cX1_swap 47 = .ok (.bipush 20, 2) := by decide +kernel
theorem dX1_swap_49 : decode cX1_swap 49 = .ok (.iload_n 2, 1) := by decide +kernel
theorem dX1_swap_50 : decode cX1_swap 50 = .ok (.imul, 1) := by decide +kernel
theorem dX1_swap_51 : decode cX1_swap 51 = .ok (.iload_n 3, 1) := by decide +kernel
theorem dX1_swap_52 : decode cX1_swap 52 = .ok (.iadd, 1) := by decide +kernel
theorem dX1_swap_53 : decode cX1_swap 53 = .ok (.lload 4, 2) := by decide +kernel
theorem dX1_swap_55 : decode cX1_swap 55 = .ok (.lastore, 1) := by decide +kernel
theorem dX1_swap_56 : decode cX1_swap 56 = .ok (.iinc 3 1, 3) := by decide +kernel
theorem dX1_swap_59 : decode cX1_swap 59 = .ok (.goto (-57), 3) := by decide +kernel
theorem dX1_swap_62 : decode cX1_swap 62 = .ok (.return_, 1) := by decide +kernel
theorem dX1_firstWith_0 : decode cX1_firstWith 0 = .ok (.aload_n 0, 1) := by decide +kernel
theorem dX1_firstWith_1 : decode cX1_firstWith 1 = .ok (.getfield 57, 3) := by decide +kernel
theorem dX1_firstWith_4 : decode cX1_firstWith 4 = .ok (.istore_n 2, 1) := by decide +kernel
theorem dX1_firstWith_5 : decode cX1_firstWith 5 = .ok (.iload_n 2, 1) := by decide +kernel
theorem dX1_firstWith_6 : decode cX1_firstWith 6 = .ok (.aload_n 0, 1) := by decide +kernel
theorem dX1_firstWith_7 : decode cX1_firstWith 7 = .ok (.getfield 30, 3) := by decide +kernel
theorem dX1_firstWith_10 : decode cX1_firstWith 10 = .ok (.if_icmp .ge 25, 3) := by decide +kernel
theorem dX1_firstWith_13 : decode cX1_firstWith 13 = .ok (.aload_n 0, 1) := by decide +kernel
theorem dX1_firstWith_14 : decode cX1_firstWith 14 = .ok (.getfield 16, 3) := by decide +kernel
theorem dX1_firstWith_17 : decode cX1_firstWith 17 = .ok (.bipush 20, 2) := by decide +kernel
theorem dX1_firstWith_19 : decode cX1_firstWith 19 = .ok (.iload_n 2, 1) := by decide +kernel
theorem dX1_firstWith_20 : decode cX1_firstWith 20 = .ok (.imul, 1) := by decide +kernel
theorem dX1_firstWith_21 : decode cX1_firstWith 21 = .ok (.iload_n 1, 1) := by decide +kernel
theorem dX1_firstWith_22 : decode cX1_firstWith 22 = .ok (.iadd, 1) := by decide +kernel
theorem dX1_firstWith_23 : decode cX1_firstWith 23 = .ok (.laload, 1) := by decide +kernel
theorem dX1_firstWith_24 : decode cX1_firstWith 24 = .ok (.lconst 0, 1) := by decide +kernel
theorem dX1_firstWith_25 : decode cX1_firstWith 25 = .ok (.lcmp, 1) := by decide +kernel
theorem dX1_firstWith_26 : decode cX1_firstWith 26 = .ok (.ifCond .ne 9, 3) := by decide +kernel
theorem dX1_firstWith_29 : decode cX1_firstWith 29 = .ok (.iinc 2 1, 3) := by decide +kernel
theorem dX1_firstWith_32 : decode cX1_firstWith 32 = .ok (.goto (-27), 3) := by decide +kernel
theorem dX1_firstWith_35 : decode cX1_firstWith 35 = .ok (.iload_n 2, 1) := by decide +kernel
theorem dX1_firstWith_36 : decode cX1_firstWith 36 = .ok (.ireturn, 1) := by decide +kernel
set_option maxRecDepth 20000 in
theorem ggX1_clear_X1_power : GoodIn wsX1_clear wsX1_power := goodIn_r _ [10, 3, 11, 12, 13, 14, 15, 16, 17, 18, 19, 20, 21, 22] (by decide +kernel) (by decide +kernel)
set_option maxRecDepth 20000 in
theorem gX1_clear_X1_power : GoodIn wsX1_clear (wsV RX1 60 RX1 yX1_power wsX1_power) := goodIn_app (goodIn_of _ (by decide +kernel)) ggX1_clear_X1_power
theorem dX1_clear_0 : decode cX1_clear 0 = .ok (.aload_n 0, 1) := by decide +kernel
theorem dX1_clear_1 : decode cX1_clear 1 = .ok (.aload_n 0, 1) := by decide +kernel
theorem dX1_clear_2 : decode cX1_clear 2 = .ok (.getfield 16, 3) := by decide +kernel
theorem dX1_clear_5 : decode cX1_clear 5 = .ok (.bipush 20, 2) := by decide +kernel
theorem dX1_clear_7 : decode cX1_clear 7 = .ok (.aload_n 0, 1) := by decide +kernel
theorem dX1_clear_8 : decode cX1_clear 8 = .ok (.getfield 57, 3) := by decide +kernel
theorem dX1_clear_11 : decode cX1_clear 11 = .ok (.imul, 1) := by decide +kernel
theorem dX1_clear_12 : decode cX1_clear 12 = .ok (.iload_n 1, 1) := by decide +kernel
theorem dX1_clear_13 : decode cX1_clear 13 = .ok (.iadd, 1) := by decide +kernel
theorem dX1_clear_14 : decode cX1_clear 14 = .ok (.laload, 1) := by decide +kernel
theorem dX1_clear_15 : decode cX1_clear 15 = .ok (.aload_n 0, 1) := by decide +kernel
theorem dX1_clear_16 : decode cX1_clear 16 = .ok (.getfield 26, 3) := by decide +kernel
theorem dX1_clear_19 : decode cX1_clear 19 = .ok (.ldc2_w 48, 3) := by decide +kernel
theorem dX1_clear_22 : decode cX1_clear 22 = .ok (.lsub, 1) := by decide +kernel
theorem dX1_clear_23 : decode cX1_clear 23 = .ok (.invokevirtual 60, 3) := by decide +kernel
theorem dX1_clear_26 : decode cX1_clear 26 = .ok (.lstore_n 2, 1) := by decide +kernel
theorem dX1_clear_27 : decode cX1_clear 27 = .ok (.iconst 0, 1) := by decide +kernel
theorem dX1_clear_28 : decode cX1_clear 28 = .ok (.istore 4, 2) := by decide +kernel
theorem dX1_clear_30 : decode cX1_clear 30 = .ok (.iload 4, 2) := by decide +kernel
theorem dX1_clear_32 : decode cX1_clear 32 = .ok (.bipush 20, 2) := by decide +kernel
theorem dX1_clear_34 : decode cX1_clear 34 = .ok (.if_icmp .ge 46, 3) := by decide +kernel
theorem dX1_clear_37 : decode cX1_clear 37 = .ok (.aload_n 0, 1) := by decide +kernel
theorem dX1_clear_38 : decode cX1_clear 38 = .ok (.getfield 16, 3) := by decide +kernel
theorem dX1_clear_41 : decode cX1_clear 41 = .ok (.bipush 20, 2) := by decide +kernel
theorem dX1_clear_43 : decode cX1_clear 43 = .ok (.aload_n 0, 1) := by decide +kernel
theorem dX1_clear_44 : decode cX1_clear 44 = .ok (.getfield 57, 3) := by decide +kernel
theorem dX1_clear_47 : decode cX1_clear 47 = .ok (.imul, 1) := by decide +kernel
theorem dX1_clear_48 : decode cX1_clear 48 = .ok (.iload 4, 2) := by decide +kernel
theorem dX1_clear_50 : decode cX1_clear 50 = .ok (.iadd, 1) := by decide +kernel
theorem dX1_clear_51 : decode cX1_clear 51 = .ok (.aload_n 0, 1) := by decide +kernel
theorem dX1_clear_52 : decode cX1_clear 52 = .ok (.getfield 16, 3) := by decide +kernel
theorem dX1_clear_55 : decode cX1_clear 55 = .ok (.bipush 20, 2) := by decide +kernel
theorem dX1_clear_57 : decode cX1_clear 57 = .ok (.aload_n 0, 1) := by decide +kernel
theorem dX1_clear_58 : decode cX1_clear 58 = .ok (.getfield 57, 3) := by decide +kernel
theorem dX1_clear_61 : decode cX1_clear 61 = .ok (.imul, 1) := by decide +kernel
theorem dX1_clear_62 : decode cX1_clear 62 = .ok (.iload 4, 2) := by decide +kernel
theorem dX1_clear_64 : decode cX1_clear 64 = .ok (.iadd, 1) := by decide +kernel
theorem dX1_clear_65 : decode cX1_clear 65 = .ok (.laload, 1) := by decide +kernel
theorem dX1_clear_66 : decode cX1_clear 66 = .ok (.lload_n 2, 1) := by decide +kernel
theorem dX1_clear_67 : decode cX1_clear 67 = .ok (.lmul, 1) := by decide +kernel
theorem dX1_clear_68 : decode cX1_clear 68 = .ok (.aload_n 0, 1) := by decide +kernel
theorem dX1_clear_69 : decode cX1_clear 69 = .ok (.getfield 26, 3) := by decide +kernel
theorem dX1_clear_72 : decode cX1_clear 72 = .ok (.lrem, 1) := by decide +kernel
theorem dX1_clear_73 : decode cX1_clear 73 = .ok (.lastore, 1) := by decide +kernel
theorem dX1_clear_74 : decode cX1_clear 74 = .ok (.iinc 4 1, 3) := by decide +kernel
theorem dX1_clear_77 : decode cX1_clear 77 = .ok (.goto (-47), 3) := by decide +kernel
theorem dX1_clear_80 : decode cX1_clear 80 = .ok (.iconst 0, 1) := by decide +kernel
theorem dX1_clear_81 : decode cX1_clear 81 = .ok (.istore 4, 2) := by decide +kernel
theorem dX1_clear_83 : decode cX1_clear 83 = .ok (.iload 4, 2) := by decide +kernel
theorem dX1_clear_85 : decode cX1_clear 85 = .ok (.aload_n 0, 1) := by decide +kernel
theorem dX1_clear_86 : decode cX1_clear 86 = .ok (.getfield 30, 3) := by decide +kernel
theorem dX1_clear_89 : decode cX1_clear 89 = .ok (.if_icmp .ge 107, 3) := by decide +kernel
theorem dX1_clear_92 : decode cX1_clear 92 = .ok (.iload 4, 2) := by decide +kernel
theorem dX1_clear_94 : decode cX1_clear 94 = .ok (.aload_n 0, 1) := by decide +kernel
theorem dX1_clear_95 : decode cX1_clear 95 = .ok (.getfield 57, 3) := by decide +kernel
theorem dX1_clear_98 : decode cX1_clear 98 = .ok (.if_icmp .ne 7, 3) := by decide +kernel
theorem dX1_clear_101 : decode cX1_clear 101 = .ok (.lconst 0, 1) := by decide +kernel
theorem dX1_clear_102 : decode cX1_clear 102 = .ok (.goto 15, 3) := by decide +kernel
theorem dX1_clear_105 : decode cX1_clear 105 = .ok (.aload_n 0, 1) := by decide +kernel
theorem dX1_clear_106 : decode cX1_clear 106 = .ok (.getfield 16, 3) := by decide +kernel
theorem dX1_clear_109 : decode cX1_clear 109 = .ok (.bipush 20, 2) := by decide +kernel
theorem dX1_clear_111 : decode cX1_clear 111 = .ok (.iload 4, 2) := by decide +kernel
theorem dX1_clear_113 : decode cX1_clear 113 = .ok (.imul, 1) := by decide +kernel
theorem dX1_clear_114 : decode cX1_clear 114 = .ok (.iload_n 1, 1) := by decide +kernel
theorem dX1_clear_115 : decode cX1_clear 115 = .ok (.iadd, 1) := by decide +kernel
theorem dX1_clear_116 : decode cX1_clear 116 = .ok (.laload, 1) := by decide +kernel
theorem dX1_clear_117 : decode cX1_clear 117 = .ok (.lstore 5, 2) := by decide +kernel
theorem dX1_clear_119 : decode cX1_clear 119 = .ok (.iconst 0, 1) := by decide +kernel
theorem dX1_clear_120 : decode cX1_clear 120 = .ok (.istore 7, 2) := by decide +kernel
theorem dX1_clear_122 : decode cX1_clear 122 = .ok (.iload 7, 2) := by decide +kernel
theorem dX1_clear_124 : decode cX1_clear 124 = .ok (.bipush 20, 2) := by decide +kernel
theorem dX1_clear_126 : decode cX1_clear 126 = .ok (.if_icmp .ge 64, 3) := by decide +kernel
theorem dX1_clear_129 : decode cX1_clear 129 = .ok (.aload_n 0, 1) := by decide +kernel
theorem dX1_clear_130 : decode cX1_clear 130 = .ok (.getfield 16, 3) := by decide +kernel
theorem dX1_clear_133 : decode cX1_clear 133 = .ok (.bipush 20, 2) := by decide +kernel
theorem dX1_clear_135 : decode cX1_clear 135 = .ok (.iload 4, 2) := by decide +kernel
theorem dX1_clear_137 : decode cX1_clear 137 = .ok (.imul, 1) := by decide +kernel
theorem dX1_clear_138 : decode cX1_clear 138 = .ok (.iload 7, 2) := by decide +kernel
theorem dX1_clear_140 : decode cX1_clear 140 = .ok (.iadd, 1) := by decide +kernel
theorem dX1_clear_141 : decode cX1_clear 141 = .ok (.aload_n 0, 1) := by decide +kernel
theorem dX1_clear_142 : decode cX1_clear 142 = .ok (.getfield 16, 3) := by decide +kernel
theorem dX1_clear_145 : decode cX1_clear 145 = .ok (.bipush 20, 2) := by decide +kernel
theorem dX1_clear_147 : decode cX1_clear 147 = .ok (.iload 4, 2) := by decide +kernel
theorem dX1_clear_149 : decode cX1_clear 149 = .ok (.imul, 1) := by decide +kernel
theorem dX1_clear_150 : decode cX1_clear 150 = .ok (.iload 7, 2) := by decide +kernel
theorem dX1_clear_152 : decode cX1_clear 152 = .ok (.iadd, 1) := by decide +kernel
theorem dX1_clear_153 : decode cX1_clear 153 = .ok (.laload, 1) := by decide +kernel
theorem dX1_clear_154 : decode cX1_clear 154 = .ok (.aload_n 0, 1) := by decide +kernel
theorem dX1_clear_155 : decode cX1_clear 155 = .ok (.getfield 26, 3) := by decide +kernel
theorem dX1_clear_158 : decode cX1_clear 158 = .ok (.lload 5, 2) := by decide +kernel
theorem dX1_clear_160 : decode cX1_clear 160 = .ok (.lsub, 1) := by decide +kernel
theorem dX1_clear_161 : decode cX1_clear 161 = .ok (.aload_n 0, 1) := by decide +kernel
theorem dX1_clear_162 : decode cX1_clear 162 = .ok (.getfield 16, 3) := by decide +kernel
theorem dX1_clear_165 : decode cX1_clear 165 = .ok (.bipush 20, 2) := by decide +kernel
theorem dX1_clear_167 : decode cX1_clear 167 = .ok (.aload_n 0, 1) := by decide +kernel
theorem dX1_clear_168 : decode cX1_clear 168 = .ok (.getfield 57, 3) := by decide +kernel
theorem dX1_clear_171 : decode cX1_clear 171 = .ok (.imul, 1) := by decide +kernel
theorem dX1_clear_172 : decode cX1_clear 172 = .ok (.iload 7, 2) := by decide +kernel
theorem dX1_clear_174 : decode cX1_clear 174 = .ok (.iadd, 1) := by decide +kernel
theorem dX1_clear_175 : decode cX1_clear 175 = .ok (.laload, 1) := by decide +kernel
theorem dX1_clear_176 : decode cX1_clear 176 = .ok (.lmul, 1) := by decide +kernel
theorem dX1_clear_177 : decode cX1_clear 177 = .ok (.ladd, 1) := by decide +kernel
theorem dX1_clear_178 : decode cX1_clear 178 = .ok (.aload_n 0, 1) := by decide +kernel
theorem dX1_clear_179 : decode cX1_clear 179 = .ok (.getfield 26, 3) := by decide +kernel
theorem dX1_clear_182 : decode cX1_clear 182 = .ok (.lrem, 1) := by decide +kernel
theorem dX1_clear_183 : decode cX1_clear 183 = .ok (.lastore, 1) := by decide +kernel
theorem dX1_clear_184 : decode cX1_clear 184 = .ok (.iinc 7 1, 3) := by decide +kernel
theorem dX1_clear_187 : decode cX1_clear 187 = .ok (.goto (-65), 3) := by decide +kernel
theorem dX1_clear_190 : decode cX1_clear 190 = .ok (.iinc 4 1, 3) := by decide +kernel
theorem dX1_clear_193 : decode cX1_clear 193 = .ok (.goto (-110), 3) := by decide +kernel
theorem dX1_clear_196 : decode cX1_clear 196 = .ok (.return_, 1) := by decide +kernel
set_option maxRecDepth 20000 in
theorem ggX1_reduce_X1_firstWith : GoodIn wsX1_reduce wsX1_firstWith := goodIn_r _ [14, 7, 3, 4, 29, 30, 31, 32, 33, 34, 35, 36, 37, 38, 39, 40] (by decide +kernel) (by decide +kernel)
set_option maxRecDepth 20000 in
theorem gX1_reduce_X1_firstWith : GoodIn wsX1_reduce (wsV RX1 64 RX1 yX1_firstWith wsX1_firstWith) := goodIn_app (goodIn_of _ (by decide +kernel)) ggX1_reduce_X1_firstWith
set_option maxRecDepth 20000 in
theorem ggX1_reduce_X1_swap : GoodIn wsX1_reduce wsX1_swap := goodIn_r _ [18, 4, 29, 30, 31, 32, 33, 34, 35, 36, 37, 38, 39, 40] (by decide +kernel) (by decide +kernel)
set_option maxRecDepth 20000 in
theorem gX1_reduce_X1_swap : GoodIn wsX1_reduce (wsV RX1 68 RX1 yX1_swap wsX1_swap) := goodIn_app (goodIn_of _ (by decide +kernel)) ggX1_reduce_X1_swap
set_option maxRecDepth 20000 in
theorem ggX1_reduce_X1_clear : GoodIn wsX1_reduce wsX1_clear := goodIn_r _ [22, 4, 7, 23, 24, 3, 25, 26, 27, 13, 28, 29, 30, 31, 32, 33, 34, 35, 36, 37, 38, 39, 40] (by decide +kernel) (by decide +kernel)
set_option maxRecDepth 20000 in
theorem gX1_reduce_X1_clear : GoodIn wsX1_reduce (wsV RX1 72 RX1 yX1_clear wsX1_clear) := goodIn_app (goodIn_of _ (by decide +kernel)) ggX1_reduce_X1_clear
theorem dX1_reduce_0 : decode cX1_reduce 0 = .ok (.aload_n 0, 1) := by decide +kernel
theorem dX1_reduce_1 : decode cX1_reduce 1 = .ok (.iconst 0, 1) := by decide +kernel
theorem dX1_reduce_2 : decode cX1_reduce 2 = .ok (.putfield 45, 3) := by decide +kernel
theorem dX1_reduce_5 : decode cX1_reduce 5 = .ok (.aload_n 0, 1) := by decide +kernel
theorem dX1_reduce_6 : decode cX1_reduce 6 = .ok (.getfield 41, 3) := by decide +kernel
theorem dX1_reduce_9 : decode cX1_reduce 9 = .ok (.ifCond .ne 5, 3) := by decide +kernel
theorem dX1_reduce_12 : decode cX1_reduce 12 = .ok (.iconst (-1), 1) := by decide +kernel
theorem dX1_reduce_13 : decode cX1_reduce 13 = .ok (.ireturn, 1) := by decide +kernel
theorem dX1_reduce_14 : decode cX1_reduce 14 = .ok (.iconst 0, 1) := by decide +kernel
theorem dX1_reduce_15 : decode cX1_reduce 15 = .ok (.istore_n 1, 1) := by decide +kernel
theorem dX1_reduce_16 : decode cX1_reduce 16 = .ok (.iload_n 1, 1) := by decide +kernel
theorem dX1_reduce_17 : decode cX1_reduce 17 = .ok (.aload_n 0, 1) := by decide +kernel
theorem dX1_reduce_18 : decode cX1_reduce 18 = .ok (.getfield 30, 3) := by decide +kernel
theorem dX1_reduce_21 : decode cX1_reduce 21 = .ok (.if_icmp .ge 81, 3) := by decide +kernel
theorem dX1_reduce_24 : decode cX1_reduce 24 = .ok (.iconst 0, 1) := by decide +kernel
theorem dX1_reduce_25 : decode cX1_reduce 25 = .ok (.istore_n 2, 1) := by decide +kernel
theorem dX1_reduce_26 : decode cX1_reduce 26 = .ok (.iload_n 2, 1) := by decide +kernel
theorem dX1_reduce_27 : decode cX1_reduce 27 = .ok (.bipush 10, 2) := by decide +kernel
theorem dX1_reduce_29 : decode cX1_reduce 29 = .ok (.if_icmp .ge 67, 3) := by decide +kernel
theorem dX1_reduce_32 : decode cX1_reduce 32 = .ok (.aload_n 0, 1) := by decide +kernel
theorem dX1_reduce_33 : decode cX1_reduce 33 = .ok (.getfield 16, 3) := by decide +kernel
theorem dX1_reduce_36 : decode cX1_reduce 36 = .ok (.bipush 20, 2) := by decide +kernel
theorem dX1_reduce_38 : decode cX1_reduce 38 = .ok (.iload_n 1, 1) := by decide +kernel
theorem dX1_reduce_39 : decode cX1_reduce 39 = .ok (.imul, 1) := by decide +kernel
theorem dX1_reduce_40 : decode cX1_reduce 40 = .ok (.iload_n 2, 1) := by decide +kernel
theorem dX1_reduce_41 : decode cX1_reduce 41 = .ok (.iadd, 1) := by decide +kernel
theorem dX1_reduce_42 : decode cX1_reduce 42 = .ok (.iload_n 2, 1) := by decide +kernel
theorem dX1_reduce_43 : decode cX1_reduce 43 = .ok (.aload_n 0, 1) := by decide +kernel
theorem dX1_reduce_44 : decode cX1_reduce 44 = .ok (.getfield 34, 3) := by decide +kernel
theorem dX1_reduce_47 : decode cX1_reduce 47 = .ok (.if_icmp .ge 17, 3) := by decide +kernel
theorem dX1_reduce_50 : decode cX1_reduce 50 = .ok (.aload_n 0, 1) := by decide +kernel
theorem dX1_reduce_51 : decode cX1_reduce 51 = .ok (.getfield 7, 3) := by decide +kernel
theorem dX1_reduce_54 : decode cX1_reduce 54 = .ok (.bipush 10, 2) := by decide +kernel
theorem dX1_reduce_56 : decode cX1_reduce 56 = .ok (.iload_n 1, 1) := by decide +kernel
theorem dX1_reduce_57 : decode cX1_reduce 57 = .ok (.imul, 1) := by decide +kernel
theorem dX1_reduce_58 : decode cX1_reduce 58 = .ok (.iload_n 2, 1) := by decide +kernel
theorem dX1_reduce_59 : decode cX1_reduce 59 = .ok (.iadd, 1) := by decide +kernel
theorem dX1_reduce_60 : decode cX1_reduce 60 = .ok (.laload, 1) := by decide +kernel
theorem dX1_reduce_61 : decode cX1_reduce 61 = .ok (.goto 4, 3) := by decide +kernel
theorem dX1_reduce_64 : decode cX1_reduce 64 = .ok (.lconst 0, 1) := by decide +kernel
theorem dX1_reduce_65 : decode cX1_reduce 65 = .ok (.lastore, 1) := by decide +kernel
theorem dX1_reduce_66 : decode cX1_reduce 66 = .ok (.aload_n 0, 1) := by decide +kernel
theorem dX1_reduce_67 : decode cX1_reduce 67 = .ok (.getfield 16, 3) := by decide +kernel
theorem dX1_reduce_70 : decode cX1_reduce 70 = .ok (.bipush 20, 2) := by decide +kernel
theorem dX1_reduce_72 : decode cX1_reduce 72 = .ok (.iload_n 1, 1) := by decide +kernel
theorem dX1_reduce_73 : decode cX1_reduce 73 = .ok (.imul, 1) := by decide +kernel
theorem dX1_reduce_74 : decode cX1_reduce 74 = .ok (.bipush 10, 2) := by decide +kernel
theorem dX1_reduce_76 : decode cX1_reduce 76 = .ok (.iadd, 1) := by decide +kernel
theorem dX1_reduce_77 : decode cX1_reduce 77 = .ok (.iload_n 2, 1) := by decide +kernel
theorem dX1_reduce_78 : decode cX1_reduce 78 = .ok (.iadd, 1) := by decide +kernel
theorem dX1_reduce_79 : decode cX1_reduce 79 = .ok (.iload_n 1, 1) := by decide +kernel
theorem dX1_reduce_80 : decode cX1_reduce 80 = .ok (.iload_n 2, 1) := by decide +kernel
theorem dX1_reduce_81 : decode cX1_reduce 81 = .ok (.if_icmp .ne 7, 3) := by decide +kernel
theorem dX1_reduce_84 : decode cX1_reduce 84 = .ok (.lconst 1, 1) := by decide +kernel
theorem dX1_reduce_85 : decode cX1_reduce 85 = .ok (.goto 4, 3) := by decide +kernel
theorem dX1_reduce_88 : decode cX1_reduce 88 = .ok (.lconst 0, 1) := by decide +kernel
theorem dX1_reduce_89 : decode cX1_reduce 89 = .ok (.lastore, 1) := by decide +kernel
theorem dX1_reduce_90 : decode cX1_reduce 90 = .ok (.iinc 2 1, 3) := by decide +kernel
theorem dX1_reduce_93 : decode cX1_reduce 93 = .ok (.goto (-67), 3) := by decide +kernel
theorem dX1_reduce_96 : decode cX1_reduce 96 = .ok (.iinc 1 1, 3) := by decide +kernel
theorem dX1_reduce_99 : decode cX1_reduce 99 = .ok (.goto (-83), 3) := by decide +kernel
theorem dX1_reduce_102 : decode cX1_reduce 102 = .ok (.aload_n 0, 1) := by decide +kernel
theorem dX1_reduce_103 : decode cX1_reduce 103 = .ok (.iconst 0, 1) := by decide +kernel
theorem dX1_reduce_104 : decode cX1_reduce 104 = .ok (.putfield 57, 3) := by decide +kernel
theorem dX1_reduce_107 : decode cX1_reduce 107 = .ok (.iconst 0, 1) := by decide +kernel
theorem dX1_reduce_108 : decode cX1_reduce 108 = .ok (.istore_n 1, 1) := by decide +kernel
theorem dX1_reduce_109 : decode cX1_reduce 109 = .ok (.iload_n 1, 1) := by decide +kernel
theorem dX1_reduce_110 : decode cX1_reduce 110 = .ok (.aload_n 0, 1) := by decide +kernel
theorem dX1_reduce_111 : decode cX1_reduce 111 = .ok (.getfield 34, 3) := by decide +kernel
theorem dX1_reduce_114 : decode cX1_reduce 114 = .ok (.if_icmp .ge 68, 3) := by decide +kernel
theorem dX1_reduce_117 : decode cX1_reduce 117 = .ok (.aload_n 0, 1) := by decide +kernel
theorem dX1_reduce_118 : decode cX1_reduce 118 = .ok (.getfield 57, 3) := by decide +kernel
theorem dX1_reduce_121 : decode cX1_reduce 121 = .ok (.aload_n 0, 1) := by decide +kernel
theorem dX1_reduce_122 : decode cX1_reduce 122 = .ok (.getfield 30, 3) := by decide +kernel
theorem dX1_reduce_125 : decode cX1_reduce 125 = .ok (.if_icmp .ge 57, 3) := by decide +kernel
theorem dX1_reduce_128 : decode cX1_reduce 128 = .ok (.aload_n 0, 1) := by decide +kernel
theorem dX1_reduce_129 : decode cX1_reduce 129 = .ok (.iload_n 1, 1) := by decide +kernel
theorem dX1_reduce_130 : decode cX1_reduce 130 = .ok (.invokevirtual 64, 3) := by decide +kernel
theorem dX1_reduce_133 : decode cX1_reduce 133 = .ok (.istore_n 2, 1) := by decide +kernel
theorem dX1_reduce_134 : decode cX1_reduce 134 = .ok (.iload_n 2, 1) := by decide +kernel
theorem dX1_reduce_135 : decode cX1_reduce 135 = .ok (.aload_n 0, 1) := by decide +kernel
theorem dX1_reduce_136 : decode cX1_reduce 136 = .ok (.getfield 30, 3) := by decide +kernel
theorem dX1_reduce_139 : decode cX1_reduce 139 = .ok (.if_icmp .ge 37, 3) := by decide +kernel
theorem dX1_reduce_142 : decode cX1_reduce 142 = .ok (.aload_n 0, 1) := by decide +kernel
theorem dX1_reduce_143 : decode cX1_reduce 143 = .ok (.iload_n 2, 1) := by decide +kernel
theorem dX1_reduce_144 : decode cX1_reduce 144 = .ok (.aload_n 0, 1) := by decide +kernel
theorem dX1_reduce_145 : decode cX1_reduce 145 = .ok (.getfield 57, 3) := by decide +kernel
theorem dX1_reduce_148 : decode cX1_reduce 148 = .ok (.invokevirtual 68, 3) := by decide +kernel
theorem dX1_reduce_151 : decode cX1_reduce 151 = .ok (.aload_n 0, 1) := by decide +kernel
theorem dX1_reduce_152 : decode cX1_reduce 152 = .ok (.iload_n 1, 1) := by decide +kernel
theorem dX1_reduce_153 : decode cX1_reduce 153 = .ok (.invokevirtual 72, 3) := by decide +kernel
theorem dX1_reduce_156 : decode cX1_reduce 156 = .ok (.aload_n 0, 1) := by decide +kernel
theorem dX1_reduce_157 : decode cX1_reduce 157 = .ok (.getfield 19, 3) := by decide +kernel
theorem dX1_reduce_160 : decode cX1_reduce 160 = .ok (.aload_n 0, 1) := by decide +kernel
theorem dX1_reduce_161 : decode cX1_reduce 161 = .ok (.getfield 57, 3) := by decide +kernel
theorem dX1_reduce_164 : decode cX1_reduce 164 = .ok (.iload_n 1, 1) := by decide +kernel
theorem dX1_reduce_165 : decode cX1_reduce 165 = .ok (.iastore, 1) := by decide +kernel
theorem dX1_reduce_166 : decode cX1_reduce 166 = .ok (.aload_n 0, 1) := by decide +kernel
theorem dX1_reduce_167 : decode cX1_reduce 167 = .ok (.dup, 1) := by decide +kernel
theorem dX1_reduce_168 : decode cX1_reduce 168 = .ok (.getfield 57, 3) := by decide +kernel
theorem dX1_reduce_171 : decode cX1_reduce 171 = .ok (.iconst 1, 1) := by decide +kernel
theorem dX1_reduce_172 : decode cX1_reduce 172 = .ok (.iadd, 1) := by decide +kernel
theorem dX1_reduce_173 : decode cX1_reduce 173 = .ok (.putfield 57, 3) := by decide +kernel
theorem dX1_reduce_176 : decode cX1_reduce 176 = .ok (.iinc 1 1, 3) := by decide +kernel
theorem dX1_reduce_179 : decode cX1_reduce 179 = .ok (.goto (-70), 3) := by decide +kernel
theorem dX1_reduce_182 : decode cX1_reduce 182 = .ok (.aload_n 0, 1) := by decide +kernel
theorem dX1_reduce_183 : decode cX1_reduce 183 = .ok (.iconst 1, 1) := by decide +kernel
theorem dX1_reduce_184 : decode cX1_reduce 184 = .ok (.putfield 54, 3) := by decide +kernel
theorem dX1_reduce_187 : decode cX1_reduce 187 = .ok (.aload_n 0, 1) := by decide +kernel
theorem dX1_reduce_188 : decode cX1_reduce 188 = .ok (.getfield 57, 3) := by decide +kernel
theorem dX1_reduce_191 : decode cX1_reduce 191 = .ok (.ireturn, 1) := by decide +kernel
theorem dX1_rank_0 : decode cX1_rank 0 = .ok (.aload_n 0, 1) := by decide +kernel
theorem dX1_rank_1 : decode cX1_rank 1 = .ok (.iconst 0, 1) := by decide +kernel
theorem dX1_rank_2 : decode cX1_rank 2 = .ok (.putfield 45, 3) := by decide +kernel
theorem dX1_rank_5 : decode cX1_rank 5 = .ok (.aload_n 0, 1) := by decide +kernel
theorem dX1_rank_6 : decode cX1_rank 6 = .ok (.getfield 54, 3) := by decide +kernel
theorem dX1_rank_9 : decode cX1_rank 9 = .ok (.ifCond .eq 10, 3) := by decide +kernel
theorem dX1_rank_12 : decode cX1_rank 12 = .ok (.aload_n 0, 1) := by decide +kernel
theorem dX1_rank_13 : decode cX1_rank 13 = .ok (.getfield 57, 3) := by decide +kernel
theorem dX1_rank_16 : decode cX1_rank 16 = .ok (.goto 4, 3) := by decide +kernel
theorem dX1_rank_19 : decode cX1_rank 19 = .ok (.iconst (-1), 1) := by decide +kernel
theorem dX1_rank_20 : decode cX1_rank 20 = .ok (.ireturn, 1) := by decide +kernel
set_option maxRecDepth 20000 in
theorem ggX1_rrefAt_X1_isPlace : GoodIn wsX1_rrefAt wsX1_isPlace := goodIn_r _ [8, 9, 10, 11, 12, 13, 14, 15, 16, 17, 18, 19, 20, 21, 22, 23] (by decide +kernel) (by decide +kernel)
set_option maxRecDepth 20000 in
theorem gX1_rrefAt_X1_isPlace : GoodIn wsX1_rrefAt (wsV RX1 50 RX1 yX1_isPlace wsX1_isPlace) := goodIn_app (goodIn_of _ (by decide +kernel)) ggX1_rrefAt_X1_isPlace
theorem dX1_rrefAt_0 : decode cX1_rrefAt 0 = .ok (.aload_n 0, 1) := by decide +kernel
theorem dX1_rrefAt_1 : decode cX1_rrefAt 1 = .ok (.iconst 0, 1) := by decide +kernel
theorem dX1_rrefAt_2 : decode cX1_rrefAt 2 = .ok (.putfield 45, 3) := by decide +kernel
theorem dX1_rrefAt_5 : decode cX1_rrefAt 5 = .ok (.aload_n 0, 1) := by decide +kernel
theorem dX1_rrefAt_6 : decode cX1_rrefAt 6 = .ok (.getfield 54, 3) := by decide +kernel
theorem dX1_rrefAt_9 : decode cX1_rrefAt 9 = .ok (.ifCond .eq 27, 3) := by decide +kernel
theorem dX1_rrefAt_12 : decode cX1_rrefAt 12 = .ok (.aload_n 0, 1) := by decide +kernel
theorem dX1_rrefAt_13 : decode cX1_rrefAt 13 = .ok (.iload_n 1, 1) := by decide +kernel
theorem dX1_rrefAt_14 : decode cX1_rrefAt 14 = .ok (.iload_n 2, 1) := by decide +kernel
theorem dX1_rrefAt_15 : decode cX1_rrefAt 15 = .ok (.invokevirtual 50, 3) := by decide +kernel
theorem dX1_rrefAt_18 : decode cX1_rrefAt 18 = .ok (.ifCond .eq 18, 3) := by decide +kernel
theorem dX1_rrefAt_21 : decode cX1_rrefAt 21 = .ok (.aload_n 0, 1) := by decide +kernel
theorem dX1_rrefAt_22 : decode cX1_rrefAt 22 = .ok (.getfield 16, 3) := by decide +kernel
theorem dX1_rrefAt_25 : decode cX1_rrefAt 25 = .ok (.bipush 20, 2) := by decide +kernel
theorem dX1_rrefAt_27 : decode cX1_rrefAt 27 = .ok (.iload_n 1, 1) := by decide +kernel
theorem dX1_rrefAt_28 : decode cX1_rrefAt 28 = .ok (.imul, 1) := by decide +kernel
theorem dX1_rrefAt_29 : decode cX1_rrefAt 29 = .ok (.iload_n 2, 1) := by decide +kernel
theorem dX1_rrefAt_30 : decode cX1_rrefAt 30 = .ok (.iadd, 1) := by decide +kernel
theorem dX1_rrefAt_31 : decode cX1_rrefAt 31 = .ok (.laload, 1) := by decide +kernel
theorem dX1_rrefAt_32 : decode cX1_rrefAt 32 = .ok (.l2i, 1) := by decide +kernel
theorem dX1_rrefAt_33 : decode cX1_rrefAt 33 = .ok (.goto 4, 3) := by decide +kernel
theorem dX1_rrefAt_36 : decode cX1_rrefAt 36 = .ok (.iconst (-1), 1) := by decide +kernel
theorem dX1_rrefAt_37 : decode cX1_rrefAt 37 = .ok (.ireturn, 1) := by decide +kernel
theorem dX1_isSquare_0 : decode cX1_isSquare 0 = .ok (.aload_n 0, 1) := by decide +kernel
theorem dX1_isSquare_1 : decode cX1_isSquare 1 = .ok (.getfield 41, 3) := by decide +kernel
theorem dX1_isSquare_4 : decode cX1_isSquare 4 = .ok (.ifCond .eq 31, 3) := by decide +kernel
theorem dX1_isSquare_7 : decode cX1_isSquare 7 = .ok (.iload_n 1, 1) := by decide +kernel
theorem dX1_isSquare_8 : decode cX1_isSquare 8 = .ok (.ifCond .lt 27, 3) := by decide +kernel
theorem dX1_isSquare_11 : decode cX1_isSquare 11 = .ok (.iload_n 1, 1) := by decide +kernel
theorem dX1_isSquare_12 : decode cX1_isSquare 12 = .ok (.aload_n 0, 1) := by decide +kernel
theorem dX1_isSquare_13 : decode cX1_isSquare 13 = .ok (.getfield 30, 3) := by decide +kernel
theorem dX1_isSquare_16 : decode cX1_isSquare 16 = .ok (.if_icmp .ge 19, 3) := by decide +kernel
theorem dX1_isSquare_19 : decode cX1_isSquare 19 = .ok (.iload_n 2, 1) := by decide +kernel
theorem dX1_isSquare_20 : decode cX1_isSquare 20 = .ok (.ifCond .lt 15, 3) := by decide +kernel
theorem dX1_isSquare_23 : decode cX1_isSquare 23 = .ok (.iload_n 2, 1) := by decide +kernel
theorem dX1_isSquare_24 : decode cX1_isSquare 24 = .ok (.aload_n 0, 1) := by decide +kernel
theorem dX1_isSquare_25 : decode cX1_isSquare 25 = .ok (.getfield 30, 3) := by decide +kernel
theorem dX1_isSquare_28 : decode cX1_isSquare 28 = .ok (.if_icmp .ge 7, 3) := by decide +kernel
theorem dX1_isSquare_31 : decode cX1_isSquare 31 = .ok (.iconst 1, 1) := by decide +kernel
theorem dX1_isSquare_32 : decode cX1_isSquare 32 = .ok (.goto 4, 3) := by decide +kernel
theorem dX1_isSquare_35 : decode cX1_isSquare 35 = .ok (.iconst 0, 1) := by decide +kernel
theorem dX1_isSquare_36 : decode cX1_isSquare 36 = .ok (.ireturn, 1) := by decide +kernel
set_option maxRecDepth 20000 in
theorem ggX1_transformAt_X1_isSquare : GoodIn wsX1_transformAt wsX1_isSquare := goodIn_r _ [8, 9, 10, 11, 12, 13, 14, 15, 16, 17, 18, 19, 20, 21, 22] (by decide +kernel) (by decide +kernel)
set_option maxRecDepth 20000 in
theorem gX1_transformAt_X1_isSquare : GoodIn wsX1_transformAt (wsV RX1 76 RX1 yX1_isSquare wsX1_isSquare) := goodIn_app (goodIn_of _ (by decide +kernel)) ggX1_transformAt_X1_isSquare
theorem dX1_transformAt_0 : decode cX1_transformAt 0 = .ok (.aload_n 0, 1) := by decide +kernel
theorem dX1_transformAt_1 : decode cX1_transformAt 1 = .ok (.iconst 0, 1) := by decide +kernel
theorem dX1_transformAt_2 : decode cX1_transformAt 2 = .ok (.putfield 45, 3) := by decide +kernel
theorem dX1_transformAt_5 : decode cX1_transformAt 5 = .ok (.aload_n 0, 1) := by decide +kernel
theorem dX1_transformAt_6 : decode cX1_transformAt 6 = .ok (.getfield 54, 3) := by decide +kernel
theorem dX1_transformAt_9 : decode cX1_transformAt 9 = .ok (.ifCond .eq 30, 3) := by decide +kernel
theorem dX1_transformAt_12 : decode cX1_transformAt 12 = .ok (.aload_n 0, 1) := by decide +kernel
theorem dX1_transformAt_13 : decode cX1_transformAt 13 = .ok (.iload_n 1, 1) := by decide +kernel
theorem dX1_transformAt_14 : decode cX1_transformAt 14 = .ok (.iload_n 2, 1) := by decide +kernel
theorem dX1_transformAt_15 : decode cX1_transformAt 15 = .ok (.invokevirtual 76, 3) := by decide +kernel
theorem dX1_transformAt_18 : decode cX1_transformAt 18 = .ok (.ifCond .eq 21, 3) := by decide +kernel
theorem dX1_transformAt_21 : decode cX1_transformAt 21 = .ok (.aload_n 0, 1) := by decide +kernel
theorem dX1_transformAt_22 : decode cX1_transformAt 22 = .ok (.getfield 16, 3) := by decide +kernel
theorem dX1_transformAt_25 : decode cX1_transformAt 25 = .ok (.bipush 20, 2) := by decide +kernel
theorem dX1_transformAt_27 : decode cX1_transformAt 27 = .ok (.iload_n 1, 1) := by decide +kernel
theorem dX1_transformAt_28 : decode cX1_transformAt 28 = .ok (.imul, 1) := by decide +kernel
theorem dX1_transformAt_29 : decode cX1_transformAt 29 = .ok (.bipush 10, 2) := by decide +kernel
theorem dX1_transformAt_31 : decode cX1_transformAt 31 = .ok (.iadd, 1) := by decide +kernel
theorem dX1_transformAt_32 : decode cX1_transformAt 32 = .ok (.iload_n 2, 1) := by decide +kernel
theorem dX1_transformAt_33 : decode cX1_transformAt 33 = .ok (.iadd, 1) := by decide +kernel
theorem dX1_transformAt_34 : decode cX1_transformAt 34 = .ok (.laload, 1) := by decide +kernel
theorem dX1_transformAt_35 : decode cX1_transformAt 35 = .ok (.l2i, 1) := by decide +kernel
theorem dX1_transformAt_36 : decode cX1_transformAt 36 = .ok (.goto 4, 3) := by decide +kernel
theorem dX1_transformAt_39 : decode cX1_transformAt 39 = .ok (.iconst (-1), 1) := by decide +kernel
theorem dX1_transformAt_40 : decode cX1_transformAt 40 = .ok (.ireturn, 1) := by decide +kernel
theorem dX1_det_0 : decode cX1_det 0 = .ok (.aload_n 0, 1) := by decide +kernel
theorem dX1_det_1 : decode cX1_det 1 = .ok (.iconst 0, 1) := by decide +kernel
theorem dX1_det_2 : decode cX1_det 2 = .ok (.putfield 45, 3) := by decide +kernel
theorem dX1_det_5 : decode cX1_det 5 = .ok (.aload_n 0, 1) := by decide +kernel
theorem dX1_det_6 : decode cX1_det 6 = .ok (.getfield 54, 3) := by decide +kernel
theorem dX1_det_9 : decode cX1_det 9 = .ok (.ifCond .eq 14, 3) := by decide +kernel
theorem dX1_det_12 : decode cX1_det 12 = .ok (.aload_n 0, 1) := by decide +kernel
theorem dX1_det_13 : decode cX1_det 13 = .ok (.getfield 30, 3) := by decide +kernel
theorem dX1_det_16 : decode cX1_det 16 = .ok (.aload_n 0, 1) := by decide +kernel
theorem dX1_det_17 : decode cX1_det 17 = .ok (.getfield 34, 3) := by decide +kernel
theorem dX1_det_20 : decode cX1_det 20 = .ok (.if_icmp .eq 5, 3) := by decide +kernel
theorem dX1_det_23 : decode cX1_det 23 = .ok (.iconst (-1), 1) := by decide +kernel
theorem dX1_det_24 : decode cX1_det 24 = .ok (.ireturn, 1) := by decide +kernel
theorem dX1_det_25 : decode cX1_det 25 = .ok (.aload_n 0, 1) := by decide +kernel
theorem dX1_det_26 : decode cX1_det 26 = .ok (.getfield 23, 3) := by decide +kernel
theorem dX1_det_29 : decode cX1_det 29 = .ok (.iconst 0, 1) := by decide +kernel
theorem dX1_det_30 : decode cX1_det 30 = .ok (.lconst 1, 1) := by decide +kernel
theorem dX1_det_31 : decode cX1_det 31 = .ok (.lastore, 1) := by decide +kernel
theorem dX1_det_32 : decode cX1_det 32 = .ok (.iconst 1, 1) := by decide +kernel
theorem dX1_det_33 : decode cX1_det 33 = .ok (.istore_n 1, 1) := by decide +kernel
theorem dX1_det_34 : decode cX1_det 34 = .ok (.iload_n 1, 1) := by decide +kernel
theorem dX1_det_35 : decode cX1_det 35 = .ok (.iconst 1, 1) := by decide +kernel
theorem dX1_det_36 : decode cX1_det 36 = .ok (.aload_n 0, 1) := by decide +kernel
theorem dX1_det_37 : decode cX1_det 37 = .ok (.getfield 34, 3) := by decide +kernel
theorem dX1_det_40 : decode cX1_det 40 = .ok (.ishl, 1) := by decide +kernel
theorem dX1_det_41 : decode cX1_det 41 = .ok (.if_icmp .ge 141, 3) := by decide +kernel
theorem dX1_det_44 : decode cX1_det 44 = .ok (.iconst 0, 1) := by decide +kernel
theorem dX1_det_45 : decode cX1_det 45 = .ok (.istore_n 2, 1) := by decide +kernel
theorem dX1_det_46 : decode cX1_det 46 = .ok (.iconst 0, 1) := by decide +kernel
theorem dX1_det_47 : decode cX1_det 47 = .ok (.istore_n 3, 1) := by decide +kernel
theorem dX1_det_48 : decode cX1_det 48 = .ok (.iload_n 3, 1) := by decide +kernel
theorem dX1_det_49 : decode cX1_det 49 = .ok (.aload_n 0, 1) := by decide +kernel
theorem dX1_det_50 : decode cX1_det 50 = .ok (.getfield 34, 3) := by decide +kernel
theorem dX1_det_53 : decode cX1_det 53 = .ok (.if_icmp .ge 17, 3) := by decide +kernel
theorem dX1_det_56 : decode cX1_det 56 = .ok (.iload_n 2, 1) := by decide +kernel
theorem dX1_det_57 : decode cX1_det 57 = .ok (.iload_n 1, 1) := by decide +kernel
theorem dX1_det_58 : decode cX1_det 58 = .ok (.iload_n 3, 1) := by decide +kernel
theorem dX1_det_59 : decode cX1_det 59 = .ok (.ishr, 1) := by decide +kernel
theorem dX1_det_60 : decode cX1_det 60 = .ok (.iconst 1, 1) := by decide +kernel
theorem dX1_det_61 : decode cX1_det 61 = .ok (.iand, 1) := by decide +kernel
theorem dX1_det_62 : decode cX1_det 62 = .ok (.iadd, 1) := by decide +kernel
theorem dX1_det_63 : decode cX1_det 63 = .ok (.istore_n 2, 1) := by decide +kernel
theorem dX1_det_64 : decode cX1_det 64 = .ok (.iinc 3 1, 3) := by decide +kernel
theorem dX1_det_67 : decode cX1_det 67 = .ok (.goto (-19), 3) := by decide +kernel
theorem dX1_det_70 : decode cX1_det 70 = .ok (.lconst 0, 1) := by decide +kernel
theorem dX1_det_71 : decode cX1_det 71 = .ok (.lstore_n 3, 1) := by decide +kernel
theorem dX1_det_72 : decode cX1_det 72 = .ok (.iconst 0, 1) := by decide +kernel
theorem dX1_det_73 : decode cX1_det 73 = .ok (.istore 5, 2) := by decide +kernel
theorem dX1_det_75 : decode cX1_det 75 = .ok (.aload_n 0, 1) := by decide +kernel
theorem dX1_det_76 : decode cX1_det 76 = .ok (.getfield 34, 3) := by decide +kernel
theorem dX1_det_79 : decode cX1_det 79 = .ok (.iconst 1, 1) := by decide +kernel
theorem dX1_det_80 : decode cX1_det 80 = .ok (.isub, 1) := by decide +kernel
theorem dX1_det_81 : decode cX1_det 81 = .ok (.istore 6, 2) := by decide +kernel
theorem dX1_det_83 : decode cX1_det 83 = .ok (.iload 6, 2) := by decide +kernel
theorem dX1_det_85 : decode cX1_det 85 = .ok (.ifCond .lt 84, 3) := by decide +kernel
theorem dX1_det_88 : decode cX1_det 88 = .ok (.iload_n 1, 1) := by decide +kernel
theorem dX1_det_89 : decode cX1_det 89 = .ok (.iload 6, 2) := by decide +kernel
theorem dX1_det_91 : decode cX1_det 91 = .ok (.ishr, 1) := by decide +kernel
theorem dX1_det_92 : decode cX1_det 92 = .ok (.iconst 1, 1) := by decide +kernel
theorem dX1_det_93 : decode cX1_det 93 = .ok (.iand, 1) := by decide +kernel
theorem dX1_det_94 : decode cX1_det 94 = .ok (.iconst 1, 1) := by decide +kernel
theorem dX1_det_95 : decode cX1_det 95 = .ok (.if_icmp .ne 68, 3) := by decide +kernel
theorem dX1_det_98 : decode cX1_det 98 = .ok (.aload_n 0, 1) := by decide +kernel
theorem dX1_det_99 : decode cX1_det 99 = .ok (.getfield 7, 3) := by decide +kernel
theorem dX1_det_102 : decode cX1_det 102 = .ok (.bipush 10, 2) := by decide +kernel
theorem dX1_det_104 : decode cX1_det 104 = .ok (.iload_n 2, 1) := by decide +kernel
theorem dX1_det_105 : decode cX1_det 105 = .ok (.iconst 1, 1) := by decide +kernel
theorem dX1_det_106 : decode cX1_det 106 = .ok (.isub, 1) := by decide +kernel
theorem dX1_det_107 : decode cX1_det 107 = .ok (.imul, 1) := by decide +kernel
theorem dX1_det_108 : decode cX1_det 108 = .ok (.iload 6, 2) := by decide +kernel
theorem dX1_det_110 : decode cX1_det 110 = .ok (.iadd, 1) := by decide +kernel
theorem dX1_det_111 : decode cX1_det 111 = .ok (.laload, 1) := by decide +kernel
theorem dX1_det_112 : decode cX1_det 112 = .ok (.aload_n 0, 1) := by decide +kernel
theorem dX1_det_113 : decode cX1_det 113 = .ok (.getfield 23, 3) := by decide +kernel
theorem dX1_det_116 : decode cX1_det 116 = .ok (.iload_n 1, 1) := by decide +kernel
theorem dX1_det_117 : decode cX1_det 117 = .ok (.iconst 1, 1) := by decide +kernel
theorem dX1_det_118 : decode cX1_det 118 = .ok (.iload 6, 2) := by decide +kernel
theorem dX1_det_120 : decode cX1_det 120 = .ok (.ishl, 1) := by decide +kernel
theorem dX1_det_121 : decode cX1_det 121 = .ok (.ixor, 1) := by decide +kernel
theorem dX1_det_122 : decode cX1_det 122 = .ok (.laload, 1) := by decide +kernel
theorem dX1_det_123 : decode cX1_det 123 = .ok (.lmul, 1) := by decide +kernel
theorem dX1_det_124 : decode cX1_det 124 = .ok (.aload_n 0, 1) := by decide +kernel
theorem dX1_det_125 : decode cX1_det 125 = .ok (.getfield 26, 3) := by decide +kernel
theorem dX1_det_128 : decode cX1_det 128 = .ok (.lrem, 1) := by decide +kernel
theorem dX1_det_129 : decode cX1_det 129 = .ok (.lstore 7, 2) := by decide +kernel
theorem dX1_det_131 : decode cX1_det 131 = .ok (.iload 5, 2) := by decide +kernel
theorem dX1_det_133 : decode cX1_det 133 = .ok (.iconst 2, 1) := by decide +kernel
theorem dX1_det_134 : decode cX1_det 134 = .ok (.irem, 1) := by decide +kernel
theorem dX1_det_135 : decode cX1_det 135 = .ok (.ifCond .ne 10, 3) := by decide +kernel
theorem dX1_det_138 : decode cX1_det 138 = .ok (.lload_n 3, 1) := by decide +kernel
theorem dX1_det_139 : decode cX1_det 139 = .ok (.lload 7, 2) := by decide +kernel
theorem dX1_det_141 : decode cX1_det 141 = .ok (.ladd, 1) := by decide +kernel
theorem dX1_det_142 : decode cX1_det 142 = .ok (.goto 12, 3) := by decide +kernel
theorem dX1_det_145 : decode cX1_det 145 = .ok (.lload_n 3, 1) := by decide +kernel
theorem dX1_det_146 : decode cX1_det 146 = .ok (.aload_n 0, 1) := by decide +kernel
theorem dX1_det_147 : decode cX1_det 147 = .ok (.getfield 26, 3) := by decide +kernel
theorem dX1_det_150 : decode cX1_det 150 = .ok (.ladd, 1) := by decide +kernel
theorem dX1_det_151 : decode cX1_det 151 = .ok (.lload 7, 2) := by decide +kernel
theorem dX1_det_153 : decode cX1_det 153 = .ok (.lsub, 1) := by decide +kernel
theorem dX1_det_154 : decode cX1_det 154 = .ok (.aload_n 0, 1) := by decide +kernel
theorem dX1_det_155 : decode cX1_det 155 = .ok (.getfield 26, 3) := by decide +kernel
theorem dX1_det_158 : decode cX1_det 158 = .ok (.lrem, 1) := by decide +kernel
theorem dX1_det_159 : decode cX1_det 159 = .ok (.lstore_n 3, 1) := by decide +kernel
theorem dX1_det_160 : decode cX1_det 160 = .ok (.iinc 5 1, 3) := by decide +kernel
theorem dX1_det_163 : decode cX1_det 163 = .ok (.iinc 6 (-1), 3) := by decide +kernel
theorem dX1_det_166 : decode cX1_det 166 = .ok (.goto (-83), 3) := by decide +kernel
theorem dX1_det_169 : decode cX1_det 169 = .ok (.aload_n 0, 1) := by decide +kernel
theorem dX1_det_170 : decode cX1_det 170 = .ok (.getfield 23, 3) := by decide +kernel
theorem dX1_det_173 : decode cX1_det 173 = .ok (.iload_n 1, 1) := by decide +kernel
theorem dX1_det_174 : decode cX1_det 174 = .ok (.lload_n 3, 1) := by decide +kernel
theorem dX1_det_175 : decode cX1_det 175 = .ok (.lastore, 1) := by decide +kernel
theorem dX1_det_176 : decode cX1_det 176 = .ok (.iinc 1 1, 3) := by decide +kernel
theorem dX1_det_179 : decode cX1_det 179 = .ok (.goto (-145), 3) := by decide +kernel
theorem dX1_det_182 : decode cX1_det 182 = .ok (.aload_n 0, 1) := by decide +kernel
theorem dX1_det_183 : decode cX1_det 183 = .ok (.getfield 23, 3) := by decide +kernel
theorem dX1_det_186 : decode cX1_det 186 = .ok (.iconst 1, 1) := by decide +kernel
theorem dX1_det_187 : decode cX1_det 187 = .ok (.aload_n 0, 1) := by decide +kernel
theorem dX1_det_188 : decode cX1_det 188 = .ok (.getfield 34, 3) := by decide +kernel
theorem dX1_det_191 : decode cX1_det 191 = .ok (.ishl, 1) := by decide +kernel
theorem dX1_det_192 : decode cX1_det 192 = .ok (.iconst 1, 1) := by decide +kernel
theorem dX1_det_193 : decode cX1_det 193 = .ok (.isub, 1) := by decide +kernel
theorem dX1_det_194 : decode cX1_det 194 = .ok (.laload, 1) := by decide +kernel
theorem dX1_det_195 : decode cX1_det 195 = .ok (.aload_n 0, 1) := by decide +kernel
theorem dX1_det_196 : decode cX1_det 196 = .ok (.getfield 26, 3) := by decide +kernel
theorem dX1_det_199 : decode cX1_det 199 = .ok (.lrem, 1) := by decide +kernel
theorem dX1_det_200 : decode cX1_det 200 = .ok (.l2i, 1) := by decide +kernel
theorem dX1_det_201 : decode cX1_det 201 = .ok (.ireturn, 1) := by decide +kernel
set_option maxRecDepth 20000 in
theorem ggX1_inverseAt_X1_isSquare : GoodIn wsX1_inverseAt wsX1_isSquare := goodIn_r _ [11, 12, 3, 13, 14, 15, 16, 17, 18, 19, 20, 21, 22, 23, 24] (by decide +kernel) (by decide +kernel)
set_option maxRecDepth 20000 in
theorem gX1_inverseAt_X1_isSquare : GoodIn wsX1_inverseAt (wsV RX1 76 RX1 yX1_isSquare wsX1_isSquare) := goodIn_app (goodIn_of _ (by decide +kernel)) ggX1_inverseAt_X1_isSquare
theorem dX1_inverseAt_0 : decode cX1_inverseAt 0 = .ok (.aload_n 0, 1) := by decide +kernel
theorem dX1_inverseAt_1 : decode cX1_inverseAt 1 = .ok (.iconst 0, 1) := by decide +kernel
theorem dX1_inverseAt_2 : decode cX1_inverseAt 2 = .ok (.putfield 45, 3) := by decide +kernel
theorem dX1_inverseAt_5 : decode cX1_inverseAt 5 = .ok (.aload_n 0, 1) := by decide +kernel
theorem dX1_inverseAt_6 : decode cX1_inverseAt 6 = .ok (.getfield 54, 3) := by decide +kernel
theorem dX1_inverseAt_9 : decode cX1_inverseAt 9 = .ok (.ifCond .eq 52, 3) := by decide +kernel
theorem dX1_inverseAt_12 : decode cX1_inverseAt 12 = .ok (.aload_n 0, 1) := by decide +kernel
theorem dX1_inverseAt_13 : decode cX1_inverseAt 13 = .ok (.getfield 30, 3) := by decide +kernel
theorem dX1_inverseAt_16 : decode cX1_inverseAt 16 = .ok (.aload_n 0, 1) := by decide +kernel
theorem dX1_inverseAt_17 : decode cX1_inverseAt 17 = .ok (.getfield 34, 3) := by decide +kernel
theorem dX1_inverseAt_20 : decode cX1_inverseAt 20 = .ok (.if_icmp .ne 41, 3) := by decide +kernel
theorem dX1_inverseAt_23 : decode cX1_inverseAt 23 = .ok (.aload_n 0, 1) := by decide +kernel
theorem dX1_inverseAt_24 : decode cX1_inverseAt 24 = .ok (.getfield 57, 3) := by decide +kernel
theorem dX1_inverseAt_27 : decode cX1_inverseAt 27 = .ok (.aload_n 0, 1) := by decide +kernel
theorem dX1_inverseAt_28 : decode cX1_inverseAt 28 = .ok (.getfield 34, 3) := by decide +kernel
theorem dX1_inverseAt_31 : decode cX1_inverseAt 31 = .ok (.if_icmp .ne 30, 3) := by decide +kernel
theorem dX1_inverseAt_34 : decode cX1_inverseAt 34 = .ok (.aload_n 0, 1) := by decide +kernel
theorem dX1_inverseAt_35 : decode cX1_inverseAt 35 = .ok (.iload_n 1, 1) := by decide +kernel
theorem dX1_inverseAt_36 : decode cX1_inverseAt 36 = .ok (.iload_n 2, 1) := by decide +kernel
theorem dX1_inverseAt_37 : decode cX1_inverseAt 37 = .ok (.invokevirtual 76, 3) := by decide +kernel
theorem dX1_inverseAt_40 : decode cX1_inverseAt 40 = .ok (.ifCond .eq 21, 3) := by decide +kernel
theorem dX1_inverseAt_43 : decode cX1_inverseAt 43 = .ok (.aload_n 0, 1) := by decide +kernel
theorem dX1_inverseAt_44 : decode cX1_inverseAt 44 = .ok (.getfield 16, 3) := by decide +kernel
theorem dX1_inverseAt_47 : decode cX1_inverseAt 47 = .ok (.bipush 20, 2) := by decide +kernel
theorem dX1_inverseAt_49 : decode cX1_inverseAt 49 = .ok (.iload_n 1, 1) := by decide +kernel
theorem dX1_inverseAt_50 : decode cX1_inverseAt 50 = .ok (.imul, 1) := by decide +kernel
theorem dX1_inverseAt_51 : decode cX1_inverseAt 51 = .ok (.bipush 10, 2) := by decide +kernel
theorem dX1_inverseAt_53 : decode cX1_inverseAt 53 = .ok (.iadd, 1) := by decide +kernel
theorem dX1_inverseAt_54 : decode cX1_inverseAt 54 = .ok (.iload_n 2, 1) := by decide +kernel
theorem dX1_inverseAt_55 : decode cX1_inverseAt 55 = .ok (.iadd, 1) := by decide +kernel
theorem dX1_inverseAt_56 : decode cX1_inverseAt 56 = .ok (.laload, 1) := by decide +kernel
theorem dX1_inverseAt_57 : decode cX1_inverseAt 57 = .ok (.l2i, 1) := by decide +kernel
theorem dX1_inverseAt_58 : decode cX1_inverseAt 58 = .ok (.goto 4, 3) := by decide +kernel
theorem dX1_inverseAt_61 : decode cX1_inverseAt 61 = .ok (.iconst (-1), 1) := by decide +kernel
theorem dX1_inverseAt_62 : decode cX1_inverseAt 62 = .ok (.ireturn, 1) := by decide +kernel
theorem dX1_changed_0 : decode cX1_changed 0 = .ok (.lconst 0, 1) := by decide +kernel
theorem dX1_changed_1 : decode cX1_changed 1 = .ok (.lstore_n 2, 1) := by decide +kernel
theorem dX1_changed_2 : decode cX1_changed 2 = .ok (.iconst 0, 1) := by decide +kernel
theorem dX1_changed_3 : decode cX1_changed 3 = .ok (.istore 4, 2) := by decide +kernel
theorem dX1_changed_5 : decode cX1_changed 5 = .ok (.iload 4, 2) := by decide +kernel
theorem dX1_changed_7 : decode cX1_changed 7 = .ok (.aload_n 0, 1) := by decide +kernel
theorem dX1_changed_8 : decode cX1_changed 8 = .ok (.getfield 30, 3) := by decide +kernel
theorem dX1_changed_11 : decode cX1_changed 11 = .ok (.if_icmp .ge 40, 3) := by decide +kernel
theorem dX1_changed_14 : decode cX1_changed 14 = .ok (.lload_n 2, 1) := by decide +kernel
theorem dX1_changed_15 : decode cX1_changed 15 = .ok (.aload_n 0, 1) := by decide +kernel
theorem dX1_changed_16 : decode cX1_changed 16 = .ok (.getfield 16, 3) := by decide +kernel
theorem dX1_changed_19 : decode cX1_changed 19 = .ok (.bipush 20, 2) := by decide +kernel
theorem dX1_changed_21 : decode cX1_changed 21 = .ok (.iload_n 1, 1) := by decide +kernel
theorem dX1_changed_22 : decode cX1_changed 22 = .ok (.imul, 1) := by decide +kernel
theorem dX1_changed_23 : decode cX1_changed 23 = .ok (.bipush 10, 2) := by decide +kernel
theorem dX1_changed_25 : decode cX1_changed 25 = .ok (.iadd, 1) := by decide +kernel
theorem dX1_changed_26 : decode cX1_changed 26 = .ok (.iload 4, 2) := by decide +kernel
theorem dX1_changed_28 : decode cX1_changed 28 = .ok (.iadd, 1) := by decide +kernel
theorem dX1_changed_29 : decode cX1_changed 29 = .ok (.laload, 1) := by decide +kernel
theorem dX1_changed_30 : decode cX1_changed 30 = .ok (.aload_n 0, 1) := by decide +kernel
theorem dX1_changed_31 : decode cX1_changed 31 = .ok (.getfield 13, 3) := by decide +kernel
theorem dX1_changed_34 : decode cX1_changed 34 = .ok (.iload 4, 2) := by decide +kernel
theorem dX1_changed_36 : decode cX1_changed 36 = .ok (.laload, 1) := by decide +kernel
theorem dX1_changed_37 : decode cX1_changed 37 = .ok (.lmul, 1) := by decide +kernel
theorem dX1_changed_38 : decode cX1_changed 38 = .ok (.ladd, 1) := by decide +kernel
theorem dX1_changed_39 : decode cX1_changed 39 = .ok (.aload_n 0, 1) := by decide +kernel
theorem dX1_changed_40 : decode cX1_changed 40 = .ok (.getfield 26, 3) := by decide +kernel
theorem dX1_changed_43 : decode cX1_changed 43 = .ok (.lrem, 1) := by decide +kernel
theorem dX1_changed_44 : decode cX1_changed 44 = .ok (.lstore_n 2, 1) := by decide +kernel
theorem dX1_changed_45 : decode cX1_changed 45 = .ok (.iinc 4 1, 3) := by decide +kernel
theorem dX1_changed_48 : decode cX1_changed 48 = .ok (.goto (-43), 3) := by decide +kernel
theorem dX1_changed_51 : decode cX1_changed 51 = .ok (.lload_n 2, 1) := by decide +kernel
theorem dX1_changed_52 : decode cX1_changed 52 = .ok (.lreturn, 1) := by decide +kernel
set_option maxRecDepth 20000 in
theorem ggX1_isSolvable_X1_changed : GoodIn wsX1_isSolvable wsX1_changed := goodIn_r _ [8, 3, 9, 10, 11, 12, 13, 14, 15, 16, 17, 18, 19, 20, 21, 22, 23] (by decide +kernel) (by decide +kernel)
set_option maxRecDepth 20000 in
theorem gX1_isSolvable_X1_changed : GoodIn wsX1_isSolvable (wsV RX1 79 RX1 yX1_changed wsX1_changed) := goodIn_app (goodIn_of _ (by decide +kernel)) ggX1_isSolvable_X1_changed
theorem dX1_isSolvable_0 : decode cX1_isSolvable 0 = .ok (.aload_n 0, 1) := by decide +kernel
theorem dX1_isSolvable_1 : decode cX1_isSolvable 1 = .ok (.getfield 54, 3) := by decide +kernel
end
section
theorem dX1_isSolvable_4 : decode cX1_isSolvable 4 = .ok (.istore_n 1, 1) := by decide +kernel
theorem dX1_isSolvable_5 : decode cX1_isSolvable 5 = .ok (.aload_n 0, 1) := by decide +kernel
theorem dX1_isSolvable_6 : decode cX1_isSolvable 6 = .ok (.getfield 57, 3) := by decide +kernel
theorem dX1_isSolvable_9 : decode cX1_isSolvable 9 = .ok (.istore_n 2, 1) := by decide +kernel
theorem dX1_isSolvable_10 : decode cX1_isSolvable 10 = .ok (.iload_n 2, 1) := by decide +kernel
theorem dX1_isSolvable_11 : decode cX1_isSolvable 11 = .ok (.aload_n 0, 1) := by decide +kernel
theorem dX1_isSolvable_12 : decode cX1_isSolvable 12 = .ok (.getfield 30, 3) := by decide +kernel
theorem dX1_isSolvable_15 : decode cX1_isSolvable 15 = .ok (.if_icmp .ge 29, 3) := by decide +kernel
theorem dX1_isSolvable_18 : decode cX1_isSolvable 18 = .ok (.iload_n 1, 1) := by decide +kernel
theorem dX1_isSolvable_19 : decode cX1_isSolvable 19 = .ok (.ifCond .eq 25, 3) := by decide +kernel
theorem dX1_isSolvable_22 : decode cX1_isSolvable 22 = .ok (.aload_n 0, 1) := by decide +kernel
theorem dX1_isSolvable_23 : decode cX1_isSolvable 23 = .ok (.iload_n 2, 1) := by decide +kernel
theorem dX1_isSolvable_24 : decode cX1_isSolvable 24 = .ok (.invokevirtual 79, 3) := by decide +kernel
theorem dX1_isSolvable_27 : decode cX1_isSolvable 27 = .ok (.lconst 0, 1) := by decide +kernel
theorem dX1_isSolvable_28 : decode cX1_isSolvable 28 = .ok (.lcmp, 1) := by decide +kernel
theorem dX1_isSolvable_29 : decode cX1_isSolvable 29 = .ok (.ifCond .ne 7, 3) := by decide +kernel
theorem dX1_isSolvable_32 : decode cX1_isSolvable 32 = .ok (.iconst 1, 1) := by decide +kernel
theorem dX1_isSolvable_33 : decode cX1_isSolvable 33 = .ok (.goto 4, 3) := by decide +kernel
theorem dX1_isSolvable_36 : decode cX1_isSolvable 36 = .ok (.iconst 0, 1) := by decide +kernel
theorem dX1_isSolvable_37 : decode cX1_isSolvable 37 = .ok (.istore_n 1, 1) := by decide +kernel
theorem dX1_isSolvable_38 : decode cX1_isSolvable 38 = .ok (.iinc 2 1, 3) := by decide +kernel
theorem dX1_isSolvable_41 : decode cX1_isSolvable 41 = .ok (.goto (-31), 3) := by decide +kernel
theorem dX1_isSolvable_44 : decode cX1_isSolvable 44 = .ok (.iload_n 1, 1) := by decide +kernel
theorem dX1_isSolvable_45 : decode cX1_isSolvable 45 = .ok (.ireturn, 1) := by decide +kernel
set_option maxRecDepth 20000 in
theorem ggX1_solvable_X1_isSolvable : GoodIn wsX1_solvable wsX1_isSolvable := goodIn_r _ [6, 7, 8, 9, 10, 11, 12, 5, 13, 14, 15, 16, 17, 18, 19, 20, 21, 22, 23, 24, 25, 26, 27, 28] (by decide +kernel) (by decide +kernel)
set_option maxRecDepth 20000 in
theorem gX1_solvable_X1_isSolvable : GoodIn wsX1_solvable (wsV RX1 83 RX1 yX1_isSolvable wsX1_isSolvable) := goodIn_app (goodIn_of _ (by decide +kernel)) ggX1_solvable_X1_isSolvable
theorem dX1_solvable_0 : decode cX1_solvable 0 = .ok (.aload_n 0, 1) := by decide +kernel
theorem dX1_solvable_1 : decode cX1_solvable 1 = .ok (.iconst 0, 1) := by decide +kernel
theorem dX1_solvable_2 : decode cX1_solvable 2 = .ok (.putfield 45, 3) := by decide +kernel
theorem dX1_solvable_5 : decode cX1_solvable 5 = .ok (.aload_n 0, 1) := by decide +kernel
theorem dX1_solvable_6 : decode cX1_solvable 6 = .ok (.invokevirtual 83, 3) := by decide +kernel
theorem dX1_solvable_9 : decode cX1_solvable 9 = .ok (.ireturn, 1) := by decide +kernel
theorem dX1_rowOf_0 : decode cX1_rowOf 0 = .ok (.iconst (-1), 1) := by decide +kernel
theorem dX1_rowOf_1 : decode cX1_rowOf 1 = .ok (.istore_n 2, 1) := by decide +kernel
theorem dX1_rowOf_2 : decode cX1_rowOf 2 = .ok (.iconst 0, 1) := by decide +kernel
theorem dX1_rowOf_3 : decode cX1_rowOf 3 = .ok (.istore_n 3, 1) := by decide +kernel
theorem dX1_rowOf_4 : decode cX1_rowOf 4 = .ok (.iload_n 3, 1) := by decide +kernel
theorem dX1_rowOf_5 : decode cX1_rowOf 5 = .ok (.aload_n 0, 1) := by decide +kernel
theorem dX1_rowOf_6 : decode cX1_rowOf 6 = .ok (.getfield 57, 3) := by decide +kernel
theorem dX1_rowOf_9 : decode cX1_rowOf 9 = .ok (.if_icmp .ge 25, 3) := by decide +kernel
theorem dX1_rowOf_12 : decode cX1_rowOf 12 = .ok (.aload_n 0, 1) := by decide +kernel
theorem dX1_rowOf_13 : decode cX1_rowOf 13 = .ok (.getfield 19, 3) := by decide +kernel
theorem dX1_rowOf_16 : decode cX1_rowOf 16 = .ok (.iload_n 3, 1) := by decide +kernel
theorem dX1_rowOf_17 : decode cX1_rowOf 17 = .ok (.iaload, 1) := by decide +kernel
theorem dX1_rowOf_18 : decode cX1_rowOf 18 = .ok (.iload_n 1, 1) := by decide +kernel
theorem dX1_rowOf_19 : decode cX1_rowOf 19 = .ok (.if_icmp .ne 7, 3) := by decide +kernel
theorem dX1_rowOf_22 : decode cX1_rowOf 22 = .ok (.iload_n 3, 1) := by decide +kernel
theorem dX1_rowOf_23 : decode cX1_rowOf 23 = .ok (.goto 4, 3) := by decide +kernel
theorem dX1_rowOf_26 : decode cX1_rowOf 26 = .ok (.iload_n 2, 1) := by decide +kernel
theorem dX1_rowOf_27 : decode cX1_rowOf 27 = .ok (.istore_n 2, 1) := by decide +kernel
theorem dX1_rowOf_28 : decode cX1_rowOf 28 = .ok (.iinc 3 1, 3) := by decide +kernel
theorem dX1_rowOf_31 : decode cX1_rowOf 31 = .ok (.goto (-27), 3) := by decide +kernel
theorem dX1_rowOf_34 : decode cX1_rowOf 34 = .ok (.iload_n 2, 1) := by decide +kernel
theorem dX1_rowOf_35 : decode cX1_rowOf 35 = .ok (.ireturn, 1) := by decide +kernel
set_option maxRecDepth 20000 in
theorem ggX1_solution_X1_isSolvable : GoodIn wsX1_solution wsX1_isSolvable := goodIn_r _ [7, 8, 9, 10, 11, 12, 13, 6, 14, 15, 16, 17, 23, 24, 25, 26, 27, 28, 29, 30, 31, 32, 33, 34] (by decide +kernel) (by decide +kernel)
set_option maxRecDepth 20000 in
theorem gX1_solution_X1_isSolvable : GoodIn wsX1_solution (wsV RX1 83 RX1 yX1_isSolvable wsX1_isSolvable) := goodIn_app (goodIn_of _ (by decide +kernel)) ggX1_solution_X1_isSolvable
set_option maxRecDepth 20000 in
theorem ggX1_solution_X1_rowOf : GoodIn wsX1_solution wsX1_rowOf := goodIn_r _ [21, 9, 22, 23, 24, 25, 26, 27, 28, 29, 30, 31, 32, 33, 34] (by decide +kernel) (by decide +kernel)
set_option maxRecDepth 20000 in
theorem gX1_solution_X1_rowOf : GoodIn wsX1_solution (wsV RX1 87 RX1 yX1_rowOf wsX1_rowOf) := goodIn_app (goodIn_of _ (by decide +kernel)) ggX1_solution_X1_rowOf
set_option maxRecDepth 20000 in
theorem ggX1_solution_X1_changed : GoodIn wsX1_solution wsX1_changed := goodIn_r _ [14, 10, 15, 16, 17, 23, 24, 25, 26, 27, 28, 29, 30, 31, 32, 33, 34] (by decide +kernel) (by decide +kernel)
set_option maxRecDepth 20000 in
theorem gX1_solution_X1_changed : GoodIn wsX1_solution (wsV RX1 79 RX1 yX1_changed wsX1_changed) := goodIn_app (goodIn_of _ (by decide +kernel)) ggX1_solution_X1_changed
theorem dX1_solution_0 : decode cX1_solution 0 = .ok (.aload_n 0, 1) := by decide +kernel
theorem dX1_solution_1 : decode cX1_solution 1 = .ok (.iconst 0, 1) := by decide +kernel
theorem dX1_solution_2 : decode cX1_solution 2 = .ok (.putfield 45, 3) := by decide +kernel
theorem dX1_solution_5 : decode cX1_solution 5 = .ok (.aload_n 0, 1) := by decide +kernel
theorem dX1_solution_6 : decode cX1_solution 6 = .ok (.invokevirtual 83, 3) := by decide +kernel
theorem dX1_solution_9 : decode cX1_solution 9 = .ok (.ifCond .eq 15, 3) := by decide +kernel
theorem dX1_solution_12 : decode cX1_solution 12 = .ok (.iload_n 1, 1) := by decide +kernel
theorem dX1_solution_13 : decode cX1_solution 13 = .ok (.ifCond .lt 11, 3) := by decide +kernel
theorem dX1_solution_16 : decode cX1_solution 16 = .ok (.iload_n 1, 1) := by decide +kernel
theorem dX1_solution_17 : decode cX1_solution 17 = .ok (.aload_n 0, 1) := by decide +kernel
theorem dX1_solution_18 : decode cX1_solution 18 = .ok (.getfield 34, 3) := by decide +kernel
theorem dX1_solution_21 : decode cX1_solution 21 = .ok (.if_icmp .lt 5, 3) := by decide +kernel
theorem dX1_solution_24 : decode cX1_solution 24 = .ok (.iconst (-1), 1) := by decide +kernel
theorem dX1_solution_25 : decode cX1_solution 25 = .ok (.ireturn, 1) := by decide +kernel
theorem dX1_solution_26 : decode cX1_solution 26 = .ok (.aload_n 0, 1) := by decide +kernel
theorem dX1_solution_27 : decode cX1_solution 27 = .ok (.iload_n 1, 1) := by decide +kernel
theorem dX1_solution_28 : decode cX1_solution 28 = .ok (.invokevirtual 87, 3) := by decide +kernel
theorem dX1_solution_31 : decode cX1_solution 31 = .ok (.istore_n 2, 1) := by decide +kernel
theorem dX1_solution_32 : decode cX1_solution 32 = .ok (.iload_n 2, 1) := by decide +kernel
theorem dX1_solution_33 : decode cX1_solution 33 = .ok (.ifCond .ge 7, 3) := by decide +kernel
theorem dX1_solution_36 : decode cX1_solution 36 = .ok (.iconst 0, 1) := by decide +kernel
theorem dX1_solution_37 : decode cX1_solution 37 = .ok (.goto 9, 3) := by decide +kernel
theorem dX1_solution_40 : decode cX1_solution 40 = .ok (.aload_n 0, 1) := by decide +kernel
theorem dX1_solution_41 : decode cX1_solution 41 = .ok (.iload_n 2, 1) := by decide +kernel
theorem dX1_solution_42 : decode cX1_solution 42 = .ok (.invokevirtual 79, 3) := by decide +kernel
theorem dX1_solution_45 : decode cX1_solution 45 = .ok (.l2i, 1) := by decide +kernel
theorem dX1_solution_46 : decode cX1_solution 46 = .ok (.ireturn, 1) := by decide +kernel
theorem dX1_kernelDim_0 : decode cX1_kernelDim 0 = .ok (.aload_n 0, 1) := by decide +kernel
theorem dX1_kernelDim_1 : decode cX1_kernelDim 1 = .ok (.iconst 0, 1) := by decide +kernel
theorem dX1_kernelDim_2 : decode cX1_kernelDim 2 = .ok (.putfield 45, 3) := by decide +kernel
theorem dX1_kernelDim_5 : decode cX1_kernelDim 5 = .ok (.aload_n 0, 1) := by decide +kernel
theorem dX1_kernelDim_6 : decode cX1_kernelDim 6 = .ok (.getfield 54, 3) := by decide +kernel
theorem dX1_kernelDim_9 : decode cX1_kernelDim 9 = .ok (.ifCond .eq 15, 3) := by decide +kernel
theorem dX1_kernelDim_12 : decode cX1_kernelDim 12 = .ok (.aload_n 0, 1) := by decide +kernel
theorem dX1_kernelDim_13 : decode cX1_kernelDim 13 = .ok (.getfield 34, 3) := by decide +kernel
theorem dX1_kernelDim_16 : decode cX1_kernelDim 16 = .ok (.aload_n 0, 1) := by decide +kernel
theorem dX1_kernelDim_17 : decode cX1_kernelDim 17 = .ok (.getfield 57, 3) := by decide +kernel
theorem dX1_kernelDim_20 : decode cX1_kernelDim 20 = .ok (.isub, 1) := by decide +kernel
theorem dX1_kernelDim_21 : decode cX1_kernelDim 21 = .ok (.goto 4, 3) := by decide +kernel
theorem dX1_kernelDim_24 : decode cX1_kernelDim 24 = .ok (.iconst (-1), 1) := by decide +kernel
theorem dX1_kernelDim_25 : decode cX1_kernelDim 25 = .ok (.ireturn, 1) := by decide +kernel
set_option maxRecDepth 20000 in
theorem ggX1_kernelAt_X1_rowOf : GoodIn wsX1_kernelAt wsX1_rowOf := goodIn_r _ [11, 4, 12, 13, 14, 15, 16, 17, 18, 19, 20, 21, 22, 23, 24] (by decide +kernel) (by decide +kernel)
set_option maxRecDepth 20000 in
theorem gX1_kernelAt_X1_rowOf : GoodIn wsX1_kernelAt (wsV RX1 87 RX1 yX1_rowOf wsX1_rowOf) := goodIn_app (goodIn_of _ (by decide +kernel)) ggX1_kernelAt_X1_rowOf
theorem dX1_kernelAt_0 : decode cX1_kernelAt 0 = .ok (.aload_n 0, 1) := by decide +kernel
theorem dX1_kernelAt_1 : decode cX1_kernelAt 1 = .ok (.iconst 0, 1) := by decide +kernel
theorem dX1_kernelAt_2 : decode cX1_kernelAt 2 = .ok (.putfield 45, 3) := by decide +kernel
theorem dX1_kernelAt_5 : decode cX1_kernelAt 5 = .ok (.aload_n 0, 1) := by decide +kernel
theorem dX1_kernelAt_6 : decode cX1_kernelAt 6 = .ok (.getfield 54, 3) := by decide +kernel
theorem dX1_kernelAt_9 : decode cX1_kernelAt 9 = .ok (.ifCond .eq 32, 3) := by decide +kernel
theorem dX1_kernelAt_12 : decode cX1_kernelAt 12 = .ok (.iload_n 1, 1) := by decide +kernel
theorem dX1_kernelAt_13 : decode cX1_kernelAt 13 = .ok (.ifCond .lt 28, 3) := by decide +kernel
theorem dX1_kernelAt_16 : decode cX1_kernelAt 16 = .ok (.iload_n 1, 1) := by decide +kernel
theorem dX1_kernelAt_17 : decode cX1_kernelAt 17 = .ok (.aload_n 0, 1) := by decide +kernel
theorem dX1_kernelAt_18 : decode cX1_kernelAt 18 = .ok (.getfield 34, 3) := by decide +kernel
theorem dX1_kernelAt_21 : decode cX1_kernelAt 21 = .ok (.aload_n 0, 1) := by decide +kernel
theorem dX1_kernelAt_22 : decode cX1_kernelAt 22 = .ok (.getfield 57, 3) := by decide +kernel
theorem dX1_kernelAt_25 : decode cX1_kernelAt 25 = .ok (.isub, 1) := by decide +kernel
theorem dX1_kernelAt_26 : decode cX1_kernelAt 26 = .ok (.if_icmp .ge 15, 3) := by decide +kernel
theorem dX1_kernelAt_29 : decode cX1_kernelAt 29 = .ok (.iload_n 2, 1) := by decide +kernel
theorem dX1_kernelAt_30 : decode cX1_kernelAt 30 = .ok (.ifCond .lt 11, 3) := by decide +kernel
theorem dX1_kernelAt_33 : decode cX1_kernelAt 33 = .ok (.iload_n 2, 1) := by decide +kernel
theorem dX1_kernelAt_34 : decode cX1_kernelAt 34 = .ok (.aload_n 0, 1) := by decide +kernel
theorem dX1_kernelAt_35 : decode cX1_kernelAt 35 = .ok (.getfield 34, 3) := by decide +kernel
theorem dX1_kernelAt_38 : decode cX1_kernelAt 38 = .ok (.if_icmp .lt 5, 3) := by decide +kernel
theorem dX1_kernelAt_41 : decode cX1_kernelAt 41 = .ok (.iconst (-1), 1) := by decide +kernel
theorem dX1_kernelAt_42 : decode cX1_kernelAt 42 = .ok (.ireturn, 1) := by decide +kernel
theorem dX1_kernelAt_43 : decode cX1_kernelAt 43 = .ok (.iconst 0, 1) := by decide +kernel
theorem dX1_kernelAt_44 : decode cX1_kernelAt 44 = .ok (.istore_n 3, 1) := by decide +kernel
theorem dX1_kernelAt_45 : decode cX1_kernelAt 45 = .ok (.iload_n 1, 1) := by decide +kernel
theorem dX1_kernelAt_46 : decode cX1_kernelAt 46 = .ok (.istore 4, 2) := by decide +kernel
theorem dX1_kernelAt_48 : decode cX1_kernelAt 48 = .ok (.aload_n 0, 1) := by decide +kernel
theorem dX1_kernelAt_49 : decode cX1_kernelAt 49 = .ok (.iload_n 3, 1) := by decide +kernel
theorem dX1_kernelAt_50 : decode cX1_kernelAt 50 = .ok (.invokevirtual 87, 3) := by decide +kernel
theorem dX1_kernelAt_53 : decode cX1_kernelAt 53 = .ok (.ifCond .ge 8, 3) := by decide +kernel
theorem dX1_kernelAt_56 : decode cX1_kernelAt 56 = .ok (.iload 4, 2) := by decide +kernel
theorem dX1_kernelAt_58 : decode cX1_kernelAt 58 = .ok (.ifCond .le 28, 3) := by decide +kernel
theorem dX1_kernelAt_61 : decode cX1_kernelAt 61 = .ok (.aload_n 0, 1) := by decide +kernel
theorem dX1_kernelAt_62 : decode cX1_kernelAt 62 = .ok (.iload_n 3, 1) := by decide +kernel
theorem dX1_kernelAt_63 : decode cX1_kernelAt 63 = .ok (.invokevirtual 87, 3) := by decide +kernel
theorem dX1_kernelAt_66 : decode cX1_kernelAt 66 = .ok (.ifCond .ge 10, 3) := by decide +kernel
theorem dX1_kernelAt_69 : decode cX1_kernelAt 69 = .ok (.iload 4, 2) := by decide +kernel
theorem dX1_kernelAt_71 : decode cX1_kernelAt 71 = .ok (.iconst 1, 1) := by decide +kernel
theorem dX1_kernelAt_72 : decode cX1_kernelAt 72 = .ok (.isub, 1) := by decide +kernel
theorem dX1_kernelAt_73 : decode cX1_kernelAt 73 = .ok (.goto 5, 3) := by decide +kernel
theorem dX1_kernelAt_76 : decode cX1_kernelAt 76 = .ok (.iload 4, 2) := by decide +kernel
theorem dX1_kernelAt_78 : decode cX1_kernelAt 78 = .ok (.istore 4, 2) := by decide +kernel
theorem dX1_kernelAt_80 : decode cX1_kernelAt 80 = .ok (.iinc 3 1, 3) := by decide +kernel
theorem dX1_kernelAt_83 : decode cX1_kernelAt 83 = .ok (.goto (-35), 3) := by decide +kernel
theorem dX1_kernelAt_86 : decode cX1_kernelAt 86 = .ok (.aload_n 0, 1) := by decide +kernel
theorem dX1_kernelAt_87 : decode cX1_kernelAt 87 = .ok (.iload_n 2, 1) := by decide +kernel
theorem dX1_kernelAt_88 : decode cX1_kernelAt 88 = .ok (.invokevirtual 87, 3) := by decide +kernel
theorem dX1_kernelAt_91 : decode cX1_kernelAt 91 = .ok (.istore 5, 2) := by decide +kernel
theorem dX1_kernelAt_93 : decode cX1_kernelAt 93 = .ok (.iload_n 2, 1) := by decide +kernel
theorem dX1_kernelAt_94 : decode cX1_kernelAt 94 = .ok (.iload_n 3, 1) := by decide +kernel
theorem dX1_kernelAt_95 : decode cX1_kernelAt 95 = .ok (.if_icmp .ne 13, 3) := by decide +kernel
theorem dX1_kernelAt_98 : decode cX1_kernelAt 98 = .ok (.lconst 1, 1) := by decide +kernel
theorem dX1_kernelAt_99 : decode cX1_kernelAt 99 = .ok (.aload_n 0, 1) := by decide +kernel
theorem dX1_kernelAt_100 : decode cX1_kernelAt 100 = .ok (.getfield 26, 3) := by decide +kernel
theorem dX1_kernelAt_103 : decode cX1_kernelAt 103 = .ok (.lrem, 1) := by decide +kernel
theorem dX1_kernelAt_104 : decode cX1_kernelAt 104 = .ok (.l2i, 1) := by decide +kernel
theorem dX1_kernelAt_105 : decode cX1_kernelAt 105 = .ok (.goto 35, 3) := by decide +kernel
theorem dX1_kernelAt_108 : decode cX1_kernelAt 108 = .ok (.iload 5, 2) := by decide +kernel
theorem dX1_kernelAt_110 : decode cX1_kernelAt 110 = .ok (.ifCond .ge 7, 3) := by decide +kernel
theorem dX1_kernelAt_113 : decode cX1_kernelAt 113 = .ok (.iconst 0, 1) := by decide +kernel
theorem dX1_kernelAt_114 : decode cX1_kernelAt 114 = .ok (.goto 26, 3) := by decide +kernel
theorem dX1_kernelAt_117 : decode cX1_kernelAt 117 = .ok (.aload_n 0, 1) := by decide +kernel
theorem dX1_kernelAt_118 : decode cX1_kernelAt 118 = .ok (.getfield 26, 3) := by decide +kernel
theorem dX1_kernelAt_121 : decode cX1_kernelAt 121 = .ok (.aload_n 0, 1) := by decide +kernel
theorem dX1_kernelAt_122 : decode cX1_kernelAt 122 = .ok (.getfield 16, 3) := by decide +kernel
theorem dX1_kernelAt_125 : decode cX1_kernelAt 125 = .ok (.bipush 20, 2) := by decide +kernel
theorem dX1_kernelAt_127 : decode cX1_kernelAt 127 = .ok (.iload 5, 2) := by decide +kernel
theorem dX1_kernelAt_129 : decode cX1_kernelAt 129 = .ok (.imul, 1) := by decide +kernel
theorem dX1_kernelAt_130 : decode cX1_kernelAt 130 = .ok (.iload_n 3, 1) := by decide +kernel
theorem dX1_kernelAt_131 : decode cX1_kernelAt 131 = .ok (.iadd, 1) := by decide +kernel
theorem dX1_kernelAt_132 : decode cX1_kernelAt 132 = .ok (.laload, 1) := by decide +kernel
theorem dX1_kernelAt_133 : decode cX1_kernelAt 133 = .ok (.lsub, 1) := by decide +kernel
theorem dX1_kernelAt_134 : decode cX1_kernelAt 134 = .ok (.aload_n 0, 1) := by decide +kernel
theorem dX1_kernelAt_135 : decode cX1_kernelAt 135 = .ok (.getfield 26, 3) := by decide +kernel
theorem dX1_kernelAt_138 : decode cX1_kernelAt 138 = .ok (.lrem, 1) := by decide +kernel
theorem dX1_kernelAt_139 : decode cX1_kernelAt 139 = .ok (.l2i, 1) := by decide +kernel
theorem dX1_kernelAt_140 : decode cX1_kernelAt 140 = .ok (.ireturn, 1) := by decide +kernel
theorem dL_cell_0 : decode cL_cell 0 = .ok (.iload_n 1, 1) := by decide +kernel
theorem dL_cell_1 : decode cL_cell 1 = .ok (.aload_n 0, 1) := by decide +kernel
theorem dL_cell_2 : decode cL_cell 2 = .ok (.arraylength, 1) := by decide +kernel
theorem dL_cell_3 : decode cL_cell 3 = .ok (.if_icmp .ge 9, 3) := by decide +kernel
theorem dL_cell_6 : decode cL_cell 6 = .ok (.aload_n 0, 1) := by decide +kernel
theorem dL_cell_7 : decode cL_cell 7 = .ok (.iload_n 1, 1) := by decide +kernel
theorem dL_cell_8 : decode cL_cell 8 = .ok (.iaload, 1) := by decide +kernel
theorem dL_cell_9 : decode cL_cell 9 = .ok (.goto 4, 3) := by decide +kernel
theorem dL_cell_12 : decode cL_cell 12 = .ok (.iconst 0, 1) := by decide +kernel
theorem dL_cell_13 : decode cL_cell 13 = .ok (.ireturn, 1) := by decide +kernel
set_option maxRecDepth 20000 in
theorem ggL_law_L_cell : GoodIn wsL_law wsL_cell := goodIn_r _ [9] (by decide +kernel) (by decide +kernel)
set_option maxRecDepth 20000 in
theorem gL_law_L_cell : GoodIn wsL_law (va_wsS RL 9 yL_cell wsL_cell) := goodIn_app (goodIn_of _ (by decide +kernel)) ggL_law_L_cell
set_option maxRecDepth 20000 in
theorem ggL_law_X0_init : GoodIn wsL_law wsX0_init := goodIn_r _ [12, 13, 14, 15, 16, 17, 18, 19, 20, 21, 22, 23, 24, 25, 26, 27, 28, 29, 2, 30, 31, 32, 33, 252, 253, 254, 255, 256, 257, 258, 259, 260, 261, 262] (by decide +kernel) (by decide +kernel)
set_option maxRecDepth 20000 in
theorem gL_law_X0_init : GoodIn wsL_law (wsX0_init) := ggL_law_X0_init
set_option maxRecDepth 20000 in
theorem ggL_law_X1_init : GoodIn wsL_law wsX1_init := goodIn_r _ [36, 37, 14, 15, 38, 39, 40, 41, 20, 42, 43, 44, 45, 46, 47, 48, 49, 5, 50, 51, 263, 264, 265, 266, 267, 268, 269, 270, 271, 272, 273, 274] (by decide +kernel) (by decide +kernel)
set_option maxRecDepth 20000 in
theorem gL_law_X1_init : GoodIn wsL_law (wsX1_init) := ggL_law_X1_init
set_option maxRecDepth 20000 in
theorem ggL_law_X0_set : GoodIn wsL_law wsX0_set := goodIn_r _ [55, 21, 18, 16, 25, 56, 57, 58, 2, 59, 17, 60, 61, 62, 63, 252, 253, 254, 255, 256, 257, 258, 259, 260, 261, 262] (by decide +kernel) (by decide +kernel)
set_option maxRecDepth 20000 in
theorem gL_law_X0_set : GoodIn wsL_law (wsV RL 21 RX0 yX0_set wsX0_set) := goodIn_app (goodIn_of _ (by decide +kernel)) ggL_law_X0_set
set_option maxRecDepth 20000 in
theorem ggL_law_X1_set : GoodIn wsL_law wsX1_set := goodIn_r _ [67, 68, 39, 44, 69, 70, 71, 72, 5, 73, 47, 45, 46, 263, 264, 265, 266, 267, 268, 269, 270, 271, 272, 273, 274] (by decide +kernel) (by decide +kernel)
set_option maxRecDepth 20000 in
theorem gL_law_X1_set : GoodIn wsL_law (wsV RL 25 RX1 yX1_set wsX1_set) := goodIn_app (goodIn_of _ (by decide +kernel)) ggL_law_X1_set
set_option maxRecDepth 20000 in
theorem ggL_law_X0_get : GoodIn wsL_law wsX0_get := goodIn_r _ [77, 21, 18, 56, 57, 58, 2, 59, 17, 60, 61, 62, 63, 252, 253, 254, 255, 256, 257, 258, 259, 260, 261, 262] (by decide +kernel) (by decide +kernel)
set_option maxRecDepth 20000 in
theorem gL_law_X0_get : GoodIn wsL_law (wsV RL 26 RX0 yX0_get wsX0_get) := goodIn_app (goodIn_of _ (by decide +kernel)) ggL_law_X0_get
set_option maxRecDepth 20000 in
theorem ggL_law_X1_get : GoodIn wsL_law wsX1_get := goodIn_r _ [81, 68, 39, 70, 71, 72, 5, 73, 47, 45, 46, 263, 264, 265, 266, 267, 268, 269, 270, 271, 272, 273, 274] (by decide +kernel) (by decide +kernel)
set_option maxRecDepth 20000 in
theorem gL_law_X1_get : GoodIn wsL_law (wsV RL 30 RX1 yX1_get wsX1_get) := goodIn_app (goodIn_of _ (by decide +kernel)) ggL_law_X1_get
set_option maxRecDepth 20000 in
theorem ggL_law_X0_setRhs : GoodIn wsL_law wsX0_setRhs := goodIn_r _ [85, 22, 16, 56, 57, 58, 2, 59, 17, 252, 253, 254, 255, 256, 257, 258, 259, 260, 261, 262] (by decide +kernel) (by decide +kernel)
set_option maxRecDepth 20000 in
theorem gL_law_X0_setRhs : GoodIn wsL_law (wsV RL 31 RX0 yX0_setRhs wsX0_setRhs) := goodIn_app (goodIn_of _ (by decide +kernel)) ggL_law_X0_setRhs
set_option maxRecDepth 20000 in
theorem ggL_law_X1_setRhs : GoodIn wsL_law wsX1_setRhs := goodIn_r _ [89, 68, 40, 44, 70, 71, 72, 5, 73, 47, 45, 46, 263, 264, 265, 266, 267, 268, 269, 270, 271, 272, 273, 274] (by decide +kernel) (by decide +kernel)
set_option maxRecDepth 20000 in
theorem gL_law_X1_setRhs : GoodIn wsL_law (wsV RL 35 RX1 yX1_setRhs wsX1_setRhs) := goodIn_app (goodIn_of _ (by decide +kernel)) ggL_law_X1_setRhs
set_option maxRecDepth 20000 in
theorem ggL_law_X0_reduce : GoodIn wsL_law wsX0_reduce := goodIn_r _ [93, 17, 18, 26, 25, 94, 95, 96, 2, 97, 23, 19, 21, 24, 27, 98, 99, 100, 101, 16, 102, 103, 104, 105, 106, 107, 108, 109, 110, 111, 112, 113, 114, 115, 116, 117, 118, 119, 120, 121, 122, 123, 124, 125, 252, 253, 254, 255, 256, 257, 258, 259, 260, 261, 262] (by decide +kernel) (by decide +kernel)
set_option maxRecDepth 20000 in
theorem gL_law_X0_reduce : GoodIn wsL_law (wsV RL 36 RX0 yX0_reduce wsX0_reduce) := goodIn_app (goodIn_of _ (by decide +kernel)) ggL_law_X0_reduce
set_option maxRecDepth 20000 in
theorem ggL_law_X1_reduce : GoodIn wsL_law wsX1_reduce := goodIn_r _ [129, 68, 47, 45, 41, 46, 39, 130, 42, 69, 131, 132, 133, 5, 134, 135, 136, 137, 138, 139, 140, 141, 142, 44, 51, 143, 144, 145, 146, 263, 264, 265, 266, 267, 268, 269, 270, 271, 272, 273, 274] (by decide +kernel) (by decide +kernel)
set_option maxRecDepth 20000 in
theorem gL_law_X1_reduce : GoodIn wsL_law (wsV RL 40 RX1 yX1_reduce wsX1_reduce) := goodIn_app (goodIn_of _ (by decide +kernel)) ggL_law_X1_reduce
set_option maxRecDepth 20000 in
theorem ggL_law_X0_rank : GoodIn wsL_law wsX0_rank := goodIn_r _ [150, 25, 26, 252, 253, 254, 255, 256, 257, 258, 259, 260, 261, 262] (by decide +kernel) (by decide +kernel)
set_option maxRecDepth 20000 in
theorem gL_law_X0_rank : GoodIn wsL_law (wsV RL 41 RX0 yX0_rank wsX0_rank) := goodIn_app (goodIn_of _ (by decide +kernel)) ggL_law_X0_rank
set_option maxRecDepth 20000 in
theorem ggL_law_X1_rank : GoodIn wsL_law wsX1_rank := goodIn_r _ [154, 68, 69, 130, 263, 264, 265, 266, 267, 268, 269, 270, 271, 272, 273, 274] (by decide +kernel) (by decide +kernel)
set_option maxRecDepth 20000 in
theorem gL_law_X1_rank : GoodIn wsL_law (wsV RL 44 RX1 yX1_rank wsX1_rank) := goodIn_app (goodIn_of _ (by decide +kernel)) ggL_law_X1_rank
set_option maxRecDepth 20000 in
theorem ggL_law_X0_rrefAt : GoodIn wsL_law wsX0_rrefAt := goodIn_r _ [158, 25, 23, 19, 56, 57, 58, 2, 59, 17, 60, 61, 62, 63, 18, 252, 253, 254, 255, 256, 257, 258, 259, 260, 261, 262] (by decide +kernel) (by decide +kernel)
set_option maxRecDepth 20000 in
theorem gL_law_X0_rrefAt : GoodIn wsL_law (wsV RL 45 RX0 yX0_rrefAt wsX0_rrefAt) := goodIn_app (goodIn_of _ (by decide +kernel)) ggL_law_X0_rrefAt
set_option maxRecDepth 20000 in
theorem ggL_law_X1_rrefAt : GoodIn wsL_law wsX1_rrefAt := goodIn_r _ [162, 68, 69, 41, 70, 71, 72, 5, 73, 47, 45, 46, 263, 264, 265, 266, 267, 268, 269, 270, 271, 272, 273, 274] (by decide +kernel) (by decide +kernel)
set_option maxRecDepth 20000 in
theorem gL_law_X1_rrefAt : GoodIn wsL_law (wsV RL 48 RX1 yX1_rrefAt wsX1_rrefAt) := goodIn_app (goodIn_of _ (by decide +kernel)) ggL_law_X1_rrefAt
set_option maxRecDepth 20000 in
theorem ggL_law_X0_transformAt : GoodIn wsL_law wsX0_transformAt := goodIn_r _ [166, 25, 56, 57, 58, 2, 59, 17, 167, 168, 169, 170, 23, 19, 18, 252, 253, 254, 255, 256, 257, 258, 259, 260, 261, 262] (by decide +kernel) (by decide +kernel)
set_option maxRecDepth 20000 in
theorem gL_law_X0_transformAt : GoodIn wsL_law (wsV RL 49 RX0 yX0_transformAt wsX0_transformAt) := goodIn_app (goodIn_of _ (by decide +kernel)) ggL_law_X0_transformAt
set_option maxRecDepth 20000 in
theorem ggL_law_X1_transformAt : GoodIn wsL_law wsX1_transformAt := goodIn_r _ [174, 68, 69, 41, 175, 176, 177, 5, 178, 47, 45, 263, 264, 265, 266, 267, 268, 269, 270, 271, 272, 273, 274] (by decide +kernel) (by decide +kernel)
set_option maxRecDepth 20000 in
theorem gL_law_X1_transformAt : GoodIn wsL_law (wsV RL 52 RX1 yX1_transformAt wsX1_transformAt) := goodIn_app (goodIn_of _ (by decide +kernel)) ggL_law_X1_transformAt
set_option maxRecDepth 20000 in
theorem ggL_law_X0_det : GoodIn wsL_law wsX0_det := goodIn_r _ [182, 25, 17, 18, 26, 27, 252, 253, 254, 255, 256, 257, 258, 259, 260, 261, 262] (by decide +kernel) (by decide +kernel)
set_option maxRecDepth 20000 in
theorem gL_law_X0_det : GoodIn wsL_law (wsV RL 53 RX0 yX0_det wsX0_det) := goodIn_app (goodIn_of _ (by decide +kernel)) ggL_law_X0_det
set_option maxRecDepth 20000 in
theorem ggL_law_X1_det : GoodIn wsL_law wsX1_det := goodIn_r _ [186, 68, 69, 45, 46, 43, 39, 44, 263, 264, 265, 266, 267, 268, 269, 270, 271, 272, 273, 274] (by decide +kernel) (by decide +kernel)
set_option maxRecDepth 20000 in
theorem gL_law_X1_det : GoodIn wsL_law (wsV RL 56 RX1 yX1_det wsX1_det) := goodIn_app (goodIn_of _ (by decide +kernel)) ggL_law_X1_det
set_option maxRecDepth 20000 in
theorem ggL_law_X0_inverseAt : GoodIn wsL_law wsX0_inverseAt := goodIn_r _ [190, 191, 192, 193, 2, 194, 25, 17, 18, 26, 56, 57, 58, 59, 167, 168, 169, 170, 23, 19, 252, 253, 254, 255, 256, 257, 258, 259, 260, 261, 262] (by decide +kernel) (by decide +kernel)
set_option maxRecDepth 20000 in
theorem gL_law_X0_inverseAt : GoodIn wsL_law (wsV RL 57 RX0 yX0_inverseAt wsX0_inverseAt) := goodIn_app (goodIn_of _ (by decide +kernel)) ggL_law_X0_inverseAt
set_option maxRecDepth 20000 in
theorem ggL_law_X1_inverseAt : GoodIn wsL_law wsX1_inverseAt := goodIn_r _ [198, 68, 69, 45, 46, 130, 41, 175, 176, 177, 5, 178, 47, 263, 264, 265, 266, 267, 268, 269, 270, 271, 272, 273, 274] (by decide +kernel) (by decide +kernel)
set_option maxRecDepth 20000 in
theorem gL_law_X1_inverseAt : GoodIn wsL_law (wsV RL 60 RX1 yX1_inverseAt wsX1_inverseAt) := goodIn_app (goodIn_of _ (by decide +kernel)) ggL_law_X1_inverseAt
set_option maxRecDepth 20000 in
theorem ggL_law_X0_solvable : GoodIn wsL_law wsX0_solvable := goodIn_r _ [202, 25, 26, 17, 203, 204, 205, 2, 206, 22, 16, 167, 168, 169, 170, 23, 19, 18, 252, 253, 254, 255, 256, 257, 258, 259, 260, 261, 262] (by decide +kernel) (by decide +kernel)
set_option maxRecDepth 20000 in
theorem gL_law_X0_solvable : GoodIn wsL_law (wsV RL 61 RX0 yX0_solvable wsX0_solvable) := goodIn_app (goodIn_of _ (by decide +kernel)) ggL_law_X0_solvable
set_option maxRecDepth 20000 in
theorem ggL_law_X1_solvable : GoodIn wsL_law wsX1_solvable := goodIn_r _ [210, 68, 211, 212, 213, 5, 214, 69, 130, 45, 215, 216, 217, 218, 41, 40, 44, 263, 264, 265, 266, 267, 268, 269, 270, 271, 272, 273, 274] (by decide +kernel) (by decide +kernel)
set_option maxRecDepth 20000 in
theorem gL_law_X1_solvable : GoodIn wsL_law (wsV RL 65 RX1 yX1_solvable wsX1_solvable) := goodIn_app (goodIn_of _ (by decide +kernel)) ggL_law_X1_solvable
set_option maxRecDepth 20000 in
theorem ggL_law_X0_solution : GoodIn wsL_law wsX0_solution := goodIn_r _ [222, 24, 60, 61, 62, 2, 63, 18, 223, 200, 201, 202, 25, 26, 17, 203, 204, 205, 206, 22, 16, 167, 168, 169, 170, 23, 19, 252, 253, 254, 255, 256, 257, 258, 259, 260, 261, 262] (by decide +kernel) (by decide +kernel)
set_option maxRecDepth 20000 in
theorem gL_law_X0_solution : GoodIn wsL_law (wsV RL 66 RX0 yX0_solution wsX0_solution) := goodIn_app (goodIn_of _ (by decide +kernel)) ggL_law_X0_solution
set_option maxRecDepth 20000 in
theorem ggL_law_X1_solution : GoodIn wsL_law wsX1_solution := goodIn_r _ [227, 68, 46, 211, 212, 213, 5, 214, 69, 130, 45, 215, 216, 217, 218, 41, 40, 44, 228, 229, 230, 231, 42, 263, 264, 265, 266, 267, 268, 269, 270, 271, 272, 273, 274] (by decide +kernel) (by decide +kernel)
set_option maxRecDepth 20000 in
theorem gL_law_X1_solution : GoodIn wsL_law (wsV RL 70 RX1 yX1_solution wsX1_solution) := goodIn_app (goodIn_of _ (by decide +kernel)) ggL_law_X1_solution
set_option maxRecDepth 20000 in
theorem ggL_law_X0_kernelDim : GoodIn wsL_law wsX0_kernelDim := goodIn_r _ [235, 25, 18, 26, 252, 253, 254, 255, 256, 257, 258, 259, 260, 261, 262] (by decide +kernel) (by decide +kernel)
set_option maxRecDepth 20000 in
theorem gL_law_X0_kernelDim : GoodIn wsL_law (wsV RL 71 RX0 yX0_kernelDim wsX0_kernelDim) := goodIn_app (goodIn_of _ (by decide +kernel)) ggL_law_X0_kernelDim
set_option maxRecDepth 20000 in
theorem ggL_law_X1_kernelDim : GoodIn wsL_law wsX1_kernelDim := goodIn_r _ [239, 68, 69, 46, 130, 263, 264, 265, 266, 267, 268, 269, 270, 271, 272, 273, 274] (by decide +kernel) (by decide +kernel)
set_option maxRecDepth 20000 in
theorem gL_law_X1_kernelDim : GoodIn wsL_law (wsV RL 74 RX1 yX1_kernelDim wsX1_kernelDim) := goodIn_app (goodIn_of _ (by decide +kernel)) ggL_law_X1_kernelDim
set_option maxRecDepth 20000 in
theorem ggL_law_X0_kernelAt : GoodIn wsL_law wsX0_kernelAt := goodIn_r _ [243, 25, 24, 23, 19, 60, 61, 62, 2, 63, 18, 244, 245, 246, 247, 110, 111, 112, 113, 16, 252, 253, 254, 255, 256, 257, 258, 259, 260, 261, 262] (by decide +kernel) (by decide +kernel)
set_option maxRecDepth 20000 in
theorem gL_law_X0_kernelAt : GoodIn wsL_law (wsV RL 75 RX0 yX0_kernelAt wsX0_kernelAt) := goodIn_app (goodIn_of _ (by decide +kernel)) ggL_law_X0_kernelAt
set_option maxRecDepth 20000 in
theorem ggL_law_X1_kernelAt : GoodIn wsL_law wsX1_kernelAt := goodIn_r _ [251, 68, 69, 46, 130, 44, 41, 228, 229, 230, 5, 231, 42, 263, 264, 265, 266, 267, 268, 269, 270, 271, 272, 273, 274] (by decide +kernel) (by decide +kernel)
set_option maxRecDepth 20000 in
theorem gL_law_X1_kernelAt : GoodIn wsL_law (wsV RL 78 RX1 yX1_kernelAt wsX1_kernelAt) := goodIn_app (goodIn_of _ (by decide +kernel)) ggL_law_X1_kernelAt
theorem dL_law_0 : decode cL_law 0 = .ok (.new 7, 3) := by decide +kernel
theorem dL_law_3 : decode cL_law 3 = .ok (.dup, 1) := by decide +kernel
theorem dL_law_4 : decode cL_law 4 = .ok (.aload_n 0, 1) := by decide +kernel
theorem dL_law_5 : decode cL_law 5 = .ok (.iconst 0, 1) := by decide +kernel
theorem dL_law_6 : decode cL_law 6 = .ok (.invokestatic 9, 3) := by decide +kernel
theorem dL_law_9 : decode cL_law 9 = .ok (.aload_n 0, 1) := by decide +kernel
theorem dL_law_10 : decode cL_law 10 = .ok (.iconst 1, 1) := by decide +kernel
theorem dL_law_11 : decode cL_law 11 = .ok (.invokestatic 9, 3) := by decide +kernel
theorem dL_law_14 : decode cL_law 14 = .ok (.aload_n 0, 1) := by decide +kernel
theorem dL_law_15 : decode cL_law 15 = .ok (.iconst 2, 1) := by decide +kernel
theorem dL_law_16 : decode cL_law 16 = .ok (.invokestatic 9, 3) := by decide +kernel
theorem dL_law_19 : decode cL_law 19 = .ok (.invokespecial 15, 3) := by decide +kernel
theorem dL_law_22 : decode cL_law 22 = .ok (.astore_n 1, 1) := by decide +kernel
theorem dL_law_23 : decode cL_law 23 = .ok (.new 18, 3) := by decide +kernel
theorem dL_law_26 : decode cL_law 26 = .ok (.dup, 1) := by decide +kernel
theorem dL_law_27 : decode cL_law 27 = .ok (.aload_n 0, 1) := by decide +kernel
theorem dL_law_28 : decode cL_law 28 = .ok (.iconst 0, 1) := by decide +kernel
theorem dL_law_29 : decode cL_law 29 = .ok (.invokestatic 9, 3) := by decide +kernel
theorem dL_law_32 : decode cL_law 32 = .ok (.aload_n 0, 1) := by decide +kernel
theorem dL_law_33 : decode cL_law 33 = .ok (.iconst 1, 1) := by decide +kernel
theorem dL_law_34 : decode cL_law 34 = .ok (.invokestatic 9, 3) := by decide +kernel
theorem dL_law_37 : decode cL_law 37 = .ok (.aload_n 0, 1) := by decide +kernel
theorem dL_law_38 : decode cL_law 38 = .ok (.iconst 2, 1) := by decide +kernel
theorem dL_law_39 : decode cL_law 39 = .ok (.invokestatic 9, 3) := by decide +kernel
theorem dL_law_42 : decode cL_law 42 = .ok (.invokespecial 20, 3) := by decide +kernel
theorem dL_law_45 : decode cL_law 45 = .ok (.astore_n 2, 1) := by decide +kernel
theorem dL_law_46 : decode cL_law 46 = .ok (.iconst 3, 1) := by decide +kernel
theorem dL_law_47 : decode cL_law 47 = .ok (.istore_n 3, 1) := by decide +kernel
theorem dL_law_48 : decode cL_law 48 = .ok (.iload_n 3, 1) := by decide +kernel
theorem dL_law_49 : decode cL_law 49 = .ok (.aload_n 0, 1) := by decide +kernel
theorem dL_law_50 : decode cL_law 50 = .ok (.arraylength, 1) := by decide +kernel
theorem dL_law_51 : decode cL_law 51 = .ok (.iconst 4, 1) := by decide +kernel
theorem dL_law_52 : decode cL_law 52 = .ok (.isub, 1) := by decide +kernel
theorem dL_law_53 : decode cL_law 53 = .ok (.if_icmp .gt 410, 3) := by decide +kernel
theorem dL_law_56 : decode cL_law 56 = .ok (.aload_n 0, 1) := by decide +kernel
theorem dL_law_57 : decode cL_law 57 = .ok (.iload_n 3, 1) := by decide +kernel
theorem dL_law_58 : decode cL_law 58 = .ok (.iaload, 1) := by decide +kernel
theorem dL_law_59 : decode cL_law 59 = .ok (.bipush 15, 2) := by decide +kernel
theorem dL_law_61 : decode cL_law 61 = .ok (.iand, 1) := by decide +kernel
theorem dL_law_62 : decode cL_law 62 = .ok (.tableswitch 395 0 12 #[66, 109, 142, 175, 188, 201, 234, 267, 280, 313, 326, 349, 362], 66) := by decide +kernel
theorem dL_law_128 : decode cL_law 128 = .ok (.aload_n 1, 1) := by decide +kernel
theorem dL_law_129 : decode cL_law 129 = .ok (.aload_n 0, 1) := by decide +kernel
theorem dL_law_130 : decode cL_law 130 = .ok (.iload_n 3, 1) := by decide +kernel
theorem dL_law_131 : decode cL_law 131 = .ok (.iconst 1, 1) := by decide +kernel
theorem dL_law_132 : decode cL_law 132 = .ok (.iadd, 1) := by decide +kernel
theorem dL_law_133 : decode cL_law 133 = .ok (.iaload, 1) := by decide +kernel
theorem dL_law_134 : decode cL_law 134 = .ok (.aload_n 0, 1) := by decide +kernel
theorem dL_law_135 : decode cL_law 135 = .ok (.iload_n 3, 1) := by decide +kernel
theorem dL_law_136 : decode cL_law 136 = .ok (.iconst 2, 1) := by decide +kernel
theorem dL_law_137 : decode cL_law 137 = .ok (.iadd, 1) := by decide +kernel
theorem dL_law_138 : decode cL_law 138 = .ok (.iaload, 1) := by decide +kernel
theorem dL_law_139 : decode cL_law 139 = .ok (.aload_n 0, 1) := by decide +kernel
theorem dL_law_140 : decode cL_law 140 = .ok (.iload_n 3, 1) := by decide +kernel
theorem dL_law_141 : decode cL_law 141 = .ok (.iconst 3, 1) := by decide +kernel
theorem dL_law_142 : decode cL_law 142 = .ok (.iadd, 1) := by decide +kernel
theorem dL_law_143 : decode cL_law 143 = .ok (.iaload, 1) := by decide +kernel
theorem dL_law_144 : decode cL_law 144 = .ok (.invokevirtual 21, 3) := by decide +kernel
theorem dL_law_147 : decode cL_law 147 = .ok (.aload_n 2, 1) := by decide +kernel
theorem dL_law_148 : decode cL_law 148 = .ok (.aload_n 0, 1) := by decide +kernel
theorem dL_law_149 : decode cL_law 149 = .ok (.iload_n 3, 1) := by decide +kernel
theorem dL_law_150 : decode cL_law 150 = .ok (.iconst 1, 1) := by decide +kernel
theorem dL_law_151 : decode cL_law 151 = .ok (.iadd, 1) := by decide +kernel
theorem dL_law_152 : decode cL_law 152 = .ok (.iaload, 1) := by decide +kernel
theorem dL_law_153 : decode cL_law 153 = .ok (.aload_n 0, 1) := by decide +kernel
theorem dL_law_154 : decode cL_law 154 = .ok (.iload_n 3, 1) := by decide +kernel
theorem dL_law_155 : decode cL_law 155 = .ok (.iconst 2, 1) := by decide +kernel
theorem dL_law_156 : decode cL_law 156 = .ok (.iadd, 1) := by decide +kernel
theorem dL_law_157 : decode cL_law 157 = .ok (.iaload, 1) := by decide +kernel
theorem dL_law_158 : decode cL_law 158 = .ok (.aload_n 0, 1) := by decide +kernel
theorem dL_law_159 : decode cL_law 159 = .ok (.iload_n 3, 1) := by decide +kernel
theorem dL_law_160 : decode cL_law 160 = .ok (.iconst 3, 1) := by decide +kernel
theorem dL_law_161 : decode cL_law 161 = .ok (.iadd, 1) := by decide +kernel
theorem dL_law_162 : decode cL_law 162 = .ok (.iaload, 1) := by decide +kernel
theorem dL_law_163 : decode cL_law 163 = .ok (.invokevirtual 25, 3) := by decide +kernel
theorem dL_law_166 : decode cL_law 166 = .ok (.if_icmp .eq 291, 3) := by decide +kernel
theorem dL_law_169 : decode cL_law 169 = .ok (.iconst 0, 1) := by decide +kernel
theorem dL_law_170 : decode cL_law 170 = .ok (.ireturn, 1) := by decide +kernel
theorem dL_law_171 : decode cL_law 171 = .ok (.aload_n 1, 1) := by decide +kernel
theorem dL_law_172 : decode cL_law 172 = .ok (.aload_n 0, 1) := by decide +kernel
theorem dL_law_173 : decode cL_law 173 = .ok (.iload_n 3, 1) := by decide +kernel
theorem dL_law_174 : decode cL_law 174 = .ok (.iconst 1, 1) := by decide +kernel
theorem dL_law_175 : decode cL_law 175 = .ok (.iadd, 1) := by decide +kernel
theorem dL_law_176 : decode cL_law 176 = .ok (.iaload, 1) := by decide +kernel
theorem dL_law_177 : decode cL_law 177 = .ok (.aload_n 0, 1) := by decide +kernel
theorem dL_law_178 : decode cL_law 178 = .ok (.iload_n 3, 1) := by decide +kernel
theorem dL_law_179 : decode cL_law 179 = .ok (.iconst 2, 1) := by decide +kernel
theorem dL_law_180 : decode cL_law 180 = .ok (.iadd, 1) := by decide +kernel
theorem dL_law_181 : decode cL_law 181 = .ok (.iaload, 1) := by decide +kernel
theorem dL_law_182 : decode cL_law 182 = .ok (.invokevirtual 26, 3) := by decide +kernel
theorem dL_law_185 : decode cL_law 185 = .ok (.aload_n 2, 1) := by decide +kernel
theorem dL_law_186 : decode cL_law 186 = .ok (.aload_n 0, 1) := by decide +kernel
theorem dL_law_187 : decode cL_law 187 = .ok (.iload_n 3, 1) := by decide +kernel
theorem dL_law_188 : decode cL_law 188 = .ok (.iconst 1, 1) := by decide +kernel
theorem dL_law_189 : decode cL_law 189 = .ok (.iadd, 1) := by decide +kernel
theorem dL_law_190 : decode cL_law 190 = .ok (.iaload, 1) := by decide +kernel
theorem dL_law_191 : decode cL_law 191 = .ok (.aload_n 0, 1) := by decide +kernel
theorem dL_law_192 : decode cL_law 192 = .ok (.iload_n 3, 1) := by decide +kernel
theorem dL_law_193 : decode cL_law 193 = .ok (.iconst 2, 1) := by decide +kernel
theorem dL_law_194 : decode cL_law 194 = .ok (.iadd, 1) := by decide +kernel
theorem dL_law_195 : decode cL_law 195 = .ok (.iaload, 1) := by decide +kernel
theorem dL_law_196 : decode cL_law 196 = .ok (.invokevirtual 30, 3) := by decide +kernel
theorem dL_law_199 : decode cL_law 199 = .ok (.if_icmp .eq 258, 3) := by decide +kernel
theorem dL_law_202 : decode cL_law 202 = .ok (.iconst 0, 1) := by decide +kernel
theorem dL_law_203 : decode cL_law 203 = .ok (.ireturn, 1) := by decide +kernel
theorem dL_law_204 : decode cL_law 204 = .ok (.aload_n 1, 1) := by decide +kernel
theorem dL_law_205 : decode cL_law 205 = .ok (.aload_n 0, 1) := by decide +kernel
theorem dL_law_206 : decode cL_law 206 = .ok (.iload_n 3, 1) := by decide +kernel
theorem dL_law_207 : decode cL_law 207 = .ok (.iconst 1, 1) := by decide +kernel
theorem dL_law_208 : decode cL_law 208 = .ok (.iadd, 1) := by decide +kernel
theorem dL_law_209 : decode cL_law 209 = .ok (.iaload, 1) := by decide +kernel
theorem dL_law_210 : decode cL_law 210 = .ok (.aload_n 0, 1) := by decide +kernel
theorem dL_law_211 : decode cL_law 211 = .ok (.iload_n 3, 1) := by decide +kernel
theorem dL_law_212 : decode cL_law 212 = .ok (.iconst 2, 1) := by decide +kernel
theorem dL_law_213 : decode cL_law 213 = .ok (.iadd, 1) := by decide +kernel
theorem dL_law_214 : decode cL_law 214 = .ok (.iaload, 1) := by decide +kernel
theorem dL_law_215 : decode cL_law 215 = .ok (.invokevirtual 31, 3) := by decide +kernel
theorem dL_law_218 : decode cL_law 218 = .ok (.aload_n 2, 1) := by decide +kernel
theorem dL_law_219 : decode cL_law 219 = .ok (.aload_n 0, 1) := by decide +kernel
theorem dL_law_220 : decode cL_law 220 = .ok (.iload_n 3, 1) := by decide +kernel
theorem dL_law_221 : decode cL_law 221 = .ok (.iconst 1, 1) := by decide +kernel
theorem dL_law_222 : decode cL_law 222 = .ok (.iadd, 1) := by decide +kernel
theorem dL_law_223 : decode cL_law 223 = .ok (.iaload, 1) := by decide +kernel
theorem dL_law_224 : decode cL_law 224 = .ok (.aload_n 0, 1) := by decide +kernel
theorem dL_law_225 : decode cL_law 225 = .ok (.iload_n 3, 1) := by decide +kernel
theorem dL_law_226 : decode cL_law 226 = .ok (.iconst 2, 1) := by decide +kernel
theorem dL_law_227 : decode cL_law 227 = .ok (.iadd, 1) := by decide +kernel
theorem dL_law_228 : decode cL_law 228 = .ok (.iaload, 1) := by decide +kernel
theorem dL_law_229 : decode cL_law 229 = .ok (.invokevirtual 35, 3) := by decide +kernel
theorem dL_law_232 : decode cL_law 232 = .ok (.if_icmp .eq 225, 3) := by decide +kernel
theorem dL_law_235 : decode cL_law 235 = .ok (.iconst 0, 1) := by decide +kernel
theorem dL_law_236 : decode cL_law 236 = .ok (.ireturn, 1) := by decide +kernel
theorem dL_law_237 : decode cL_law 237 = .ok (.aload_n 1, 1) := by decide +kernel
theorem dL_law_238 : decode cL_law 238 = .ok (.invokevirtual 36, 3) := by decide +kernel
theorem dL_law_241 : decode cL_law 241 = .ok (.aload_n 2, 1) := by decide +kernel
theorem dL_law_242 : decode cL_law 242 = .ok (.invokevirtual 40, 3) := by decide +kernel
theorem dL_law_245 : decode cL_law 245 = .ok (.if_icmp .eq 212, 3) := by decide +kernel
theorem dL_law_248 : decode cL_law 248 = .ok (.iconst 0, 1) := by decide +kernel
theorem dL_law_249 : decode cL_law 249 = .ok (.ireturn, 1) := by decide +kernel
theorem dL_law_250 : decode cL_law 250 = .ok (.aload_n 1, 1) := by decide +kernel
theorem dL_law_251 : decode cL_law 251 = .ok (.invokevirtual 41, 3) := by decide +kernel
theorem dL_law_254 : decode cL_law 254 = .ok (.aload_n 2, 1) := by decide +kernel
theorem dL_law_255 : decode cL_law 255 = .ok (.invokevirtual 44, 3) := by decide +kernel
theorem dL_law_258 : decode cL_law 258 = .ok (.if_icmp .eq 199, 3) := by decide +kernel
theorem dL_law_261 : decode cL_law 261 = .ok (.iconst 0, 1) := by decide +kernel
theorem dL_law_262 : decode cL_law 262 = .ok (.ireturn, 1) := by decide +kernel
theorem dL_law_263 : decode cL_law 263 = .ok (.aload_n 1, 1) := by decide +kernel
theorem dL_law_264 : decode cL_law 264 = .ok (.aload_n 0, 1) := by decide +kernel
theorem dL_law_265 : decode cL_law 265 = .ok (.iload_n 3, 1) := by decide +kernel
theorem dL_law_266 : decode cL_law 266 = .ok (.iconst 1, 1) := by decide +kernel
theorem dL_law_267 : decode cL_law 267 = .ok (.iadd, 1) := by decide +kernel
theorem dL_law_268 : decode cL_law 268 = .ok (.iaload, 1) := by decide +kernel
theorem dL_law_269 : decode cL_law 269 = .ok (.aload_n 0, 1) := by decide +kernel
theorem dL_law_270 : decode cL_law 270 = .ok (.iload_n 3, 1) := by decide +kernel
theorem dL_law_271 : decode cL_law 271 = .ok (.iconst 2, 1) := by decide +kernel
theorem dL_law_272 : decode cL_law 272 = .ok (.iadd, 1) := by decide +kernel
theorem dL_law_273 : decode cL_law 273 = .ok (.iaload, 1) := by decide +kernel
theorem dL_law_274 : decode cL_law 274 = .ok (.invokevirtual 45, 3) := by decide +kernel
theorem dL_law_277 : decode cL_law 277 = .ok (.aload_n 2, 1) := by decide +kernel
theorem dL_law_278 : decode cL_law 278 = .ok (.aload_n 0, 1) := by decide +kernel
theorem dL_law_279 : decode cL_law 279 = .ok (.iload_n 3, 1) := by decide +kernel
theorem dL_law_280 : decode cL_law 280 = .ok (.iconst 1, 1) := by decide +kernel
theorem dL_law_281 : decode cL_law 281 = .ok (.iadd, 1) := by decide +kernel
theorem dL_law_282 : decode cL_law 282 = .ok (.iaload, 1) := by decide +kernel
theorem dL_law_283 : decode cL_law 283 = .ok (.aload_n 0, 1) := by decide +kernel
theorem dL_law_284 : decode cL_law 284 = .ok (.iload_n 3, 1) := by decide +kernel
theorem dL_law_285 : decode cL_law 285 = .ok (.iconst 2, 1) := by decide +kernel
theorem dL_law_286 : decode cL_law 286 = .ok (.iadd, 1) := by decide +kernel
theorem dL_law_287 : decode cL_law 287 = .ok (.iaload, 1) := by decide +kernel
theorem dL_law_288 : decode cL_law 288 = .ok (.invokevirtual 48, 3) := by decide +kernel
theorem dL_law_291 : decode cL_law 291 = .ok (.if_icmp .eq 166, 3) := by decide +kernel
theorem dL_law_294 : decode cL_law 294 = .ok (.iconst 0, 1) := by decide +kernel
theorem dL_law_295 : decode cL_law 295 = .ok (.ireturn, 1) := by decide +kernel
theorem dL_law_296 : decode cL_law 296 = .ok (.aload_n 1, 1) := by decide +kernel
theorem dL_law_297 : decode cL_law 297 = .ok (.aload_n 0, 1) := by decide +kernel
theorem dL_law_298 : decode cL_law 298 = .ok (.iload_n 3, 1) := by decide +kernel
theorem dL_law_299 : decode cL_law 299 = .ok (.iconst 1, 1) := by decide +kernel
theorem dL_law_300 : decode cL_law 300 = .ok (.iadd, 1) := by decide +kernel
theorem dL_law_301 : decode cL_law 301 = .ok (.iaload, 1) := by decide +kernel
theorem dL_law_302 : decode cL_law 302 = .ok (.aload_n 0, 1) := by decide +kernel
theorem dL_law_303 : decode cL_law 303 = .ok (.iload_n 3, 1) := by decide +kernel
theorem dL_law_304 : decode cL_law 304 = .ok (.iconst 2, 1) := by decide +kernel
theorem dL_law_305 : decode cL_law 305 = .ok (.iadd, 1) := by decide +kernel
theorem dL_law_306 : decode cL_law 306 = .ok (.iaload, 1) := by decide +kernel
theorem dL_law_307 : decode cL_law 307 = .ok (.invokevirtual 49, 3) := by decide +kernel
theorem dL_law_310 : decode cL_law 310 = .ok (.aload_n 2, 1) := by decide +kernel
theorem dL_law_311 : decode cL_law 311 = .ok (.aload_n 0, 1) := by decide +kernel
theorem dL_law_312 : decode cL_law 312 = .ok (.iload_n 3, 1) := by decide +kernel
theorem dL_law_313 : decode cL_law 313 = .ok (.iconst 1, 1) := by decide +kernel
theorem dL_law_314 : decode cL_law 314 = .ok (.iadd, 1) := by decide +kernel
theorem dL_law_315 : decode cL_law 315 = .ok (.iaload, 1) := by decide +kernel
theorem dL_law_316 : decode cL_law 316 = .ok (.aload_n 0, 1) := by decide +kernel
theorem dL_law_317 : decode cL_law 317 = .ok (.iload_n 3, 1) := by decide +kernel
theorem dL_law_318 : decode cL_law 318 = .ok (.iconst 2, 1) := by decide +kernel
theorem dL_law_319 : decode cL_law 319 = .ok (.iadd, 1) := by decide +kernel
theorem dL_law_320 : decode cL_law 320 = .ok (.iaload, 1) := by decide +kernel
theorem dL_law_321 : decode cL_law 321 = .ok (.invokevirtual 52, 3) := by decide +kernel
theorem dL_law_324 : decode cL_law 324 = .ok (.if_icmp .eq 133, 3) := by decide +kernel
theorem dL_law_327 : decode cL_law 327 = .ok (.iconst 0, 1) := by decide +kernel
theorem dL_law_328 : decode cL_law 328 = .ok (.ireturn, 1) := by decide +kernel
theorem dL_law_329 : decode cL_law 329 = .ok (.aload_n 1, 1) := by decide +kernel
theorem dL_law_330 : decode cL_law 330 = .ok (.invokevirtual 53, 3) := by decide +kernel
theorem dL_law_333 : decode cL_law 333 = .ok (.aload_n 2, 1) := by decide +kernel
theorem dL_law_334 : decode cL_law 334 = .ok (.invokevirtual 56, 3) := by decide +kernel
theorem dL_law_337 : decode cL_law 337 = .ok (.if_icmp .eq 120, 3) := by decide +kernel
theorem dL_law_340 : decode cL_law 340 = .ok (.iconst 0, 1) := by decide +kernel
theorem dL_law_341 : decode cL_law 341 = .ok (.ireturn, 1) := by decide +kernel
theorem dL_law_342 : decode cL_law 342 = .ok (.aload_n 1, 1) := by decide +kernel
theorem dL_law_343 : decode cL_law 343 = .ok (.aload_n 0, 1) := by decide +kernel
theorem dL_law_344 : decode cL_law 344 = .ok (.iload_n 3, 1) := by decide +kernel
theorem dL_law_345 : decode cL_law 345 = .ok (.iconst 1, 1) := by decide +kernel
theorem dL_law_346 : decode cL_law 346 = .ok (.iadd, 1) := by decide +kernel
theorem dL_law_347 : decode cL_law 347 = .ok (.iaload, 1) := by decide +kernel
theorem dL_law_348 : decode cL_law 348 = .ok (.aload_n 0, 1) := by decide +kernel
theorem dL_law_349 : decode cL_law 349 = .ok (.iload_n 3, 1) := by decide +kernel
theorem dL_law_350 : decode cL_law 350 = .ok (.iconst 2, 1) := by decide +kernel
theorem dL_law_351 : decode cL_law 351 = .ok (.iadd, 1) := by decide +kernel
theorem dL_law_352 : decode cL_law 352 = .ok (.iaload, 1) := by decide +kernel
theorem dL_law_353 : decode cL_law 353 = .ok (.invokevirtual 57, 3) := by decide +kernel
theorem dL_law_356 : decode cL_law 356 = .ok (.aload_n 2, 1) := by decide +kernel
theorem dL_law_357 : decode cL_law 357 = .ok (.aload_n 0, 1) := by decide +kernel
theorem dL_law_358 : decode cL_law 358 = .ok (.iload_n 3, 1) := by decide +kernel
theorem dL_law_359 : decode cL_law 359 = .ok (.iconst 1, 1) := by decide +kernel
theorem dL_law_360 : decode cL_law 360 = .ok (.iadd, 1) := by decide +kernel
theorem dL_law_361 : decode cL_law 361 = .ok (.iaload, 1) := by decide +kernel
theorem dL_law_362 : decode cL_law 362 = .ok (.aload_n 0, 1) := by decide +kernel
theorem dL_law_363 : decode cL_law 363 = .ok (.iload_n 3, 1) := by decide +kernel
theorem dL_law_364 : decode cL_law 364 = .ok (.iconst 2, 1) := by decide +kernel
theorem dL_law_365 : decode cL_law 365 = .ok (.iadd, 1) := by decide +kernel
theorem dL_law_366 : decode cL_law 366 = .ok (.iaload, 1) := by decide +kernel
theorem dL_law_367 : decode cL_law 367 = .ok (.invokevirtual 60, 3) := by decide +kernel
theorem dL_law_370 : decode cL_law 370 = .ok (.if_icmp .eq 87, 3) := by decide +kernel
theorem dL_law_373 : decode cL_law 373 = .ok (.iconst 0, 1) := by decide +kernel
theorem dL_law_374 : decode cL_law 374 = .ok (.ireturn, 1) := by decide +kernel
theorem dL_law_375 : decode cL_law 375 = .ok (.aload_n 1, 1) := by decide +kernel
theorem dL_law_376 : decode cL_law 376 = .ok (.invokevirtual 61, 3) := by decide +kernel
theorem dL_law_379 : decode cL_law 379 = .ok (.aload_n 2, 1) := by decide +kernel
theorem dL_law_380 : decode cL_law 380 = .ok (.invokevirtual 65, 3) := by decide +kernel
theorem dL_law_383 : decode cL_law 383 = .ok (.if_icmp .eq 74, 3) := by decide +kernel
theorem dL_law_386 : decode cL_law 386 = .ok (.iconst 0, 1) := by decide +kernel
theorem dL_law_387 : decode cL_law 387 = .ok (.ireturn, 1) := by decide +kernel
theorem dL_law_388 : decode cL_law 388 = .ok (.aload_n 1, 1) := by decide +kernel
theorem dL_law_389 : decode cL_law 389 = .ok (.aload_n 0, 1) := by decide +kernel
theorem dL_law_390 : decode cL_law 390 = .ok (.iload_n 3, 1) := by decide +kernel
theorem dL_law_391 : decode cL_law 391 = .ok (.iconst 1, 1) := by decide +kernel
theorem dL_law_392 : decode cL_law 392 = .ok (.iadd, 1) := by decide +kernel
theorem dL_law_393 : decode cL_law 393 = .ok (.iaload, 1) := by decide +kernel
theorem dL_law_394 : decode cL_law 394 = .ok (.invokevirtual 66, 3) := by decide +kernel
theorem dL_law_397 : decode cL_law 397 = .ok (.aload_n 2, 1) := by decide +kernel
theorem dL_law_398 : decode cL_law 398 = .ok (.aload_n 0, 1) := by decide +kernel
theorem dL_law_399 : decode cL_law 399 = .ok (.iload_n 3, 1) := by decide +kernel
theorem dL_law_400 : decode cL_law 400 = .ok (.iconst 1, 1) := by decide +kernel
theorem dL_law_401 : decode cL_law 401 = .ok (.iadd, 1) := by decide +kernel
theorem dL_law_402 : decode cL_law 402 = .ok (.iaload, 1) := by decide +kernel
theorem dL_law_403 : decode cL_law 403 = .ok (.invokevirtual 70, 3) := by decide +kernel
theorem dL_law_406 : decode cL_law 406 = .ok (.if_icmp .eq 51, 3) := by decide +kernel
theorem dL_law_409 : decode cL_law 409 = .ok (.iconst 0, 1) := by decide +kernel
theorem dL_law_410 : decode cL_law 410 = .ok (.ireturn, 1) := by decide +kernel
theorem dL_law_411 : decode cL_law 411 = .ok (.aload_n 1, 1) := by decide +kernel
theorem dL_law_412 : decode cL_law 412 = .ok (.invokevirtual 71, 3) := by decide +kernel
theorem dL_law_415 : decode cL_law 415 = .ok (.aload_n 2, 1) := by decide +kernel
theorem dL_law_416 : decode cL_law 416 = .ok (.invokevirtual 74, 3) := by decide +kernel
theorem dL_law_419 : decode cL_law 419 = .ok (.if_icmp .eq 38, 3) := by decide +kernel
theorem dL_law_422 : decode cL_law 422 = .ok (.iconst 0, 1) := by decide +kernel
theorem dL_law_423 : decode cL_law 423 = .ok (.ireturn, 1) := by decide +kernel
theorem dL_law_424 : decode cL_law 424 = .ok (.aload_n 1, 1) := by decide +kernel
theorem dL_law_425 : decode cL_law 425 = .ok (.aload_n 0, 1) := by decide +kernel
theorem dL_law_426 : decode cL_law 426 = .ok (.iload_n 3, 1) := by decide +kernel
theorem dL_law_427 : decode cL_law 427 = .ok (.iconst 1, 1) := by decide +kernel
theorem dL_law_428 : decode cL_law 428 = .ok (.iadd, 1) := by decide +kernel
theorem dL_law_429 : decode cL_law 429 = .ok (.iaload, 1) := by decide +kernel
theorem dL_law_430 : decode cL_law 430 = .ok (.aload_n 0, 1) := by decide +kernel
theorem dL_law_431 : decode cL_law 431 = .ok (.iload_n 3, 1) := by decide +kernel
theorem dL_law_432 : decode cL_law 432 = .ok (.iconst 2, 1) := by decide +kernel
theorem dL_law_433 : decode cL_law 433 = .ok (.iadd, 1) := by decide +kernel
theorem dL_law_434 : decode cL_law 434 = .ok (.iaload, 1) := by decide +kernel
theorem dL_law_435 : decode cL_law 435 = .ok (.invokevirtual 75, 3) := by decide +kernel
theorem dL_law_438 : decode cL_law 438 = .ok (.aload_n 2, 1) := by decide +kernel
theorem dL_law_439 : decode cL_law 439 = .ok (.aload_n 0, 1) := by decide +kernel
theorem dL_law_440 : decode cL_law 440 = .ok (.iload_n 3, 1) := by decide +kernel
theorem dL_law_441 : decode cL_law 441 = .ok (.iconst 1, 1) := by decide +kernel
theorem dL_law_442 : decode cL_law 442 = .ok (.iadd, 1) := by decide +kernel
theorem dL_law_443 : decode cL_law 443 = .ok (.iaload, 1) := by decide +kernel
theorem dL_law_444 : decode cL_law 444 = .ok (.aload_n 0, 1) := by decide +kernel
theorem dL_law_445 : decode cL_law 445 = .ok (.iload_n 3, 1) := by decide +kernel
theorem dL_law_446 : decode cL_law 446 = .ok (.iconst 2, 1) := by decide +kernel
theorem dL_law_447 : decode cL_law 447 = .ok (.iadd, 1) := by decide +kernel
theorem dL_law_448 : decode cL_law 448 = .ok (.iaload, 1) := by decide +kernel
theorem dL_law_449 : decode cL_law 449 = .ok (.invokevirtual 78, 3) := by decide +kernel
theorem dL_law_452 : decode cL_law 452 = .ok (.if_icmp .eq 5, 3) := by decide +kernel
theorem dL_law_455 : decode cL_law 455 = .ok (.iconst 0, 1) := by decide +kernel
theorem dL_law_456 : decode cL_law 456 = .ok (.ireturn, 1) := by decide +kernel
theorem dL_law_457 : decode cL_law 457 = .ok (.iinc 3 4, 3) := by decide +kernel
theorem dL_law_460 : decode cL_law 460 = .ok (.goto (-412), 3) := by decide +kernel
theorem dL_law_463 : decode cL_law 463 = .ok (.iconst 1, 1) := by decide +kernel
theorem dL_law_464 : decode cL_law 464 = .ok (.ireturn, 1) := by decide +kernel
abbrev vwCl : List vw_C := [(RX0, TX0, 11), (RX1, TX1, 12)]
end
section
section NV
variable {p : Program} {l : Launch} {e : Env} {R : Room} {s : State} {m : MethodId} {args : Array Value} {below : List Frame} {meth : Method} {c : Code} {H : Heap} {locs : List Loc} {cells slots : Nat} {Q : State → Prop} {cc : ByteArray} {pc : Nat} {ls : Array Slot} {rest : List Value}
theorem nv_nz {b : Nat} (h0 : 0 < b) (h : b < 2 ^ 31) : ¬ nI b = 0 := nI_ne0 h0 h
theorem nv_lnz {b : Nat} (h0 : 0 < b) (h : b < 2 ^ 63) : ¬ lN b = 0 := by
  intro q
  have q2 : lN b = lN 0 := q
  rw [pk_lEQ h (by decide)] at q2
  omega
theorem nv_lN0 : lN 0 = 0 := by decide +kernel
theorem nv_lN1 : lN 1 = 1 := by decide +kernel
theorem nv_nI1 : nI 1 = 1 := by decide +kernel
theorem nv_iadd (hx : p.tables.exec = Jvm.exec) (hb : c.code = cc) {a b : Nat} (hdg : decode cc pc = .ok (.iadd, 1))
    (k : W p l e R s m args below meth c H locs cells slots Q (F0 m (pc + 1) ls (.int (nI (a + b)) :: rest))) : W p l e R s m args below meth c H locs cells slots Q (F0 m pc ls (.int (nI b) :: .int (nI a) :: rest)) := by
  refine lv_iadd hx hb hdg ?_
  rw [nI_add]
  exact k
theorem nv_imul (hx : p.tables.exec = Jvm.exec) (hb : c.code = cc) {a b : Nat} (hdg : decode cc pc = .ok (.imul, 1))
    (k : W p l e R s m args below meth c H locs cells slots Q (F0 m (pc + 1) ls (.int (nI (a * b)) :: rest))) : W p l e R s m args below meth c H locs cells slots Q (F0 m pc ls (.int (nI b) :: .int (nI a) :: rest)) := by
  refine lv_imul hx hb hdg ?_
  rw [pk_mul]
  exact k
theorem nv_isub (hx : p.tables.exec = Jvm.exec) (hb : c.code = cc) {a b : Nat} (h : b ≤ a) (hdg : decode cc pc = .ok (.isub, 1))
    (k : W p l e R s m args below meth c H locs cells slots Q (F0 m (pc + 1) ls (.int (nI (a - b)) :: rest))) : W p l e R s m args below meth c H locs cells slots Q (F0 m pc ls (.int (nI b) :: .int (nI a) :: rest)) := by
  refine lv_isub hx hb hdg ?_
  rw [pk_sub h]
  exact k
theorem nv_irem (hx : p.tables.exec = Jvm.exec) (hb : c.code = cc) {a b : Nat} (ha : a < 2 ^ 31) (h0 : 0 < b) (hb2 : b < 2 ^ 31) (hdg : decode cc pc = .ok (.irem, 1))
    (k : W p l e R s m args below meth c H locs cells slots Q (F0 m (pc + 1) ls (.int (nI (a % b)) :: rest))) : W p l e R s m args below meth c H locs cells slots Q (F0 m pc ls (.int (nI b) :: .int (nI a) :: rest)) := by
  refine lv_irem hx hb hdg (nI_ne0 h0 hb2) ?_
  rw [pk_rem ha h0 hb2]
  exact k
theorem nv_idiv (hx : p.tables.exec = Jvm.exec) (hb : c.code = cc) {a b : Nat} (ha : a < 2 ^ 31) (h0 : 0 < b) (hb2 : b < 2 ^ 31) (hdg : decode cc pc = .ok (.idiv, 1))
    (k : W p l e R s m args below meth c H locs cells slots Q (F0 m (pc + 1) ls (.int (nI (a / b)) :: rest))) : W p l e R s m args below meth c H locs cells slots Q (F0 m pc ls (.int (nI b) :: .int (nI a) :: rest)) := by
  refine lv_idiv hx hb hdg (nI_ne0 h0 hb2) ?_
  rw [pk_div ha h0 hb2]
  exact k
theorem nv_iand1 (hx : p.tables.exec = Jvm.exec) (hb : c.code = cc) {a : Nat} (ha : a < 2 ^ 31) (hdg : decode cc pc = .ok (.iand, 1))
    (k : W p l e R s m args below meth c H locs cells slots Q (F0 m (pc + 1) ls (.int (nI (a % 2)) :: rest))) : W p l e R s m args below meth c H locs cells slots Q (F0 m pc ls (.int 1 :: .int (nI a) :: rest)) := by
  refine lv_iand hx hb hdg ?_
  rw [pk_andN (n := a) (by omega) (m := 1) 1 (by decide +kernel)]
  exact k
theorem nv_ishr1 (hx : p.tables.exec = Jvm.exec) (hb : c.code = cc) {a : Nat} (ha : a < 2 ^ 31) (hdg : decode cc pc = .ok (.ishr, 1))
    (k : W p l e R s m args below meth c H locs cells slots Q (F0 m (pc + 1) ls (.int (nI (a / 2)) :: rest))) : W p l e R s m args below meth c H locs cells slots Q (F0 m pc ls (.int 1 :: .int (nI a) :: rest)) := by
  refine lv_ishr hx hb hdg ?_
  rw [pk_shrN ha (1 &&& 31) 1 (by decide +kernel)]
  exact k
theorem nv_ladd (hx : p.tables.exec = Jvm.exec) (hb : c.code = cc) {a b : Nat} (hdg : decode cc pc = .ok (.ladd, 1))
    (k : W p l e R s m args below meth c H locs cells slots Q (F0 m (pc + 1) ls (.long (lN (a + b)) :: rest))) : W p l e R s m args below meth c H locs cells slots Q (F0 m pc ls (.long (lN b) :: .long (lN a) :: rest)) := by
  refine lv_ladd hx hb hdg ?_
  rw [lN_add]
  exact k
theorem nv_lmul (hx : p.tables.exec = Jvm.exec) (hb : c.code = cc) {a b : Nat} (hdg : decode cc pc = .ok (.lmul, 1))
    (k : W p l e R s m args below meth c H locs cells slots Q (F0 m (pc + 1) ls (.long (lN (a * b)) :: rest))) : W p l e R s m args below meth c H locs cells slots Q (F0 m pc ls (.long (lN b) :: .long (lN a) :: rest)) := by
  refine lv_lmul hx hb hdg ?_
  rw [lN_mul]
  exact k
theorem nv_lsub (hx : p.tables.exec = Jvm.exec) (hb : c.code = cc) {a b : Nat} (h : b ≤ a) (hdg : decode cc pc = .ok (.lsub, 1))
    (k : W p l e R s m args below meth c H locs cells slots Q (F0 m (pc + 1) ls (.long (lN (a - b)) :: rest))) : W p l e R s m args below meth c H locs cells slots Q (F0 m pc ls (.long (lN b) :: .long (lN a) :: rest)) := by
  refine lv_lsub hx hb hdg ?_
  rw [lN_sub h]
  exact k
theorem nv_lrem (hx : p.tables.exec = Jvm.exec) (hb : c.code = cc) {a b : Nat} (ha : a < 2 ^ 63) (h0 : 0 < b) (hb2 : b < 2 ^ 63) (hdg : decode cc pc = .ok (.lrem, 1))
    (k : W p l e R s m args below meth c H locs cells slots Q (F0 m (pc + 1) ls (.long (lN (a % b)) :: rest))) : W p l e R s m args below meth c H locs cells slots Q (F0 m pc ls (.long (lN b) :: .long (lN a) :: rest)) := by
  refine lv_lrem hx hb hdg (nv_lnz h0 hb2) ?_
  rw [pk_lRem ha h0 hb2]
  exact k
theorem nv_ldiv (hx : p.tables.exec = Jvm.exec) (hb : c.code = cc) {a b : Nat} (ha : a < 2 ^ 63) (h0 : 0 < b) (hb2 : b < 2 ^ 63) (hdg : decode cc pc = .ok (.ldiv, 1))
    (k : W p l e R s m args below meth c H locs cells slots Q (F0 m (pc + 1) ls (.long (lN (a / b)) :: rest))) : W p l e R s m args below meth c H locs cells slots Q (F0 m pc ls (.long (lN b) :: .long (lN a) :: rest)) := by
  refine lv_ldiv hx hb hdg (nv_lnz h0 hb2) ?_
  rw [pk_lDiv ha h0 hb2]
  exact k
theorem nv_i2l (hx : p.tables.exec = Jvm.exec) (hb : c.code = cc) {a : Nat} (ha : a < 2 ^ 31) (hdg : decode cc pc = .ok (.i2l, 1))
    (k : W p l e R s m args below meth c H locs cells slots Q (F0 m (pc + 1) ls (.long (lN a) :: rest))) : W p l e R s m args below meth c H locs cells slots Q (F0 m pc ls (.int (nI a) :: rest)) := by
  exact lv_i2l hx hb hdg (nI_l ha) k
theorem nv_l2i (hx : p.tables.exec = Jvm.exec) (hb : c.code = cc) {a : Nat} (hdg : decode cc pc = .ok (.l2i, 1))
    (k : W p l e R s m args below meth c H locs cells slots Q (F0 m (pc + 1) ls (.int (nI a) :: rest))) : W p l e R s m args below meth c H locs cells slots Q (F0 m pc ls (.long (lN a) :: rest)) := by
  exact lv_l2i hx hb hdg (lN_i a) k
theorem nv_icmp_eq (hx : p.tables.exec = Jvm.exec) (hb : c.code = cc) {a b : Nat} {off : Int} {tgt : Nat} (hdg : decode cc pc = .ok (.if_icmp .eq off, 3)) (ht : (pc : Int) + off = (tgt : Int)) (ha : a < 2 ^ 31) (hb2 : b < 2 ^ 31)
    (kt : a = b → W p l e R s m args below meth c H locs cells slots Q (F0 m tgt ls (rest))) (kf : a ≠ b → W p l e R s m args below meth c H locs cells slots Q (F0 m (pc + 3) ls (rest))) : W p l e R s m args below meth c H locs cells slots Q (F0 m pc ls (.int (nI b) :: .int (nI a) :: rest)) := by
  refine lv_icmp_eq hx hb hdg ht (fun q => kt ?_) (fun q => kf ?_)
  · have z := nI_eq ha hb2
    simp only [z] at q
    first | omega | (simp at q; omega)
  · have z := nI_eq ha hb2
    simp only [z] at q
    first | omega | (simp at q; omega)
theorem nv_icmp_ne (hx : p.tables.exec = Jvm.exec) (hb : c.code = cc) {a b : Nat} {off : Int} {tgt : Nat} (hdg : decode cc pc = .ok (.if_icmp .ne off, 3)) (ht : (pc : Int) + off = (tgt : Int)) (ha : a < 2 ^ 31) (hb2 : b < 2 ^ 31)
    (kt : a ≠ b → W p l e R s m args below meth c H locs cells slots Q (F0 m tgt ls (rest))) (kf : a = b → W p l e R s m args below meth c H locs cells slots Q (F0 m (pc + 3) ls (rest))) : W p l e R s m args below meth c H locs cells slots Q (F0 m pc ls (.int (nI b) :: .int (nI a) :: rest)) := by
  refine lv_icmp_ne hx hb hdg ht (fun q => kt ?_) (fun q => kf ?_)
  · have z := nI_eq ha hb2
    simp only [z] at q
    first | omega | (simp at q; omega)
  · have z := nI_eq ha hb2
    simp only [z] at q
    first | omega | (simp at q; omega)
theorem nv_icmp_lt (hx : p.tables.exec = Jvm.exec) (hb : c.code = cc) {a b : Nat} {off : Int} {tgt : Nat} (hdg : decode cc pc = .ok (.if_icmp .lt off, 3)) (ht : (pc : Int) + off = (tgt : Int)) (ha : a < 2 ^ 31) (hb2 : b < 2 ^ 31)
    (kt : a < b → W p l e R s m args below meth c H locs cells slots Q (F0 m tgt ls (rest))) (kf : b ≤ a → W p l e R s m args below meth c H locs cells slots Q (F0 m (pc + 3) ls (rest))) : W p l e R s m args below meth c H locs cells slots Q (F0 m pc ls (.int (nI b) :: .int (nI a) :: rest)) := by
  refine lv_icmp_lt hx hb hdg ht (fun q => kt ?_) (fun q => kf ?_)
  · have z := nI_ltI ha hb2
    simp only [z] at q
    first | omega | (simp at q; omega)
  · have z := nI_ltI ha hb2
    simp only [z] at q
    first | omega | (simp at q; omega)
theorem nv_icmp_ge (hx : p.tables.exec = Jvm.exec) (hb : c.code = cc) {a b : Nat} {off : Int} {tgt : Nat} (hdg : decode cc pc = .ok (.if_icmp .ge off, 3)) (ht : (pc : Int) + off = (tgt : Int)) (ha : a < 2 ^ 31) (hb2 : b < 2 ^ 31)
    (kt : b ≤ a → W p l e R s m args below meth c H locs cells slots Q (F0 m tgt ls (rest))) (kf : a < b → W p l e R s m args below meth c H locs cells slots Q (F0 m (pc + 3) ls (rest))) : W p l e R s m args below meth c H locs cells slots Q (F0 m pc ls (.int (nI b) :: .int (nI a) :: rest)) := by
  refine lv_icmp_ge hx hb hdg ht (fun q => kt ?_) (fun q => kf ?_)
  · have z := nI_leI hb2 ha
    simp only [z] at q
    first | omega | (simp at q; omega)
  · have z := nI_leI hb2 ha
    simp only [z] at q
    first | omega | (simp at q; omega)
theorem nv_icmp_gt (hx : p.tables.exec = Jvm.exec) (hb : c.code = cc) {a b : Nat} {off : Int} {tgt : Nat} (hdg : decode cc pc = .ok (.if_icmp .gt off, 3)) (ht : (pc : Int) + off = (tgt : Int)) (ha : a < 2 ^ 31) (hb2 : b < 2 ^ 31)
    (kt : b < a → W p l e R s m args below meth c H locs cells slots Q (F0 m tgt ls (rest))) (kf : a ≤ b → W p l e R s m args below meth c H locs cells slots Q (F0 m (pc + 3) ls (rest))) : W p l e R s m args below meth c H locs cells slots Q (F0 m pc ls (.int (nI b) :: .int (nI a) :: rest)) := by
  refine lv_icmp_gt hx hb hdg ht (fun q => kt ?_) (fun q => kf ?_)
  · have z := nI_ltI hb2 ha
    simp only [z] at q
    first | omega | (simp at q; omega)
  · have z := nI_ltI hb2 ha
    simp only [z] at q
    first | omega | (simp at q; omega)
theorem nv_icmp_le (hx : p.tables.exec = Jvm.exec) (hb : c.code = cc) {a b : Nat} {off : Int} {tgt : Nat} (hdg : decode cc pc = .ok (.if_icmp .le off, 3)) (ht : (pc : Int) + off = (tgt : Int)) (ha : a < 2 ^ 31) (hb2 : b < 2 ^ 31)
    (kt : a ≤ b → W p l e R s m args below meth c H locs cells slots Q (F0 m tgt ls (rest))) (kf : b < a → W p l e R s m args below meth c H locs cells slots Q (F0 m (pc + 3) ls (rest))) : W p l e R s m args below meth c H locs cells slots Q (F0 m pc ls (.int (nI b) :: .int (nI a) :: rest)) := by
  refine lv_icmp_le hx hb hdg ht (fun q => kt ?_) (fun q => kf ?_)
  · have z := nI_leI ha hb2
    simp only [z] at q
    first | omega | (simp at q; omega)
  · have z := nI_leI ha hb2
    simp only [z] at q
    first | omega | (simp at q; omega)
theorem nv_if_eq (hx : p.tables.exec = Jvm.exec) (hb : c.code = cc) {a : Nat} {off : Int} {tgt : Nat} (hdg : decode cc pc = .ok (.ifCond .eq off, 3)) (ht : (pc : Int) + off = (tgt : Int)) (ha : a < 2 ^ 31)
    (kt : a = 0 → W p l e R s m args below meth c H locs cells slots Q (F0 m tgt ls (rest))) (kf : a ≠ 0 → W p l e R s m args below meth c H locs cells slots Q (F0 m (pc + 3) ls (rest))) : W p l e R s m args below meth c H locs cells slots Q (F0 m pc ls (.int (nI a) :: rest)) := by
  have hb2 : 0 < 2 ^ 31 := by decide
  refine lv_if_eq hx hb hdg ht (fun q => kt ?_) (fun q => kf ?_)
  · rw [← nI_0] at q
    have z := nI_eq ha hb2
    simp only [z] at q
    first | omega | (simp at q; omega)
  · rw [← nI_0] at q
    have z := nI_eq ha hb2
    simp only [z] at q
    first | omega | (simp at q; omega)
theorem nv_if_ne (hx : p.tables.exec = Jvm.exec) (hb : c.code = cc) {a : Nat} {off : Int} {tgt : Nat} (hdg : decode cc pc = .ok (.ifCond .ne off, 3)) (ht : (pc : Int) + off = (tgt : Int)) (ha : a < 2 ^ 31)
    (kt : a ≠ 0 → W p l e R s m args below meth c H locs cells slots Q (F0 m tgt ls (rest))) (kf : a = 0 → W p l e R s m args below meth c H locs cells slots Q (F0 m (pc + 3) ls (rest))) : W p l e R s m args below meth c H locs cells slots Q (F0 m pc ls (.int (nI a) :: rest)) := by
  have hb2 : 0 < 2 ^ 31 := by decide
  refine lv_if_ne hx hb hdg ht (fun q => kt ?_) (fun q => kf ?_)
  · rw [← nI_0] at q
    have z := nI_eq ha hb2
    simp only [z] at q
    first | omega | (simp at q; omega)
  · rw [← nI_0] at q
    have z := nI_eq ha hb2
    simp only [z] at q
    first | omega | (simp at q; omega)
theorem nv_if_lt (hx : p.tables.exec = Jvm.exec) (hb : c.code = cc) {a : Nat} {off : Int} {tgt : Nat} (hdg : decode cc pc = .ok (.ifCond .lt off, 3)) (ht : (pc : Int) + off = (tgt : Int)) (ha : a < 2 ^ 31)
    (kt : a < 0 → W p l e R s m args below meth c H locs cells slots Q (F0 m tgt ls (rest))) (kf : 0 ≤ a → W p l e R s m args below meth c H locs cells slots Q (F0 m (pc + 3) ls (rest))) : W p l e R s m args below meth c H locs cells slots Q (F0 m pc ls (.int (nI a) :: rest)) := by
  have hb2 : 0 < 2 ^ 31 := by decide
  refine lv_if_lt hx hb hdg ht (fun q => kt ?_) (fun q => kf ?_)
  · rw [← nI_0] at q
    have z := nI_ltI ha hb2
    simp only [z] at q
    first | omega | (simp at q; omega)
  · rw [← nI_0] at q
    have z := nI_ltI ha hb2
    simp only [z] at q
    first | omega | (simp at q; omega)
theorem nv_if_ge (hx : p.tables.exec = Jvm.exec) (hb : c.code = cc) {a : Nat} {off : Int} {tgt : Nat} (hdg : decode cc pc = .ok (.ifCond .ge off, 3)) (ht : (pc : Int) + off = (tgt : Int)) (ha : a < 2 ^ 31)
    (kt : 0 ≤ a → W p l e R s m args below meth c H locs cells slots Q (F0 m tgt ls (rest))) (kf : a < 0 → W p l e R s m args below meth c H locs cells slots Q (F0 m (pc + 3) ls (rest))) : W p l e R s m args below meth c H locs cells slots Q (F0 m pc ls (.int (nI a) :: rest)) := by
  have hb2 : 0 < 2 ^ 31 := by decide
  refine lv_if_ge hx hb hdg ht (fun q => kt ?_) (fun q => kf ?_)
  · rw [← nI_0] at q
    have z := nI_leI hb2 ha
    simp only [z] at q
    first | omega | (simp at q; omega)
  · rw [← nI_0] at q
    have z := nI_leI hb2 ha
    simp only [z] at q
    first | omega | (simp at q; omega)
theorem nv_if_gt (hx : p.tables.exec = Jvm.exec) (hb : c.code = cc) {a : Nat} {off : Int} {tgt : Nat} (hdg : decode cc pc = .ok (.ifCond .gt off, 3)) (ht : (pc : Int) + off = (tgt : Int)) (ha : a < 2 ^ 31)
    (kt : 0 < a → W p l e R s m args below meth c H locs cells slots Q (F0 m tgt ls (rest))) (kf : a ≤ 0 → W p l e R s m args below meth c H locs cells slots Q (F0 m (pc + 3) ls (rest))) : W p l e R s m args below meth c H locs cells slots Q (F0 m pc ls (.int (nI a) :: rest)) := by
  have hb2 : 0 < 2 ^ 31 := by decide
  refine lv_if_gt hx hb hdg ht (fun q => kt ?_) (fun q => kf ?_)
  · rw [← nI_0] at q
    have z := nI_ltI hb2 ha
    simp only [z] at q
    first | omega | (simp at q; omega)
  · rw [← nI_0] at q
    have z := nI_ltI hb2 ha
    simp only [z] at q
    first | omega | (simp at q; omega)
theorem nv_if_le (hx : p.tables.exec = Jvm.exec) (hb : c.code = cc) {a : Nat} {off : Int} {tgt : Nat} (hdg : decode cc pc = .ok (.ifCond .le off, 3)) (ht : (pc : Int) + off = (tgt : Int)) (ha : a < 2 ^ 31)
    (kt : a ≤ 0 → W p l e R s m args below meth c H locs cells slots Q (F0 m tgt ls (rest))) (kf : 0 < a → W p l e R s m args below meth c H locs cells slots Q (F0 m (pc + 3) ls (rest))) : W p l e R s m args below meth c H locs cells slots Q (F0 m pc ls (.int (nI a) :: rest)) := by
  have hb2 : 0 < 2 ^ 31 := by decide
  refine lv_if_le hx hb hdg ht (fun q => kt ?_) (fun q => kf ?_)
  · rw [← nI_0] at q
    have z := nI_leI ha hb2
    simp only [z] at q
    first | omega | (simp at q; omega)
  · rw [← nI_0] at q
    have z := nI_leI ha hb2
    simp only [z] at q
    first | omega | (simp at q; omega)
theorem nv_lcmp_eq (hx : p.tables.exec = Jvm.exec) (hb : c.code = cc) {a b : Nat} {off : Int} {tgt : Nat} (hd0 : decode cc pc = .ok (.lcmp, 1)) (hdg : decode cc (pc + 1) = .ok (.ifCond .eq off, 3)) (ht : ((pc + 1 : Nat) : Int) + off = (tgt : Int)) (ha : a < 2 ^ 63) (hb2 : b < 2 ^ 63)
    (kt : a = b → W p l e R s m args below meth c H locs cells slots Q (F0 m tgt ls (rest))) (kf : a ≠ b → W p l e R s m args below meth c H locs cells slots Q (F0 m (pc + 4) ls (rest))) : W p l e R s m args below meth c H locs cells slots Q (F0 m pc ls (.long (lN b) :: .long (lN a) :: rest)) := by
  refine W.lcmp hx hb hd0 ?_
  refine lv_if_eq hx hb hdg ht (fun q => kt ?_) (fun q => kf ?_)
  · have z := pk_lEQ ha hb2
    simp only [lg_cmp_eq, z] at q
    first | omega | (simp at q; omega)
  · have z := pk_lEQ ha hb2
    simp only [lg_cmp_eq, z] at q
    first | omega | (simp at q; omega)
theorem nv_lcmp_ne (hx : p.tables.exec = Jvm.exec) (hb : c.code = cc) {a b : Nat} {off : Int} {tgt : Nat} (hd0 : decode cc pc = .ok (.lcmp, 1)) (hdg : decode cc (pc + 1) = .ok (.ifCond .ne off, 3)) (ht : ((pc + 1 : Nat) : Int) + off = (tgt : Int)) (ha : a < 2 ^ 63) (hb2 : b < 2 ^ 63)
    (kt : a ≠ b → W p l e R s m args below meth c H locs cells slots Q (F0 m tgt ls (rest))) (kf : a = b → W p l e R s m args below meth c H locs cells slots Q (F0 m (pc + 4) ls (rest))) : W p l e R s m args below meth c H locs cells slots Q (F0 m pc ls (.long (lN b) :: .long (lN a) :: rest)) := by
  refine W.lcmp hx hb hd0 ?_
  refine lv_if_ne hx hb hdg ht (fun q => kt ?_) (fun q => kf ?_)
  · have z := pk_lEQ ha hb2
    simp only [lg_cmp_eq, z] at q
    first | omega | (simp at q; omega)
  · have z := pk_lEQ ha hb2
    simp only [lg_cmp_eq, z] at q
    first | omega | (simp at q; omega)
theorem nv_lcmp_lt (hx : p.tables.exec = Jvm.exec) (hb : c.code = cc) {a b : Nat} {off : Int} {tgt : Nat} (hd0 : decode cc pc = .ok (.lcmp, 1)) (hdg : decode cc (pc + 1) = .ok (.ifCond .lt off, 3)) (ht : ((pc + 1 : Nat) : Int) + off = (tgt : Int)) (ha : a < 2 ^ 63) (hb2 : b < 2 ^ 63)
    (kt : a < b → W p l e R s m args below meth c H locs cells slots Q (F0 m tgt ls (rest))) (kf : b ≤ a → W p l e R s m args below meth c H locs cells slots Q (F0 m (pc + 4) ls (rest))) : W p l e R s m args below meth c H locs cells slots Q (F0 m pc ls (.long (lN b) :: .long (lN a) :: rest)) := by
  refine W.lcmp hx hb hd0 ?_
  refine lv_if_lt hx hb hdg ht (fun q => kt ?_) (fun q => kf ?_)
  · have z := pk_lLT ha hb2
    simp only [lg_cmp_lt, z] at q
    first | omega | (simp at q; omega)
  · have z := pk_lLT ha hb2
    simp only [lg_cmp_lt, z] at q
    first | omega | (simp at q; omega)
theorem nv_lcmp_ge (hx : p.tables.exec = Jvm.exec) (hb : c.code = cc) {a b : Nat} {off : Int} {tgt : Nat} (hd0 : decode cc pc = .ok (.lcmp, 1)) (hdg : decode cc (pc + 1) = .ok (.ifCond .ge off, 3)) (ht : ((pc + 1 : Nat) : Int) + off = (tgt : Int)) (ha : a < 2 ^ 63) (hb2 : b < 2 ^ 63)
    (kt : b ≤ a → W p l e R s m args below meth c H locs cells slots Q (F0 m tgt ls (rest))) (kf : a < b → W p l e R s m args below meth c H locs cells slots Q (F0 m (pc + 4) ls (rest))) : W p l e R s m args below meth c H locs cells slots Q (F0 m pc ls (.long (lN b) :: .long (lN a) :: rest)) := by
  refine W.lcmp hx hb hd0 ?_
  refine lv_if_ge hx hb hdg ht (fun q => kt ?_) (fun q => kf ?_)
  · have z := pk_lLE hb2 ha
    simp only [lg_cmp_ge, z] at q
    first | omega | (simp at q; omega)
  · have z := pk_lLE hb2 ha
    simp only [lg_cmp_ge, z] at q
    first | omega | (simp at q; omega)
theorem nv_lcmp_gt (hx : p.tables.exec = Jvm.exec) (hb : c.code = cc) {a b : Nat} {off : Int} {tgt : Nat} (hd0 : decode cc pc = .ok (.lcmp, 1)) (hdg : decode cc (pc + 1) = .ok (.ifCond .gt off, 3)) (ht : ((pc + 1 : Nat) : Int) + off = (tgt : Int)) (ha : a < 2 ^ 63) (hb2 : b < 2 ^ 63)
    (kt : b < a → W p l e R s m args below meth c H locs cells slots Q (F0 m tgt ls (rest))) (kf : a ≤ b → W p l e R s m args below meth c H locs cells slots Q (F0 m (pc + 4) ls (rest))) : W p l e R s m args below meth c H locs cells slots Q (F0 m pc ls (.long (lN b) :: .long (lN a) :: rest)) := by
  refine W.lcmp hx hb hd0 ?_
  refine lv_if_gt hx hb hdg ht (fun q => kt ?_) (fun q => kf ?_)
  · have z := pk_lLT hb2 ha
    simp only [lg_cmp_gt, z] at q
    first | omega | (simp at q; omega)
  · have z := pk_lLT hb2 ha
    simp only [lg_cmp_gt, z] at q
    first | omega | (simp at q; omega)
theorem nv_lcmp_le (hx : p.tables.exec = Jvm.exec) (hb : c.code = cc) {a b : Nat} {off : Int} {tgt : Nat} (hd0 : decode cc pc = .ok (.lcmp, 1)) (hdg : decode cc (pc + 1) = .ok (.ifCond .le off, 3)) (ht : ((pc + 1 : Nat) : Int) + off = (tgt : Int)) (ha : a < 2 ^ 63) (hb2 : b < 2 ^ 63)
    (kt : a ≤ b → W p l e R s m args below meth c H locs cells slots Q (F0 m tgt ls (rest))) (kf : b < a → W p l e R s m args below meth c H locs cells slots Q (F0 m (pc + 4) ls (rest))) : W p l e R s m args below meth c H locs cells slots Q (F0 m pc ls (.long (lN b) :: .long (lN a) :: rest)) := by
  refine W.lcmp hx hb hd0 ?_
  refine lv_if_le hx hb hdg ht (fun q => kt ?_) (fun q => kf ?_)
  · have z := pk_lLE ha hb2
    simp only [lg_cmp_le, z] at q
    first | omega | (simp at q; omega)
  · have z := pk_lLE ha hb2
    simp only [lg_cmp_le, z] at q
    first | omega | (simp at q; omega)
end NV
section NVA
variable {p : Program} {l : Launch} {e : Env} {R : Room} {s : State} {m : MethodId} {args : Array Value} {below : List Frame} {meth : Method} {c : Code} {H : Heap} {locs : List Loc} {cells slots : Nat} {Q : State → Prop} {cc : ByteArray} {pc : Nat} {ls : Array Slot} {rest : List Value} {D : va_G} {cl : List vw_C} {tys : List (ClassId × FieldType)} {ws : va_W} {a : Nat} {A : Nat → Prop} {H0 : Heap}
theorem nv_iald (hx : p.tables.exec = Jvm.exec) (hb : c.code = cc) (hK : va_K D cl tys s) (hP : va_P D cl ws H) (q0 t0 : Nat) {cA : ClassId} {n : Nat} {f : Nat → Int32} (ha : ws[q0]? = some (a, .inl (cA, n, .inl f))) (ht : tys[t0]? = some (cA, .int)) {k : Nat} {v : Int32} (hk : k < n) (hn : n < 2 ^ 31) (hv : f k = v) (hdg : decode cc pc = .ok (.iaload, 1))
    (kk : W p l e R s m args below meth c H locs cells slots Q (F0 m (pc + 1) ls (.int v :: rest))) : W p l e R s m args below meth c H locs cells slots Q (F0 m pc ls (.int (nI k) :: .ref a :: rest)) := by
  refine va_iald hx hb hK hP q0 t0 ha ht (vp_in_nI hk hn) hdg ?_
  rw [nI_clamp (by omega), hv]
  exact kk
theorem nv_lald (hx : p.tables.exec = Jvm.exec) (hb : c.code = cc) (hK : va_K D cl tys s) (hP : va_P D cl ws H) (q0 t0 : Nat) {cA : ClassId} {n : Nat} {f : Nat → Int64} (ha : ws[q0]? = some (a, .inl (cA, n, .inr (.inl f)))) (ht : tys[t0]? = some (cA, .long)) {k : Nat} {v : Int64} (hk : k < n) (hn : n < 2 ^ 31) (hv : f k = v) (hdg : decode cc pc = .ok (.laload, 1))
    (kk : W p l e R s m args below meth c H locs cells slots Q (F0 m (pc + 1) ls (.long v :: rest))) : W p l e R s m args below meth c H locs cells slots Q (F0 m pc ls (.int (nI k) :: .ref a :: rest)) := by
  refine va_lald hx hb hK hP q0 t0 ha ht (vp_in_nI hk hn) hdg ?_
  rw [nI_clamp (by omega), hv]
  exact kk
theorem nv_iast (hx : p.tables.exec = Jvm.exec) (hb : c.code = cc) (hK : va_K D cl tys s) (hP : va_P D cl ws H) (hD : va_D A ws) (hS : va_S A H0 H locs) (q0 t0 : Nat) {cA : ClassId} {n : Nat} {f : Nat → Int32} (ha : ws[q0]? = some (a, .inl (cA, n, .inl f))) (ht : tys[t0]? = some (cA, .int)) {k : Nat} {x : Int32} (hk : k < n) (hn : n < 2 ^ 31) (hdg : decode cc pc = .ok (.iastore, 1))
    (kk : ∀ (H1 : Heap) (locs1 : List Loc), va_P D cl (ws.set q0 (a, .inl (cA, n, .inl (upd f k x)))) H1 → va_D A (ws.set q0 (a, .inl (cA, n, .inl (upd f k x)))) → va_S A H0 H1 locs1 → W p l e R s m args below meth c H1 locs1 cells slots Q (F0 m (pc + 1) ls rest)) : W p l e R s m args below meth c H locs cells slots Q (F0 m pc ls (.int x :: .int (nI k) :: .ref a :: rest)) := by
  refine va_iast hx hb hK hP hD hS q0 t0 ha ht (vp_in_nI hk hn) hdg ?_
  rw [nI_clamp (by omega)]
  exact kk
theorem nv_last (hx : p.tables.exec = Jvm.exec) (hb : c.code = cc) (hK : va_K D cl tys s) (hP : va_P D cl ws H) (hD : va_D A ws) (hS : va_S A H0 H locs) (q0 t0 : Nat) {cA : ClassId} {n : Nat} {f : Nat → Int64} (ha : ws[q0]? = some (a, .inl (cA, n, .inr (.inl f)))) (ht : tys[t0]? = some (cA, .long)) {k : Nat} {x : Int64} (hk : k < n) (hn : n < 2 ^ 31) (hdg : decode cc pc = .ok (.lastore, 1))
    (kk : ∀ (H1 : Heap) (locs1 : List Loc), va_P D cl (ws.set q0 (a, .inl (cA, n, .inr (.inl (vp_updL f k x))))) H1 → va_D A (ws.set q0 (a, .inl (cA, n, .inr (.inl (vp_updL f k x))))) → va_S A H0 H1 locs1 → W p l e R s m args below meth c H1 locs1 cells slots Q (F0 m (pc + 1) ls rest)) : W p l e R s m args below meth c H locs cells slots Q (F0 m pc ls (.long x :: .int (nI k) :: .ref a :: rest)) := by
  refine va_last hx hb hK hP hD hS q0 t0 ha ht (vp_in_nI hk hn) hdg ?_
  rw [nI_clamp (by omega)]
  exact kk
end NVA
end
section
/-! contracts by pictures: reading methods (nothing changes), writing methods (the picture's cells change) -/
theorem fr_nil {sz q : Nat} (h : va_A [] sz q) : sz ≤ q := by
  rcases h with ⟨k, e, hk⟩ | h
  · simp at hk
  · exact h
abbrev PcR (D : va_G) (w : va_W) (tys : List (ClassId × FieldType)) (av : List Value) (sz : Nat) : Array Value → State → Prop := va_Pc av (fun U => U.heap.size = sz ∧ va_P D vwCl w U.heap ∧ va_K D vwCl tys U)
abbrev PcW (D : va_G) (w : va_W) (tys : List (ClassId × FieldType)) (av : List Value) (sz : Nat) : Array Value → State → Prop := va_Pc av (fun U => U.heap.size = sz ∧ va_P D vwCl w U.heap ∧ va_K D vwCl tys U ∧ va_D (fun _ => True) w)
def RdI (l : Launch) (y : MethodName) (ws : List Cond) (rm : Room) (av : List Value) (D : va_G) (w : va_W) (tys : List (ClassId × FieldType)) (post : Int32 → Prop) : Prop :=
  ∀ sz : Nat, Met l y ws rm (PcR D w tys av sz) (va_Qi (fun (r : Int32) (_ : Unit) => post r) (fun _ _ => True) (va_A [] sz)) 0 0 (va_A [] sz)
def RdL (l : Launch) (y : MethodName) (ws : List Cond) (rm : Room) (av : List Value) (D : va_G) (w : va_W) (tys : List (ClassId × FieldType)) (post : Int64 → Prop) : Prop :=
  ∀ sz : Nat, Met l y ws rm (PcR D w tys av sz) (va_Ql (fun (r : Int64) (_ : Unit) => post r) (fun _ _ => True) (va_A [] sz)) 0 0 (va_A [] sz)
def WrI {U : Type} (l : Launch) (y : MethodName) (ws : List Cond) (rm : Room) (av : List Value) (D : va_G) (w : va_W) (tys : List (ClassId × FieldType)) (post : Int32 → U → Prop) (w' : U → va_W) : Prop :=
  ∀ sz : Nat, Met l y ws rm (PcW D w tys av sz) (va_Qi post (fun u t => va_P D vwCl (w' u) t.heap ∧ va_D (va_A w sz) (w' u)) (va_A w sz)) 0 0 (va_A w sz)
def WrV {U : Type} (l : Launch) (y : MethodName) (ws : List Cond) (rm : Room) (av : List Value) (D : va_G) (w : va_W) (tys : List (ClassId × FieldType)) (post : U → Prop) (w' : U → va_W) : Prop :=
  ∀ sz : Nat, Met l y ws rm (PcW D w tys av sz) (va_Qv post (fun u t => va_P D vwCl (w' u) t.heap ∧ va_D (va_A w sz) (w' u)) (va_A w sz)) 0 0 (va_A w sz)
theorem fb_R {D : va_G} {w : va_W} {tys : List (ClassId × FieldType)} {av : List Value} {sz : Nat} : FrameBlind (PcR D w tys av sz) := fun a U g mk q => by
  obtain ⟨q0, q1, qP, qK⟩ := q
  exact ⟨q0, q1, qP, va_K.moved (u := U) (U := U.calling g mk a) (Vm.Alike.refl U.vm) qK⟩
theorem fb_W {D : va_G} {w : va_W} {tys : List (ClassId × FieldType)} {av : List Value} {sz : Nat} : FrameBlind (PcW D w tys av sz) := fun a U g mk q => by
  obtain ⟨q0, q1, qP, qK, qD⟩ := q
  exact ⟨q0, q1, qP, va_K.moved (u := U) (U := U.calling g mk a) (Vm.Alike.refl U.vm) qK, qD⟩
theorem RdI.mk {l : Launch} {y : MethodName} {ws ws' : List Cond} {rm : Room} {av : List Value} {D : va_G} {w : va_W} {tys : List (ClassId × FieldType)} {post : Int32 → Prop} {cc : ByteArray} {maxL : Nat} {rt : FieldType} (hy : plainName y.cls = true) (hw : ws = Cond.code y cc maxL (some rt) :: ws') (hav : (lg_sl av).length ≤ maxL)
    (body : ∀ (p : Program) (e : Env) (s : State) (mm : MethodId) (args : Array Value) (below : List Frame) (meth : Method) (c : Code) (Q : State → Prop) (ls : Array Slot) (A : Nat → Prop), CallFix p mm c cc maxL s args ws y.cls → va_K D vwCl tys s → va_P D vwCl w s.heap → (∀ q, s.heap.size ≤ q → A q) → va_S A s.heap s.heap [] → lv_has ls maxL (lv_args 0 av) →
      (∀ (v : Int32) (pc : Nat) (ls : Array Slot) (H : Heap) (locs : List Loc), decode cc pc = .ok (.ireturn, 1) → narrow rt (.int v) = .int v → va_S A s.heap H locs → post v → W p l e rm s mm args below meth c H locs 0 0 Q (F0 mm pc ls [.int v])) →
      W p l e rm s mm args below meth c s.heap [] 0 0 Q (F0 mm 0 ls [])) : RdI l y ws rm av D w tys post := by
  intro sz
  refine Met.ofW (cc := cc) (maxL := maxL) (ret := some rt) hy hw ?_
  intro p e s m args below meth c s₁ B hml hv
  obtain ⟨rfl, hsz, hP, hK⟩ := hv
  subst hsz
  have hts := atoms_spec (ws := ws) B.pre
  have hlocks := B.notSynchronized
  have hl := lv_entry av (n := maxL) hav
  rw [lg_entry_eq]
  generalize (lg_sl av ++ List.replicate (maxL - (lg_sl av).length) Slot.unset).toArray = ls at hl ⊢
  refine body p e s m _ below meth c _ ls (va_A [] s.heap.size) ⟨B.exec, B.bytes, hml, findClass_of_methodNamed B.named, hts⟩ hK hP (fun q h => Or.inr h) va_S.rf hl ?_
  intro v pc ls H locs hd hn hS hpost
  exact W.zret B.exec B.bytes B.returns hn (fun t ht hW => ⟨⟨v, (), rfl, hpost, trivial⟩, hS.F ht⟩) hS.2.2 hd
theorem RdL.mk {l : Launch} {y : MethodName} {ws ws' : List Cond} {rm : Room} {av : List Value} {D : va_G} {w : va_W} {tys : List (ClassId × FieldType)} {post : Int64 → Prop} {cc : ByteArray} {maxL : Nat} (hy : plainName y.cls = true) (hw : ws = Cond.code y cc maxL (some .long) :: ws') (hav : (lg_sl av).length ≤ maxL)
    (body : ∀ (p : Program) (e : Env) (s : State) (mm : MethodId) (args : Array Value) (below : List Frame) (meth : Method) (c : Code) (Q : State → Prop) (ls : Array Slot) (A : Nat → Prop), CallFix p mm c cc maxL s args ws y.cls → va_K D vwCl tys s → va_P D vwCl w s.heap → (∀ q, s.heap.size ≤ q → A q) → va_S A s.heap s.heap [] → lv_has ls maxL (lv_args 0 av) →
      (∀ (v : Int64) (pc : Nat) (ls : Array Slot) (H : Heap) (locs : List Loc), decode cc pc = .ok (.lreturn, 1) → va_S A s.heap H locs → post v → W p l e rm s mm args below meth c H locs 0 0 Q (F0 mm pc ls [.long v])) →
      W p l e rm s mm args below meth c s.heap [] 0 0 Q (F0 mm 0 ls [])) : RdL l y ws rm av D w tys post := by
  intro sz
  refine Met.ofW (cc := cc) (maxL := maxL) (ret := some .long) hy hw ?_
  intro p e s m args below meth c s₁ B hml hv
  obtain ⟨rfl, hsz, hP, hK⟩ := hv
  subst hsz
  have hts := atoms_spec (ws := ws) B.pre
  have hlocks := B.notSynchronized
  have hl := lv_entry av (n := maxL) hav
  rw [lg_entry_eq]
  generalize (lg_sl av ++ List.replicate (maxL - (lg_sl av).length) Slot.unset).toArray = ls at hl ⊢
  refine body p e s m _ below meth c _ ls (va_A [] s.heap.size) ⟨B.exec, B.bytes, hml, findClass_of_methodNamed B.named, hts⟩ hK hP (fun q h => Or.inr h) va_S.rf hl ?_
  intro v pc ls H locs hd hS hpost
  exact W.lret B.exec B.bytes B.returns (fun t ht hW => ⟨⟨v, (), rfl, hpost, trivial⟩, hS.F ht⟩) hS.2.2 hd
theorem WrI.mk {U : Type} {l : Launch} {y : MethodName} {ws ws' : List Cond} {rm : Room} {av : List Value} {D : va_G} {w : va_W} {tys : List (ClassId × FieldType)} {post : Int32 → U → Prop} {w' : U → va_W} {cc : ByteArray} {maxL : Nat} {rt : FieldType} (hy : plainName y.cls = true) (hw : ws = Cond.code y cc maxL (some rt) :: ws') (hav : (lg_sl av).length ≤ maxL)
    (body : ∀ (p : Program) (e : Env) (s : State) (mm : MethodId) (args : Array Value) (below : List Frame) (meth : Method) (c : Code) (Q : State → Prop) (ls : Array Slot) (A : Nat → Prop), CallFix p mm c cc maxL s args ws y.cls → va_K D vwCl tys s → va_P D vwCl w s.heap → va_D A w → (∀ q, s.heap.size ≤ q → A q) → va_S A s.heap s.heap [] → lv_has ls maxL (lv_args 0 av) →
      (∀ (v : Int32) (u : U) (pc : Nat) (ls : Array Slot) (H : Heap) (locs : List Loc), decode cc pc = .ok (.ireturn, 1) → narrow rt (.int v) = .int v → va_P D vwCl (w' u) H → va_D A (w' u) → va_S A s.heap H locs → post v u → W p l e rm s mm args below meth c H locs 0 0 Q (F0 mm pc ls [.int v])) →
      W p l e rm s mm args below meth c s.heap [] 0 0 Q (F0 mm 0 ls [])) : WrI l y ws rm av D w tys post w' := by
  intro sz
  refine Met.ofW (cc := cc) (maxL := maxL) (ret := some rt) hy hw ?_
  intro p e s m args below meth c s₁ B hml hv
  obtain ⟨rfl, hsz, hP, hK, hD⟩ := hv
  subst hsz
  have hts := atoms_spec (ws := ws) B.pre
  have hlocks := B.notSynchronized
  have hl := lv_entry av (n := maxL) hav
  rw [lg_entry_eq]
  generalize (lg_sl av ++ List.replicate (maxL - (lg_sl av).length) Slot.unset).toArray = ls at hl ⊢
  refine body p e s m _ below meth c _ ls (va_A w s.heap.size) ⟨B.exec, B.bytes, hml, findClass_of_methodNamed B.named, hts⟩ hK hP (hD.self) (fun q h => Or.inr h) va_S.rf hl ?_
  intro v u pc ls H locs hd hn hP1 hD1 hS hpost
  exact W.zret B.exec B.bytes B.returns hn (fun t ht hW => ⟨⟨v, u, rfl, hpost, by rw [ht]; exact hP1, hD1⟩, hS.F ht⟩) hS.2.2 hd
theorem WrV.mk {U : Type} {l : Launch} {y : MethodName} {ws ws' : List Cond} {rm : Room} {av : List Value} {D : va_G} {w : va_W} {tys : List (ClassId × FieldType)} {post : U → Prop} {w' : U → va_W} {cc : ByteArray} {maxL : Nat} (hy : plainName y.cls = true) (hw : ws = Cond.code y cc maxL none :: ws') (hav : (lg_sl av).length ≤ maxL)
    (body : ∀ (p : Program) (e : Env) (s : State) (mm : MethodId) (args : Array Value) (below : List Frame) (meth : Method) (c : Code) (Q : State → Prop) (ls : Array Slot) (A : Nat → Prop), CallFix p mm c cc maxL s args ws y.cls → va_K D vwCl tys s → va_P D vwCl w s.heap → va_D A w → (∀ q, s.heap.size ≤ q → A q) → va_S A s.heap s.heap [] → lv_has ls maxL (lv_args 0 av) →
      (∀ (u : U) (pc : Nat) (ls : Array Slot) (H : Heap) (locs : List Loc), decode cc pc = .ok (.return_, 1) → va_P D vwCl (w' u) H → va_D A (w' u) → va_S A s.heap H locs → post u → W p l e rm s mm args below meth c H locs 0 0 Q (F0 mm pc ls [])) →
      W p l e rm s mm args below meth c s.heap [] 0 0 Q (F0 mm 0 ls [])) : WrV l y ws rm av D w tys post w' := by
  intro sz
  refine Met.ofW (cc := cc) (maxL := maxL) (ret := none) hy hw ?_
  intro p e s m args below meth c s₁ B hml hv
  obtain ⟨rfl, hsz, hP, hK, hD⟩ := hv
  subst hsz
  have hts := atoms_spec (ws := ws) B.pre
  have hlocks := B.notSynchronized
  have hl := lv_entry av (n := maxL) hav
  rw [lg_entry_eq]
  generalize (lg_sl av ++ List.replicate (maxL - (lg_sl av).length) Slot.unset).toArray = ls at hl ⊢
  refine body p e s m _ below meth c _ ls (va_A w s.heap.size) ⟨B.exec, B.bytes, hml, findClass_of_methodNamed B.named, hts⟩ hK hP (hD.self) (fun q h => Or.inr h) va_S.rf hl ?_
  intro u pc ls H locs hd hP1 hD1 hS hpost
  exact W.vret B.exec B.bytes B.returns (fun t ht hW => ⟨⟨u, rfl, hpost, by rw [ht]; exact hP1, hD1⟩, hS.F ht⟩) hS.2.2 hd
/-! calls -/
section CALLS
variable {p : Program} {l : Launch} {e : Env} {R : Room} {s : State} {m : MethodId} {args : Array Value} {below : List Frame} {meth : Method} {c : Code} {H H0 : Heap} {locs : List Loc} {cells slots : Nat} {Q : State → Prop} {cc bytes : ByteArray} {pc nL maxL index n : Nat} {ls : Array Slot} {D : va_G} {w w0 v : va_W} {tys : List (ClassId × FieldType)} {b ci N : Nat} {T : u_T} {fs : List Value} {A : Nat → Prop} {y : MethodName} {ws Ts : List Cond} {rm : Room} {own C : String} {ret : Option FieldType} {As rest st0 : List Value}
theorem fr_hf (hS : va_S A H0 H locs) (hA : ∀ q, H0.size ≤ q → A q) : ∀ q, va_A [] H.size q → A q := fun q h => hA q (Nat.le_trans hS.1 (fr_nil h))
theorem fr_keep {H1 : Heap} (hP : va_P D vwCl w0 H) (hk : ∀ q : Nat, q < H.size → ¬ va_A [] H.size q → H1[q]? = H[q]?) : va_P D vwCl w0 H1 := hP.kept (fun k q hq => hk q.1 (hP k q hq).lt (fun h => Nat.not_le.mpr (hP k q hq).lt (fr_nil h)))
theorem fr_wf (hP : va_P D vwCl w H) (hD : va_D A w) (hS : va_S A H0 H locs) (hA : ∀ q, H0.size ≤ q → A q) : ∀ q, va_A w H.size q → A q := by
  intro q h
  rcases h with ⟨k, e, hk⟩ | h
  · exact hD.2 k (q, e) hk
  · exact hA q (Nat.le_trans hS.1 h)
theorem rdv_i {post : Int32 → Prop} (S : CallFix p m c cc nL s args Ts own) (hM : RdI l y ws rm (.ref b :: As) D w tys post) (cw : CallW R s args own C index y bytes maxL ret ws rm 0 0 n) (hn : As.length = n) (hK : va_K D vwCl tys s) (hPw : va_P D vwCl w H) (hc : vwCl[ci]? = some (C, T, N)) (he : w[0]? = some (b, .inr (ci, fs))) (hsize : ls.size = nL) (hstack : st0 = As.reverse ++ .ref b :: rest) (hW : (rest.map fun v => v.category).sum ≤ 8) (hdg : decode cc pc = .ok (.invokevirtual index, 3)) (hf : cells ≤ R.cells ∧ slots ≤ R.slots) (hP : va_P D vwCl w0 H) (hS : va_S A H0 H locs) (hA : ∀ q, H0.size ≤ q → A q)
    (kk : ∀ (r : Int32) (H1 : Heap) (locs1 : List Loc), post r → va_P D vwCl w0 H1 → va_S A H0 H1 locs1 → W p l e R s m args below meth c H1 locs1 cells slots Q (F0 m (pc + 3) ls (.int r :: rest))) : W p l e R s m args below meth c H locs cells slots Q (F0 m pc ls st0) := by
  refine va_calli (va_runV (As := As) (rest := rest) S (hM H.size) cw ⟨fb_R, va_recv hK hPw hc he, fun U hU hWm => ⟨rfl, by rw [hU], by rw [hU]; exact hPw, va_K.moved hWm.alike hK⟩⟩ rfl hn hsize hstack (lv_room hW) hdg hf) hS (fun q _ h => fr_hf hS hA q h) (fr_hf hS hA) (fun r u t H1 locs1 ht hvm hw hB hz1 hk1 hS1 => ?_)
  exact kk r H1 locs1 hw (fr_keep hP hk1) hS1
theorem rdv_l {post : Int64 → Prop} (S : CallFix p m c cc nL s args Ts own) (hM : RdL l y ws rm (.ref b :: As) D w tys post) (cw : CallW R s args own C index y bytes maxL ret ws rm 0 0 n) (hn : As.length = n) (hK : va_K D vwCl tys s) (hPw : va_P D vwCl w H) (hc : vwCl[ci]? = some (C, T, N)) (he : w[0]? = some (b, .inr (ci, fs))) (hsize : ls.size = nL) (hstack : st0 = As.reverse ++ .ref b :: rest) (hW : (rest.map fun v => v.category).sum ≤ 8) (hdg : decode cc pc = .ok (.invokevirtual index, 3)) (hf : cells ≤ R.cells ∧ slots ≤ R.slots) (hP : va_P D vwCl w0 H) (hS : va_S A H0 H locs) (hA : ∀ q, H0.size ≤ q → A q)
    (kk : ∀ (r : Int64) (H1 : Heap) (locs1 : List Loc), post r → va_P D vwCl w0 H1 → va_S A H0 H1 locs1 → W p l e R s m args below meth c H1 locs1 cells slots Q (F0 m (pc + 3) ls (.long r :: rest))) : W p l e R s m args below meth c H locs cells slots Q (F0 m pc ls st0) := by
  refine va_calll (va_runV (As := As) (rest := rest) S (hM H.size) cw ⟨fb_R, va_recv hK hPw hc he, fun U hU hWm => ⟨rfl, by rw [hU], by rw [hU]; exact hPw, va_K.moved hWm.alike hK⟩⟩ rfl hn hsize hstack (lv_room hW) hdg hf) hS (fun q _ h => fr_hf hS hA q h) (fr_hf hS hA) (fun r u t H1 locs1 ht hvm hw hB hz1 hk1 hS1 => ?_)
  exact kk r H1 locs1 hw (fr_keep hP hk1) hS1
theorem rds_i {post : Int32 → Prop} (S : CallFix p m c cc nL s args Ts own) (hM : RdI l y ws rm As D w tys post) (cw : CallB R s args own index y bytes maxL ret ws rm 0 0 n ∧ (Cond.static y).before args s = true) (hn : As.length = n) (hK : va_K D vwCl tys s) (hPw : va_P D vwCl w H) (hsize : ls.size = nL) (hstack : st0 = As.reverse ++ rest) (hW : (rest.map fun v => v.category).sum ≤ 8) (hdg : decode cc pc = .ok (.invokestatic index, 3)) (hf : cells ≤ R.cells ∧ slots ≤ R.slots) (hP : va_P D vwCl w0 H) (hS : va_S A H0 H locs) (hA : ∀ q, H0.size ≤ q → A q)
    (kk : ∀ (r : Int32) (H1 : Heap) (locs1 : List Loc), post r → va_P D vwCl w0 H1 → va_S A H0 H1 locs1 → W p l e R s m args below meth c H1 locs1 cells slots Q (F0 m (pc + 3) ls (.int r :: rest))) : W p l e R s m args below meth c H locs cells slots Q (F0 m pc ls st0) := by
  refine va_calli (va_runS (As := As) (rest := rest) S (hM H.size) cw ⟨fb_R, fun U hU hWm => ⟨rfl, by rw [hU], by rw [hU]; exact hPw, va_K.moved hWm.alike hK⟩⟩ rfl hn hsize hstack (lv_room hW) hdg hf) hS (fun q _ h => fr_hf hS hA q h) (fr_hf hS hA) (fun r u t H1 locs1 ht hvm hw hB hz1 hk1 hS1 => ?_)
  exact kk r H1 locs1 hw (fr_keep hP hk1) hS1
theorem wrv_v {U : Type} {post : U → Prop} {w' : U → va_W} (S : CallFix p m c cc nL s args Ts own) (hM : WrV l y ws rm (.ref b :: As) D w tys post w') (cw : CallW R s args own C index y bytes maxL ret ws rm 0 0 n) (hn : As.length = n) (hK : va_K D vwCl tys s) (hc : vwCl[ci]? = some (C, T, N)) (he : w[0]? = some (b, .inr (ci, fs))) (hsize : ls.size = nL) (hstack : st0 = As.reverse ++ .ref b :: rest) (hW : (rest.map fun v => v.category).sum ≤ 8) (hdg : decode cc pc = .ok (.invokevirtual index, 3)) (hf : cells ≤ R.cells ∧ slots ≤ R.slots) (hP : va_P D vwCl w H) (hD : va_D A w) (hS : va_S A H0 H locs) (hA : ∀ q, H0.size ≤ q → A q)
    (kk : ∀ (u : U) (H1 : Heap) (locs1 : List Loc), post u → va_P D vwCl (w' u) H1 → va_D A (w' u) → va_S A H0 H1 locs1 → W p l e R s m args below meth c H1 locs1 cells slots Q (F0 m (pc + 3) ls rest)) : W p l e R s m args below meth c H locs cells slots Q (F0 m pc ls st0) := by
  have hF := fr_wf hP hD hS hA
  refine va_callv (va_runV (As := As) (rest := rest) S (hM H.size) cw ⟨fb_W, va_recv hK hP hc he, fun U hU hWm => ⟨rfl, by rw [hU], by rw [hU]; exact hP, va_K.moved hWm.alike hK, hD.weaken (fun _ _ _ _ => trivial)⟩⟩ rfl hn hsize hstack (lv_room hW) hdg hf) hS (fun q _ h => hF q h) hF (fun u t H1 locs1 ht hvm hw hB hz1 hk1 hS1 => ?_)
  obtain ⟨hP1, hD1⟩ := hB
  rw [ht] at hP1
  exact kk u H1 locs1 hw hP1 (hD1.weaken (fun _ _ _ h => hF _ h)) hS1
/-- apart: no cell of the one picture is a cell of the other -/
def Apart (w v : va_W) : Prop := ∀ (i j : Nat) (p q : Nat × va_E), w[i]? = some p → v[j]? = some q → p.1 ≠ q.1
theorem Apart.symm (h : Apart w v) : Apart v w := fun i j p q h1 h2 e => h j i q p h2 h1 e.symm
theorem wri_f {U : Type} {post : Int32 → U → Prop} {w' : U → va_W} (S : CallFix p m c cc nL s args Ts own) (hM : WrI l y ws rm (.ref b :: As) D w tys post w') (cw : CallW R s args own C index y bytes maxL ret ws rm 0 0 n) (hn : As.length = n) (hK : va_K D vwCl tys s) (hc : vwCl[ci]? = some (C, T, N)) (he : w[0]? = some (b, .inr (ci, fs))) (hsize : ls.size = nL) (hstack : st0 = As.reverse ++ .ref b :: rest) (hW : (rest.map fun v => v.category).sum ≤ 8) (hdg : decode cc pc = .ok (.invokevirtual index, 3)) (hf : cells ≤ R.cells ∧ slots ≤ R.slots) (hP : va_P D vwCl w H) (hD : va_D A w) (hV : va_P D vwCl v H) (hX : Apart w v) (hS : va_S A H0 H locs) (hA : ∀ q, H0.size ≤ q → A q)
    (kk : ∀ (r : Int32) (u : U) (H1 : Heap) (locs1 : List Loc), post r u → va_P D vwCl (w' u) H1 → va_D A (w' u) → va_P D vwCl v H1 → Apart (w' u) v → va_S A H0 H1 locs1 → W p l e R s m args below meth c H1 locs1 cells slots Q (F0 m (pc + 3) ls (.int r :: rest))) : W p l e R s m args below meth c H locs cells slots Q (F0 m pc ls st0) := by
  have hF := fr_wf hP hD hS hA
  refine va_calli (va_runV (As := As) (rest := rest) S (hM H.size) cw ⟨fb_W, va_recv hK hP hc he, fun U hU hWm => ⟨rfl, by rw [hU], by rw [hU]; exact hP, va_K.moved hWm.alike hK, hD.weaken (fun _ _ _ _ => trivial)⟩⟩ rfl hn hsize hstack (lv_room hW) hdg hf) hS (fun q _ h => hF q h) hF (fun r u t H1 locs1 ht hvm hw hB hz1 hk1 hS1 => ?_)
  obtain ⟨hP1, hD1⟩ := hB
  rw [ht] at hP1
  have hno : ∀ (j : Nat) (q : Nat × va_E), v[j]? = some q → ¬ va_A w H.size q.1 := by
    intro j q hq h
    rcases h with ⟨k, e, hk⟩ | h
    · exact hX k j _ q hk hq rfl
    · exact Nat.not_le.mpr (hV j q hq).lt h
  refine kk r u H1 locs1 hw hP1 (hD1.weaken (fun _ _ _ h => hF _ h)) (hV.kept (fun j q hq => hk1 q.1 (hV j q hq).lt (hno j q hq))) ?_ hS1
  intro i j pp q h1 h2 h3
  exact hno j q h2 (h3 ▸ hD1.2 i pp h1)
end CALLS
end
section
theorem nv_inc (a k : Nat) (h : Int32.ofInt (k : Int) = nI k := by decide +kernel) : nI a + Int32.ofInt (k : Int) = nI (a + k) := by rw [h, nI_add]
theorem nv_dec {a : Nat} (h : 0 < a) : nI a + Int32.ofInt (-1) = nI (a - 1) := by
  obtain ⟨b, rfl⟩ : ∃ b, a = b + 1 := ⟨a - 1, by omega⟩
  exact pk_m1 b
theorem bd1 {m n : Nat} (h1 : m ≤ 10) (h2 : n ≤ 10) : m * n < 2 ^ 31 := Nat.lt_of_le_of_lt (Nat.mul_le_mul h1 h2) (by decide)
theorem bd3 {m n : Nat} (h1 : m ≤ 10) (h2 : n ≤ 10) : m * (n + m) < 2 ^ 31 := Nat.lt_of_le_of_lt (Nat.mul_le_mul h1 (show n + m ≤ 20 by omega)) (by decide)
theorem ix_lt {i m j w : Nat} (hi : i < m) (hj : j < w) : i * w + j < m * w := by
  have h : (i + 1) * w ≤ m * w := Nat.mul_le_mul_right w hi
  rw [Nat.succ_mul] at h
  omega
theorem ix_inj {i j a b w : Nat} (h1 : j < w) (h2 : b < w) (h : i * w + j = a * w + b) : i = a ∧ j = b := by
  have key : ∀ i a : Nat, i < a → i * w + w ≤ a * w := by
    intro i a q
    have z : (i + 1) * w ≤ a * w := Nat.mul_le_mul_right w q
    rw [Nat.succ_mul] at z
    exact z
  rcases Nat.lt_trichotomy i a with q | q | q
  · have := key i a q
    omega
  · subst q
    exact ⟨rfl, by omega⟩
  · have := key a i q
    omega
/-! the two objects' cells -/
abbrev pbW (h a1 a2 a3 a4 : Nat) (cA : ClassId) (pr : Int32) (mR nC : Nat) (fA fB fW fP : Nat → Int32) (rd pv pp : Nat) : va_W :=
  [(h, .inr (0, [.int pr, .int (nI mR), .int (nI nC), .ref a1, .ref a2, .ref a3, .int (nI (nC + mR)), .ref a4, .int (nI rd), .int (nI pv), .long (lN pp)])), (a1, .inl (cA, mR * nC, .inl fA)), (a2, .inl (cA, mR, .inl fB)), (a3, .inl (cA, mR * (nC + mR), .inl fW)), (a4, .inl (cA, nC, .inl fP))]
abbrev mdW (h b1 b2 b3 b4 b5 : Nat) (cJ cI : ClassId) (pj : Int64) (mi ni : Int32) (vd : Nat) (gA gB : Nat → Int64) (rd rk : Nat) (gR : Nat → Int64) (gP : Nat → Int32) (gS : Nat → Int64) : va_W :=
  [(h, .inr (1, [.int (nI 0), .long pj, .int mi, .int ni, .int (nI vd), .ref b1, .ref b2, .int (nI rd), .int (nI rk), .ref b3, .ref b4, .ref b5])), (b1, .inl (cJ, 100, .inr (.inl gA))), (b2, .inl (cJ, 10, .inr (.inl gB))), (b3, .inl (cJ, 200, .inr (.inl gR))), (b4, .inl (cI, 10, .inl gP)), (b5, .inl (cJ, 1024, .inr (.inl gS)))]
section GP
variable {p : Program} {l : Launch} {e : Env} {R : Room} {s : State} {m : MethodId} {args : Array Value} {below : List Frame} {meth : Method} {c : Code} {H H0 : Heap} {locs : List Loc} {cells slots : Nat} {Q : State → Prop} {cc : ByteArray} {pc nL index : Nat} {ls : Array Slot} {D : va_G} {w : va_W} {tys : List (ClassId × FieldType)} {a : Nat} {fs : List Value} {A : Nat → Prop} {Ts : List Cond} {rest : List Value} {v : Value}
theorem x0_get (S : CallFix p m c cc nL s args Ts RX0) (hin : ∀ w ∈ wsX00, w ∈ Ts) (hK : va_K D vwCl tys s) (hP : va_P D vwCl w H) (he : w[0]? = some (a, .inr (0, fs))) (k : Nat) (hk : k < 11) (h1 : (TX0 k).1 = "PrimeBench") (hl : Cond.fieldLink RX0 index "PrimeBench" (TX0 k).2.1 (TX0 k).2.2.1 ∈ Ts) (hv : fs[k]? = some v) (hdg : decode cc pc = .ok (.getfield index, 3))
    (kk : W p l e R s m args below meth c H locs cells slots Q (F0 m (pc + 3) ls (v :: rest))) : W p l e R s m args below meth c H locs cells slots Q (F0 m pc ls (.ref a :: rest)) :=
  va_get (D := D) (ci := 0) (C := RX0) (T := TX0) (N := 11) S.1 S.2.1 S.2.2.2.2 hin S.2.2.2.1 hK hP 0 he rfl k hk (S.2.2.2.2 _ hl) (by rw [h1]; exact fun _ h => h) hv hdg kk
theorem x1_get (S : CallFix p m c cc nL s args Ts RX1) (hin : ∀ w ∈ wsX10, w ∈ Ts) (hK : va_K D vwCl tys s) (hP : va_P D vwCl w H) (he : w[0]? = some (a, .inr (1, fs))) (k : Nat) (hk : k < 12) (h1 : (TX1 k).1 = "PrimeBenchModel") (hl : Cond.fieldLink RX1 index "PrimeBenchModel" (TX1 k).2.1 (TX1 k).2.2.1 ∈ Ts) (hv : fs[k]? = some v) (hdg : decode cc pc = .ok (.getfield index, 3))
    (kk : W p l e R s m args below meth c H locs cells slots Q (F0 m (pc + 3) ls (v :: rest))) : W p l e R s m args below meth c H locs cells slots Q (F0 m pc ls (.ref a :: rest)) :=
  va_get (D := D) (ci := 1) (C := RX1) (T := TX1) (N := 12) S.1 S.2.1 S.2.2.2.2 hin S.2.2.2.1 hK hP 0 he rfl k hk (S.2.2.2.2 _ hl) (by rw [h1]; exact fun _ h => h) hv hdg kk
theorem x0_put (S : CallFix p m c cc nL s args Ts RX0) (hin : ∀ w ∈ wsX00, w ∈ Ts) (hK : va_K D vwCl tys s) (hP : va_P D vwCl w H) (hD : va_D A w) (hS : va_S A H0 H locs) (he : w[0]? = some (a, .inr (0, fs))) (k : Nat) (hk : k < 11) (h1 : (TX0 k).1 = "PrimeBench") (hl : Cond.fieldLink RX0 index "PrimeBench" (TX0 k).2.1 (TX0 k).2.2.1 ∈ Ts) (hfin : (TX0 k).2.2.2 = false) {ty : FieldType} (hd : parseFieldDescriptor (TX0 k).2.2.1 = some ty) (hn : narrow ty v = v) (hfit : fits ty v = true) (hlen : k < fs.length) (hdg : decode cc pc = .ok (.putfield index, 3))
    (kk : ∀ (H1 : Heap) (locs1 : List Loc), va_P D vwCl (w.set 0 (a, .inr (0, fs.set k v))) H1 → va_D A (w.set 0 (a, .inr (0, fs.set k v))) → va_S A H0 H1 locs1 → W p l e R s m args below meth c H1 locs1 cells slots Q (F0 m (pc + 3) ls rest)) : W p l e R s m args below meth c H locs cells slots Q (F0 m pc ls (v :: .ref a :: rest)) :=
  va_put (D := D) (ci := 0) (C := RX0) (T := TX0) (N := 11) S.1 S.2.1 S.2.2.2.2 hin tyX0 tyX0_ok nmX0 S.2.2.2.1 hK hP hD hS 0 he rfl k hk (S.2.2.2.2 _ hl) (by rw [h1]; exact fun _ h => h) hfin hd hn hfit hlen hdg kk
theorem x1_put (S : CallFix p m c cc nL s args Ts RX1) (hin : ∀ w ∈ wsX10, w ∈ Ts) (hK : va_K D vwCl tys s) (hP : va_P D vwCl w H) (hD : va_D A w) (hS : va_S A H0 H locs) (he : w[0]? = some (a, .inr (1, fs))) (k : Nat) (hk : k < 12) (h1 : (TX1 k).1 = "PrimeBenchModel") (hl : Cond.fieldLink RX1 index "PrimeBenchModel" (TX1 k).2.1 (TX1 k).2.2.1 ∈ Ts) (hfin : (TX1 k).2.2.2 = false) {ty : FieldType} (hd : parseFieldDescriptor (TX1 k).2.2.1 = some ty) (hn : narrow ty v = v) (hfit : fits ty v = true) (hlen : k < fs.length) (hdg : decode cc pc = .ok (.putfield index, 3))
    (kk : ∀ (H1 : Heap) (locs1 : List Loc), va_P D vwCl (w.set 0 (a, .inr (1, fs.set k v))) H1 → va_D A (w.set 0 (a, .inr (1, fs.set k v))) → va_S A H0 H1 locs1 → W p l e R s m args below meth c H1 locs1 cells slots Q (F0 m (pc + 3) ls rest)) : W p l e R s m args below meth c H locs cells slots Q (F0 m pc ls (v :: .ref a :: rest)) :=
  va_put (D := D) (ci := 1) (C := RX1) (T := TX1) (N := 12) S.1 S.2.1 S.2.2.2.2 hin tyX1 tyX1_ok nmX1 S.2.2.2.1 hK hP hD hS 0 he rfl k hk (S.2.2.2.2 _ hl) (by rw [h1]; exact fun _ h => h) hfin hd hn hfit hlen hdg kk
end GP
/-! numbers that come in from outside -/
theorem in_row {i : Int32} {m : Nat} (hm : m < 2 ^ 31) (h0 : ¬ i < 0) (h1 : ¬ nI m ≤ i) : ∃ k : Nat, k < m ∧ i = nI k := by
  obtain ⟨k, hk, rfl⟩ := nI_of (x := i) h0
  rw [nI_leI hm hk] at h1
  exact ⟨k, by omega, rfl⟩
theorem out_row {i : Int32} {m : Nat} (hm : m < 2 ^ 31) (h : i < 0 ∨ nI m ≤ i) : ∀ k : Nat, k < m → i ≠ nI k := by
  intro k hk e
  subst e
  rcases h with h | h
  · exact nI_pos (by omega) h
  · exact nI_ge hk hm h
/-- whether i is a place below m: the answer 1 with its number, or 0 -/
def Isin (m : Nat) (i : Int32) (r : Int32) : Prop := (∃ k : Nat, k < m ∧ i = nI k ∧ r = nI 1) ∨ ((∀ k : Nat, k < m → i ≠ nI k) ∧ r = nI 0)
/-- the same as a test -/
def inb (m : Nat) (i : Int32) : Bool := decide (0 ≤ i.toInt ∧ i.toInt < (m : Int))
theorem inb_t {m k : Nat} (h : k < m) (hm : m < 2 ^ 31) : inb m (nI k) = true := by
  unfold inb
  rw [nI_toInt (by omega)]
  simp
  omega
theorem inb_f {m : Nat} {i : Int32} (h : ∀ k : Nat, k < m → i ≠ nI k) (hm : m < 2 ^ 31) : inb m i = false := by
  unfold inb
  rw [decide_eq_false_iff_not]
  rintro ⟨h1, h2⟩
  obtain ⟨k, hk, rfl⟩ := nI_of (x := i) (by rw [Int32.lt_iff_toInt_lt, Int32.toInt_zero]; omega)
  rw [nI_toInt hk] at h2
  exact h k (by omega) rfl
theorem inb_0 (i : Int32) : inb 0 i = false := inb_f (fun k h => absurd h (Nat.not_lt_zero k)) (by decide)
abbrev ix (i : Int32) : Nat := i.toNatClampNeg
theorem ix_n {k : Nat} (h : k < 2 ^ 31) : ix (nI k) = k := nI_clamp h
end
section
/-! matrices of numbers, and how an array holds one -/
abbrev Mat : Type := Nat → Nat → Nat
def mu (M : Mat) (i k x : Nat) : Mat := fun a b => if a = i ∧ b = k then x else M a b
def swp (M : Mat) (r s : Nat) : Mat := fun i k => if i = r then M s k else if i = s then M r k else M i k
def scl (P : Nat) (M : Mat) (r f : Nat) : Mat := fun i k => if i = r then M i k * f % P else M i k
def tkr (P : Nat) (M : Mat) (r i0 g : Nat) : Mat := fun i k => if i = i0 then (M i k + g * M r k) % P else M i k
def clr (P : Nat) (M : Mat) (r c : Nat) : Mat := fun i k => if i = r then M i k else (M i k + (P - M i c) * M r k) % P
/-- the first j columns of the one, the others of the other -/
def col2 (j : Nat) (M N : Mat) : Mat := fun i k => if k < j then M i k else N i k
/-- the first i rows of the one, the others of the other -/
def row2 (j : Nat) (M N : Mat) : Mat := fun i k => if i < j then M i k else N i k
def ng (P t : Nat) : Nat := if t = 0 then 0 else P - t
def bnd (P : Nat) (M : Mat) : Prop := ∀ i k, M i k < P
def Rp (w m : Nat) (f : Nat → Int32) (M : Mat) : Prop := ∀ i, i < m → ∀ k, k < w → f (i * w + k) = nI (M i k)
theorem Rp.up {w m : Nat} {f : Nat → Int32} {M : Mat} (h : Rp w m f M) {i k x : Nat} (hk : k < w) : Rp w m (upd f (i * w + k) (nI x)) (mu M i k x) := by
  intro a ha b hb
  unfold upd mu
  by_cases q : a * w + b = i * w + k
  · obtain ⟨rfl, rfl⟩ := ix_inj hb hk q
    simp
  · rw [if_neg q, if_neg (fun z => q (by rw [z.1, z.2])), h a ha b hb]
theorem Rp.congr {w m : Nat} {f : Nat → Int32} {M N : Mat} (h : Rp w m f M) (e : ∀ i, i < m → ∀ k, k < w → M i k = N i k) : Rp w m f N := fun i hi k hk => by rw [h i hi k hk, e i hi k hk]
theorem Rp.col0 {w m : Nat} {f : Nat → Int32} {M N : Mat} (h : Rp w m f N) : Rp w m f (col2 0 M N) := h.congr (fun i _ k _ => by simp [col2])
theorem Rp.colw {w m : Nat} {f : Nat → Int32} {M N : Mat} {j : Nat} (hj : w ≤ j) (h : Rp w m f (col2 j M N)) : Rp w m f M := h.congr (fun i _ k hk => by simp [col2, show k < j by omega])
theorem Rp.row0 {w m : Nat} {f : Nat → Int32} {M N : Mat} (h : Rp w m f N) : Rp w m f (row2 0 M N) := h.congr (fun i _ k _ => by simp [row2])
theorem Rp.rowm {w m : Nat} {f : Nat → Int32} {M N : Mat} {j : Nat} (hj : m ≤ j) (h : Rp w m f (row2 j M N)) : Rp w m f M := h.congr (fun i hi k _ => by simp [row2, show i < j by omega])
/-- one step of the changing of places, of the multiplying, of the taking -/
theorem st_swp {w m : Nat} {f : Nat → Int32} {M : Mat} {r s j : Nat} (hj : j < w) (h : Rp w m f (col2 j (swp M r s) M)) : Rp w m (upd (upd f (r * w + j) (nI (col2 j (swp M r s) M s j))) (s * w + j) (nI (col2 j (swp M r s) M r j))) (col2 (j + 1) (swp M r s) M) := by
  refine ((h.up hj).up hj).congr ?_
  intro a _ b _
  simp only [mu, col2, swp]
  by_cases h1 : b = j
  · subst h1
    by_cases h2 : a = r
    · subst h2
      by_cases h3 : a = s
      · subst h3
        simp
      · simp [h3]
    · by_cases h3 : a = s
      · subst h3
        simp [h2]
      · simp [h2, h3]
  · by_cases h2 : b < j
    · simp [h1, h2, show b < j + 1 by omega]
    · simp [h1, h2, show ¬ b < j + 1 by omega]
theorem st_scl {w m P : Nat} {f : Nat → Int32} {M : Mat} {r fc j : Nat} (hj : j < w) (h : Rp w m f (col2 j (scl P M r fc) M)) : Rp w m (upd f (r * w + j) (nI (col2 j (scl P M r fc) M r j * fc % P))) (col2 (j + 1) (scl P M r fc) M) := by
  refine (h.up hj).congr ?_
  intro a _ b _
  simp only [mu, col2, scl]
  by_cases h1 : b = j
  · subst h1
    by_cases h2 : a = r
    · subst h2
      simp
    · simp [h2]
  · by_cases h2 : b < j
    · simp [h1, h2, show b < j + 1 by omega]
    · simp [h1, h2, show ¬ b < j + 1 by omega]
theorem st_tkr {w m P : Nat} {f : Nat → Int32} {M : Mat} {r i0 g j : Nat} (hj : j < w) (h : Rp w m f (col2 j (tkr P M r i0 g) M)) : Rp w m (upd f (i0 * w + j) (nI ((col2 j (tkr P M r i0 g) M i0 j + g * col2 j (tkr P M r i0 g) M r j) % P))) (col2 (j + 1) (tkr P M r i0 g) M) := by
  refine (h.up hj).congr ?_
  intro a _ b _
  simp only [mu, col2, tkr]
  by_cases h1 : b = j
  · subst h1
    by_cases h2 : a = i0
    · subst h2
      simp
    · simp [h2]
  · by_cases h2 : b < j
    · simp [h1, h2, show b < j + 1 by omega]
    · simp [h1, h2, show ¬ b < j + 1 by omega]
theorem col2_at {j : Nat} {M N : Mat} {i : Nat} : col2 j M N i j = N i j := by simp [col2]
theorem bn_swp {P : Nat} {M : Mat} (h : bnd P M) (r s : Nat) : bnd P (swp M r s) := by
  intro i k
  simp only [swp]
  split
  · exact h _ _
  · split
    · exact h _ _
    · exact h _ _
theorem bn_scl {P : Nat} {M : Mat} (h0 : 0 < P) (h : bnd P M) (r f : Nat) : bnd P (scl P M r f) := by
  intro i k
  simp only [scl]
  split
  · exact Nat.mod_lt _ h0
  · exact h _ _
theorem bn_tkr {P : Nat} {M : Mat} (h0 : 0 < P) (h : bnd P M) (r i0 g : Nat) : bnd P (tkr P M r i0 g) := by
  intro i k
  simp only [tkr]
  split
  · exact Nat.mod_lt _ h0
  · exact h _ _
theorem bn_clr {P : Nat} {M : Mat} (h0 : 0 < P) (h : bnd P M) (r c : Nat) : bnd P (clr P M r c) := by
  intro i k
  simp only [clr]
  split
  · exact h _ _
  · exact Nat.mod_lt _ h0
theorem bn_col2 {P : Nat} {M N : Mat} (h : bnd P M) (h' : bnd P N) (j : Nat) : bnd P (col2 j M N) := by
  intro i k
  simp only [col2]
  split
  · exact h _ _
  · exact h' _ _
theorem bn_row2 {P : Nat} {M N : Mat} (h : bnd P M) (h' : bnd P N) (j : Nat) : bnd P (row2 j M N) := by
  intro i k
  simp only [row2]
  split
  · exact h _ _
  · exact h' _ _
theorem ng_lt {P t : Nat} (h0 : 0 < P) : ng P t < P := by
  unfold ng
  split <;> omega
theorem mul_b {a b : Nat} (ha : a < 2 ^ 31) (hb : b < 2 ^ 31) : a * b < 2 ^ 63 := Nat.lt_of_lt_of_le (Nat.mul_lt_mul'' ha hb) (by decide)
theorem mul_b2 {a b c : Nat} (hc : c < 2 ^ 32) (ha : a ≤ 2 ^ 31) (hb : b < 2 ^ 31) : c + a * b < 2 ^ 63 := by
  have h : a * b ≤ 2 ^ 31 * 2 ^ 31 := Nat.mul_le_mul ha (by omega)
  have h2 : (2 : Nat) ^ 31 * 2 ^ 31 = 2 ^ 62 := by decide
  omega
/-- the taking of a row in the class's words, and in the reference's -/
theorem tk_ng {P x y t : Nat} (hx : x < P) : (x + ng P t * y) % P = (x + (P - t) * y) % P := by
  unfold ng
  split
  · subst t
    rw [Nat.zero_mul, Nat.sub_zero, Nat.add_zero, Nat.add_mul_mod_self_left]
  · rfl
/-- one row more of the clearing -/
theorem st_clr {w m P : Nat} {f : Nat → Int32} {M : Mat} {r c j : Nat} (hb : bnd P M) (hj : ¬ j = r) (h : Rp w m f (tkr P (row2 j (clr P M r c) M) r j (ng P (row2 j (clr P M r c) M j c)))) : Rp w m f (row2 (j + 1) (clr P M r c) M) := by
  refine h.congr ?_
  intro a _ b _
  have e1 : row2 j (clr P M r c) M r b = M r b := by
    simp only [row2, clr]
    split <;> simp
  have e2 : row2 j (clr P M r c) M j c = M j c := by simp [row2]
  have e3 : row2 j (clr P M r c) M j b = M j b := by simp [row2]
  simp only [tkr]
  by_cases h1 : a = j
  · subst h1
    rw [if_pos rfl, e1, e2, e3, tk_ng (hb _ _)]
    simp [row2, clr, hj]
  · rw [if_neg h1]
    by_cases h2 : a < j
    · simp [row2, h2, show a < j + 1 by omega]
    · simp [row2, h2, show ¬ a < j + 1 by omega]
theorem st_clrE {w m P : Nat} {f : Nat → Int32} {M : Mat} {r c j : Nat} (hj : j = r) (h : Rp w m f (row2 j (clr P M r c) M)) : Rp w m f (row2 (j + 1) (clr P M r c) M) := by
  refine h.congr ?_
  intro a _ b _
  by_cases h1 : a = j
  · subst h1
    simp [row2, clr, hj]
  · by_cases h2 : a < j
    · simp [row2, h2, show a < j + 1 by omega]
    · simp [row2, h2, show ¬ a < j + 1 by omega]
/-- a matrix laid down place by place -/
def Rpp (w i j : Nat) (f : Nat → Int32) (M : Mat) : Prop := ∀ a b, b < w → (a < i ∨ (a = i ∧ b < j)) → f (a * w + b) = nI (M a b)
theorem Rpp.put {w i j : Nat} {f : Nat → Int32} {M : Mat} (h : Rpp w i j f M) (hj : j < w) {q x : Nat} (hq : q = i * w + j) (hx : x = M i j) : Rpp w i (j + 1) (upd f q (nI x)) M := by
  subst hq hx
  intro a b hb hab
  unfold upd
  by_cases e : a * w + b = i * w + j
  · obtain ⟨rfl, rfl⟩ := ix_inj hb hj e
    simp
  · rw [if_neg e]
    refine h a b hb ?_
    rcases hab with q | ⟨rfl, q⟩
    · exact Or.inl q
    · refine Or.inr ⟨rfl, ?_⟩
      rcases Nat.lt_or_ge b j with z | z
      · exact z
      · exact absurd (by rw [show b = j by omega]) e
theorem Rpp.next {w i : Nat} {f : Nat → Int32} {M : Mat} {j : Nat} (hj : j = w) (h : Rpp w i j f M) : Rpp w (i + 1) 0 f M := by
  intro a b hb hab
  refine h a b hb ?_
  rcases hab with q | ⟨_, q⟩
  · rcases Nat.lt_or_ge a i with z | z
    · exact Or.inl z
    · exact Or.inr ⟨by omega, by omega⟩
  · omega
theorem Rpp.all {w m : Nat} {f : Nat → Int32} {M : Mat} {i : Nat} (hi : m ≤ i) (h : Rpp w i 0 f M) : Rp w m f M := fun a ha b hb => h a b hb (Or.inl (by omega))
/-- the search for the first row with a number other than 0 in a column -/
def fnd (M : Mat) (c : Nat) : Nat → Nat → Nat
  | 0, r => r
  | d + 1, r => if M r c = 0 then fnd M c d (r + 1) else r
theorem fnd_le (M : Mat) (c : Nat) : ∀ d r, fnd M c d r ≤ r + d ∧ r ≤ fnd M c d r := by
  intro d
  induction d with
  | zero => intro r; simp [fnd]
  | succ d ih =>
    intro r
    simp only [fnd]
    split
    · have := ih (r + 1)
      omega
    · omega
theorem fnd_z {M : Mat} {c m r : Nat} (h : r < m) (z : M r c = 0) : fnd M c (m - r) r = fnd M c (m - (r + 1)) (r + 1) := by
  rw [show m - r = (m - (r + 1)) + 1 by omega]
  simp [fnd, z]
theorem fnd_n {M : Mat} {c m r : Nat} (h : r < m) (z : M r c ≠ 0) : fnd M c (m - r) r = r := by
  rw [show m - r = (m - (r + 1)) + 1 by omega]
  simp [fnd, z]
theorem fnd_e {M : Mat} {c m r : Nat} (h : m ≤ r) : fnd M c (m - r) r = r := by
  rw [show m - r = 0 by omega]
  rfl
/-- powers -/
theorem pw_odd {P p q e : Nat} (h : e % 2 = 1) : (p * q % P) * (q * q % P) ^ (e / 2) % P = p * q ^ e % P := by
  rw [Nat.mul_mod, Nat.pow_mod, Nat.mod_mod, Nat.mod_mod, ← Nat.pow_mod, ← Nat.mul_mod, ← Nat.pow_two, ← Nat.pow_mul, Nat.mul_assoc, Nat.mul_comm q, ← Nat.pow_succ]
  congr 3
  omega
theorem pw_even {P p q e : Nat} (h : ¬ e % 2 = 1) : p * (q * q % P) ^ (e / 2) % P = p * q ^ e % P := by
  rw [Nat.mul_mod, Nat.pow_mod, Nat.mod_mod, ← Nat.pow_mod, ← Nat.mul_mod, ← Nat.pow_two, ← Nat.pow_mul]
  congr 3
  omega
/-- number row of T b -/
def chg (P : Nat) (T b : Nat → Nat) : Nat → Nat
  | 0 => 0
  | k + 1 => (chg P T b k + T k * b k) % P
theorem chg_lt {P : Nat} (h : 0 < P) (T b : Nat → Nat) : ∀ k, chg P T b k < P := by
  intro k
  cases k with
  | zero => exact h
  | succ k => exact Nat.mod_lt _ h
end
section
/-! sides and primes -/
def IsSide (i r : Int32) : Prop := (∃ k : Nat, 1 ≤ k ∧ k ≤ 10 ∧ i = nI k ∧ r = nI 1) ∨ ((∀ k : Nat, 1 ≤ k → k ≤ 10 → i ≠ nI k) ∧ r = nI 0)
theorem side_t {i : Int32} (h0 : ¬ i < nI 1) (h1 : ¬ nI 10 < i) : IsSide i (nI 1) := by
  obtain ⟨k, hk, rfl⟩ := nI_of (x := i) (fun q => h0 (by rw [Int32.lt_iff_toInt_lt] at *; rw [nI_toInt (by decide)]; rw [Int32.toInt_zero] at q; omega))
  rw [nI_ltI hk (by decide)] at h0
  rw [nI_ltI (by decide) hk] at h1
  exact Or.inl ⟨k, by omega, by omega, rfl, rfl⟩
theorem side_f {i : Int32} (h : i < nI 1 ∨ nI 10 < i) : IsSide i (nI 0) := by
  refine Or.inr ⟨fun k h1 h2 e => ?_, rfl⟩
  subst e
  rcases h with h | h
  · rw [nI_ltI (by omega) (by decide)] at h
    omega
  · rw [nI_ltI (by decide) (by omega)] at h
    omega
/-- no divisor up to the root -/
def PrimeN (v : Nat) : Prop := 2 ≤ v ∧ ∀ d, 2 ≤ d → d * d ≤ v → v % d ≠ 0
def IsPr (i r : Int32) : Prop := (∃ v : Nat, v < 2 ^ 31 ∧ PrimeN v ∧ i = nI v ∧ r = nI 1) ∨ ((∀ v : Nat, v < 2 ^ 31 → PrimeN v → i ≠ nI v) ∧ r = nI 0)
theorem pr_lt {i : Int32} (h : i < nI 2) : ¬ i = nI 2 := by
  intro e
  subst e
  rw [nI_ltI (by decide) (by decide)] at h
  omega
theorem pr_small {i : Int32} (h : i < nI 2) : IsPr i (nI 0) := by
  refine Or.inr ⟨fun v hv hp e => ?_, rfl⟩
  subst e
  rw [nI_ltI hv (by decide)] at h
  have := hp.1
  omega
theorem pr_ge {i : Int32} (h : ¬ i < nI 2) : ∃ v : Nat, 2 ≤ v ∧ v < 2 ^ 31 ∧ i = nI v := by
  obtain ⟨k, hk, rfl⟩ := nI_of (x := i) (fun q => h (by rw [Int32.lt_iff_toInt_lt] at *; rw [nI_toInt (by decide)]; rw [Int32.toInt_zero] at q; omega))
  rw [nI_ltI hk (by decide)] at h
  exact ⟨k, by omega, hk, rfl⟩
theorem pr_not {v : Nat} (hv : v < 2 ^ 31) (h : ¬ PrimeN v) : IsPr (nI v) (nI 0) := by
  refine Or.inr ⟨fun u hu hp e => ?_, rfl⟩
  rw [nI_eq hv hu] at e
  subst e
  exact h hp
theorem pr_even {v : Nat} (hz : v % 2 = 0) (h2 : v ≠ 2) (hv2 : 2 ≤ v) (hv : v < 2 ^ 31) : IsPr (nI v) (nI 0) := by
  refine pr_not hv (fun hp => ?_)
  exact hp.2 2 (by omega) (by omega) hz
theorem pr_two {v : Nat} (h2 : v = 2) : IsPr (nI v) (nI 1) := by
  subst h2
  refine Or.inl ⟨2, by decide, ⟨by omega, fun d h1 h3 => ?_⟩, rfl, rfl⟩
  have : 2 * 2 ≤ d * d := Nat.mul_le_mul h1 h1
  omega
/-- what the class's loop knows at divisor d -/
def OddUp (v d : Nat) : Prop := d % 2 = 1 ∧ ∀ e, 3 ≤ e → e < d → e % 2 = 1 → v % e ≠ 0
theorem od_start (v : Nat) : OddUp v 3 := ⟨by decide, fun e h1 h2 => by omega⟩
theorem pr_step {v d : Nat} (h : OddUp v d) (hne : v % d ≠ 0) : OddUp v (d + 2) := by
  refine ⟨by have := h.1; omega, fun e h1 h2 h3 => ?_⟩
  rcases Nat.lt_or_ge e d with q | q
  · exact h.2 e h1 q h3
  · have := h.1
    have e1 : e = d := by omega
    rw [e1]
    exact hne
theorem pr_no {v d : Nat} (hd : 3 ≤ d) (hv : v < 2 ^ 31) (hle : d * d ≤ v) (hz : v % d = 0) : IsPr (nI v) (nI 0) := pr_not hv (fun hp => hp.2 d (by omega) hle hz)
theorem pr_yes {v d : Nat} (hv2 : 2 ≤ v) (hv : v < 2 ^ 31) (ho : v % 2 ≠ 0) (h : OddUp v d) (hgt : v < d * d) : IsPr (nI v) (nI 1) := by
  refine Or.inl ⟨v, hv, ⟨hv2, fun e h1 h2 h3 => ?_⟩, rfl, rfl⟩
  by_cases he : e % 2 = 1
  · refine h.2 e (by omega) ?_ he h3
    rcases Nat.lt_or_ge e d with q | q
    · exact q
    · have : d * d ≤ e * e := Nat.mul_le_mul q q
      omega
  · have h4 : v % 2 = 0 := by
      obtain ⟨k, hk⟩ := Nat.dvd_of_mod_eq_zero h3
      obtain ⟨j, hj⟩ := Nat.dvd_of_mod_eq_zero (show e % 2 = 0 by omega)
      rw [hk, hj, Nat.mul_assoc]
      exact Nat.mul_mod_right 2 _
    exact ho h4
theorem sq_lt {d v : Nat} (hv : v < 2 ^ 31) (h : d * d ≤ v) : d ≤ 46341 := by
  rcases Nat.lt_or_ge d 46342 with q | q
  · omega
  · have : 46342 * 46342 ≤ d * d := Nat.mul_le_mul q q
    omega
end
section
/-! the reduction, purely -/
def opt : Option Nat → Int32
  | none => -1
  | some i => nI i
theorem nI_m1 {k : Nat} (h : k < 2 ^ 31) : ¬ nI k = -1 := by
  intro e
  have h1 := nI_toInt h
  rw [e] at h1
  have h2 : (-1 : Int32).toInt = -1 := by decide +kernel
  omega
theorem opt_m1 {o : Option Nat} (h : ∀ i, o = some i → i < 2 ^ 31) : opt o = -1 ↔ o = none := by
  cases o with
  | none => simp [opt]
  | some i => simp [opt, nI_m1 (h i rfl)]
/-- the row of a column's pivot: the last of the first r rows whose pivot stands there -/
def rowOf (pc : Nat → Nat) : Nat → Nat → Option Nat
  | 0, _ => none
  | r + 1, j => if pc r = j then some r else rowOf pc r j
theorem rowOf_lt {pc : Nat → Nat} {r j i : Nat} (h : rowOf pc r j = some i) : i < r := by
  induction r with
  | zero => simp [rowOf] at h
  | succ r ih =>
    simp only [rowOf] at h
    split at h
    · cases h
      omega
    · have := ih h
      omega
theorem rowOf_ext {pc pd : Nat → Nat} {r : Nat} (h : ∀ i, i < r → pc i = pd i) (j : Nat) : rowOf pc r j = rowOf pd r j := by
  induction r with
  | zero => rfl
  | succ r ih => simp only [rowOf]; rw [h r (by omega), ih (fun i hi => h i (by omega))]
abbrev RS : Type := Mat × Nat × Nat × (Nat → Nat)
def redS (P m c : Nat) (q : RS) : RS :=
  if q.2.1 < m ∧ fnd q.1 c (m - q.2.1) q.2.1 < m then
    (clr P (scl P (swp q.1 (fnd q.1 c (m - q.2.1) q.2.1) q.2.1) q.2.1 (swp q.1 (fnd q.1 c (m - q.2.1) q.2.1) q.2.1 q.2.1 c ^ (P - 2) % P)) q.2.1 c, q.2.1 + 1, (if fnd q.1 c (m - q.2.1) q.2.1 = q.2.1 then q.2.2.1 else ng P q.2.2.1) * swp q.1 (fnd q.1 c (m - q.2.1) q.2.1) q.2.1 q.2.1 c % P, fun i => if i = q.2.1 then c else q.2.2.2 i)
  else q
def redN (P m : Nat) (q0 : RS) : Nat → RS
  | 0 => q0
  | c + 1 => redS P m c (redN P m q0 c)
theorem redS_no {P m c : Nat} {q : RS} (h : ¬ (q.2.1 < m ∧ fnd q.1 c (m - q.2.1) q.2.1 < m)) : redS P m c q = q := if_neg h
theorem redS_yes {P m c : Nat} {M : Mat} {r d : Nat} {pc : Nat → Nat} {F : Nat} (h : r < m) (hF : fnd M c (m - r) r = F) (h2 : F < m) : redS P m c (M, r, d, pc) = (clr P (scl P (swp M F r) r (swp M F r r c ^ (P - 2) % P)) r c, r + 1, (if F = r then d else ng P d) * swp M F r r c % P, fun i => if i = r then c else pc i) := by
  subst hF
  exact if_pos ⟨h, h2⟩
theorem redN_stop {P m : Nat} {q0 : RS} {c : Nat} (h : m ≤ (redN P m q0 c).2.1) : ∀ d, redN P m q0 (c + d) = redN P m q0 c := by
  intro d
  induction d with
  | zero => rfl
  | succ d ih =>
    show redS P m (c + d) (redN P m q0 (c + d)) = _
    rw [ih]
    exact redS_no (fun z => by omega)
theorem redS_ok {P m c : Nat} {q : RS} (h0 : 0 < P) (hr : q.2.1 ≤ m) (hb : bnd P q.1) (hd : q.2.2.1 < P) : (redS P m c q).2.1 ≤ m ∧ bnd P (redS P m c q).1 ∧ (redS P m c q).2.2.1 < P := by
  unfold redS
  split
  · rename_i h
    exact ⟨h.1, bn_clr h0 (bn_scl h0 (bn_swp hb _ _) _ _) _ _, Nat.mod_lt _ h0⟩
  · exact ⟨hr, hb, hd⟩
theorem redN_ok {P m : Nat} {q0 : RS} (h0 : 0 < P) (hr : q0.2.1 ≤ m) (hb : bnd P q0.1) (hd : q0.2.2.1 < P) : ∀ c, (redN P m q0 c).2.1 ≤ m ∧ bnd P (redN P m q0 c).1 ∧ (redN P m q0 c).2.2.1 < P := by
  intro c
  induction c with
  | zero => exact ⟨hr, hb, hd⟩
  | succ c ih => exact redS_ok h0 ih.1 ih.2.1 ih.2.2
/-- the start: the matrix in ten columns, the ones and zeros in ten more; the class has them side by side -/
def G0 (n : Nat) (A : Mat) : Mat := fun i k => if k < 10 then (if k < n then A i k else 0) else if k - 10 = i then 1 else 0
def lay (n k : Nat) : Nat := if k < n then k else k - n + 10
abbrev lm (n : Nat) (M : Mat) : Mat := fun i k => M i (lay n k)
theorem lay_lt {n k : Nat} (h : k < n) : lay n k = k := if_pos h
theorem lay_T {n k : Nat} : lay n (n + k) = 10 + k := by
  unfold lay
  rw [if_neg (by omega)]
  omega
theorem G0_T {n : Nat} {A : Mat} {i j : Nat} : G0 n A i (10 + j) = if j = i then 1 else 0 := by
  unfold G0
  rw [if_neg (by omega), show 10 + j - 10 = j by omega]
theorem G0_A {n : Nat} {A : Mat} {i j : Nat} (h : j < n) (h2 : n ≤ 10) : G0 n A i j = A i j := by
  unfold G0
  rw [if_pos (by omega), if_pos h]
theorem lm_lt {n c : Nat} (h : c < n) (M : Mat) (r : Nat) : lm n M r c = M r c := by
  show M r (lay n c) = _
  rw [lay_lt h]
theorem clr_lm {P n c : Nat} (h : c < n) (M : Mat) (r : Nat) : clr P (lm n M) r c = lm n (clr P M r c) := by
  funext i k
  show (if i = r then M i (lay n k) else (M i (lay n k) + (P - M i (lay n c)) * M r (lay n k)) % P) = _
  rw [lay_lt h]
  rfl
theorem fnd_lm {n c : Nat} (h : c < n) (M : Mat) : ∀ d r, fnd (lm n M) c d r = fnd M c d r := by
  intro d
  induction d with
  | zero => intro r; rfl
  | succ d ih =>
    intro r
    show (if M r (lay n c) = 0 then fnd (lm n M) c d (r + 1) else r) = _
    rw [lay_lt h, ih]
    rfl
theorem redS_lm {P m n c : Nat} (h : c < n) (q : RS) : redS P m c (lm n q.1, q.2) = (lm n (redS P m c q).1, (redS P m c q).2) := by
  obtain ⟨M, r, d, pc⟩ := q
  by_cases hc : r < m ∧ fnd M c (m - r) r < m
  · have e1 := redS_yes (P := P) (d := d) (pc := pc) hc.1 rfl hc.2
    have e2 := redS_yes (P := P) (d := d) (pc := pc) (M := lm n M) hc.1 (fnd_lm h M _ _) hc.2
    rw [e1]
    show redS P m c (lm n M, r, d, pc) = _
    have z : swp (lm n M) (fnd M c (m - r) r) r r c = swp M (fnd M c (m - r) r) r r c := lm_lt h (swp M (fnd M c (m - r) r) r) r
    rw [e2, z]
    show (clr P (lm n (scl P (swp M (fnd M c (m - r) r) r) r (swp M (fnd M c (m - r) r) r r c ^ (P - 2) % P))) r c, _) = _
    rw [clr_lm h]
  · rw [redS_no (q := (M, r, d, pc)) hc]
    exact redS_no (by show ¬ (r < m ∧ fnd (lm n M) c (m - r) r < m); rw [fnd_lm h]; exact hc)
theorem redN_lm {P m n : Nat} (q0 : RS) : ∀ c, c ≤ n → redN P m (lm n q0.1, q0.2) c = (lm n (redN P m q0 c).1, (redN P m q0 c).2) := by
  intro c
  induction c with
  | zero => intro _; rfl
  | succ c ih =>
    intro hc
    show redS P m c (redN P m (lm n q0.1, q0.2) c) = _
    rw [ih (by omega), redS_lm (by omega)]
    rfl
abbrev q00 (n : Nat) (A : Mat) : RS := (G0 n A, 0, 1, fun _ => 0)
theorem bn_G0 {P n : Nat} {A : Mat} (h2 : 2 ≤ P) (h : bnd P A) : bnd P (G0 n A) := by
  intro i k
  unfold G0
  split
  · split
    · exact h _ _
    · omega
  · split <;> omega
/-- how many columns below j are free -/
def cnt (po : Nat → Option Nat) : Nat → Nat
  | 0 => 0
  | j + 1 => cnt po j + (if po j = none then 1 else 0)
theorem cnt_le (po : Nat → Option Nat) : ∀ j, cnt po j ≤ j := by
  intro j
  induction j with
  | zero => exact Nat.le_refl 0
  | succ j ih =>
    simp only [cnt]
    split <;> omega
/-- the free column that bears the number k, from j on -/
def kth (po : Nat → Option Nat) (k : Int32) : Nat → Nat → Option Nat
  | 0, _ => none
  | d + 1, j => if po j = none ∧ nI (cnt po j) = k then some j else kth po k d (j + 1)
theorem kth_e {po : Nat → Option Nat} {k : Int32} {n j : Nat} (h : n ≤ j) : kth po k (n - j) j = none := by
  rw [show n - j = 0 by omega]
  rfl
theorem kth_y {po : Nat → Option Nat} {k : Int32} {n j : Nat} (h : j < n) (h1 : po j = none) (h2 : nI (cnt po j) = k) : kth po k (n - j) j = some j := by
  rw [show n - j = (n - (j + 1)) + 1 by omega]
  simp [kth, h1, h2]
theorem kth_n {po : Nat → Option Nat} {k : Int32} {n j : Nat} (h : j < n) (h1 : ¬ (po j = none ∧ nI (cnt po j) = k)) : kth po k (n - j) j = kth po k (n - (j + 1)) (j + 1) := by
  rw [show n - j = (n - (j + 1)) + 1 by omega]
  simp only [kth]
  rw [if_neg h1]
theorem kth_lt {po : Nat → Option Nat} {k : Int32} : ∀ d j f, kth po k d j = some f → j ≤ f ∧ f < j + d ∧ po f = none ∧ nI (cnt po f) = k := by
  intro d
  induction d with
  | zero => intro j f h; simp [kth] at h
  | succ d ih =>
    intro j f h
    simp only [kth] at h
    split at h
    · rename_i hc
      cases h
      exact ⟨Nat.le_refl _, by omega, hc.1, hc.2⟩
    · have := ih (j + 1) f h
      exact ⟨by omega, by omega, this.2.2⟩
/-- whether all rows from r on have 0 -/
def allz (f : Nat → Nat) : Nat → Nat → Bool
  | 0, _ => true
  | d + 1, r => if f r = 0 then allz f d (r + 1) else false
theorem allz_e {f : Nat → Nat} {m r : Nat} (h : m ≤ r) : allz f (m - r) r = true := by
  rw [show m - r = 0 by omega]
  rfl
theorem allz_z {f : Nat → Nat} {m r : Nat} (h : r < m) (z : f r = 0) : allz f (m - r) r = allz f (m - (r + 1)) (r + 1) := by
  rw [show m - r = (m - (r + 1)) + 1 by omega]
  simp [allz, z]
theorem allz_n {f : Nat → Nat} {m r : Nat} (h : r < m) (z : f r ≠ 0) : allz f (m - r) r = false := by
  rw [show m - r = (m - (r + 1)) + 1 by omega]
  simp [allz, z]
theorem Rp.swps {w m : Nat} {f : Nat → Int32} {M : Mat} {F r : Nat} (e : F = r) (h : Rp w m f M) : Rp w m f (swp M F r) := by
  subst e
  exact h.congr (fun i _ k _ => by
    simp only [swp]
    split
    · rename_i q
      rw [q]
    · rfl)
/-- the pivots' rows, one more -/
theorem fp_step {nC c r : Nat} {fP : Nat → Int32} {pc : Nat → Nat} (h : ∀ j, j < nC → fP j = opt (rowOf pc r j)) : ∀ j, j < nC → upd fP c (nI r) j = opt (rowOf (fun i => if i = r then c else pc i) (r + 1) j) := by
  intro j hj
  unfold upd
  by_cases e : j = c
  · subst e
    simp [rowOf, opt]
  · rw [if_neg e, h j hj]
    simp only [rowOf, if_pos]
    rw [if_neg (fun z => e z.symm)]
    rw [rowOf_ext (pc := fun i => if i = r then c else pc i) (pd := pc) (fun i hi => if_neg (by omega))]
end
section
/-! the answers, by the abstract state: P, m, n, A, b, whether reduced; M, r, d, po out of the reduction -/
abbrev nn (x : Int32) : Bool := decide (0 ≤ x.toInt)
def sGet (m n : Nat) (A : Mat) (i j : Int32) : Int32 := if inb m i = true ∧ inb n j = true then nI (A (ix i) (ix j)) else -1
def sRank (rd r : Nat) : Int32 := if rd = 0 then -1 else nI r
def sRref (rd m n : Nat) (M : Mat) (i j : Int32) : Int32 := if rd ≠ 0 ∧ inb m i = true ∧ inb n j = true then nI (M (ix i) (ix j)) else -1
def sTr (rd m : Nat) (M : Mat) (i j : Int32) : Int32 := if rd ≠ 0 ∧ inb m i = true ∧ inb m j = true then nI (M (ix i) (10 + ix j)) else -1
def sDet (rd m n r d : Nat) : Int32 := if rd ≠ 0 ∧ m = n then (if r < n then nI 0 else nI d) else -1
def sInv (rd m n r : Nat) (M : Mat) (i j : Int32) : Int32 := if (rd ≠ 0 ∧ m = n ∧ r = n) ∧ inb m i = true ∧ inb m j = true then nI (M (ix i) (10 + ix j)) else -1
def slv (P m : Nat) (M : Mat) (b : Nat → Nat) (r : Nat) : Bool := allz (fun row => chg P (fun k => M row (10 + k)) b m) (m - r) r
def sSlv (rd P m : Nat) (M : Mat) (b : Nat → Nat) (r : Nat) : Int32 := if rd ≠ 0 ∧ slv P m M b r = true then nI 1 else nI 0
def sSolA (P m : Nat) (M : Mat) (b : Nat → Nat) : Option Nat → Int32
  | none => nI 0
  | some i => nI (chg P (fun k => M i (10 + k)) b m)
def sSol (rd P m n : Nat) (M : Mat) (b : Nat → Nat) (r : Nat) (po : Nat → Option Nat) (j : Int32) : Int32 := if inb n j = true ∧ rd ≠ 0 ∧ slv P m M b r = true then sSolA P m M b (po (ix j)) else -1
def sKd (rd n r : Nat) : Int32 := if rd = 0 then -1 else nI (n - r)
def sKerA (P : Nat) (M : Mat) (jj : Nat) (o : Option Nat) : Option Nat → Int32
  | none => -1
  | some f => match o with
    | none => if jj = f then nI 1 else nI 0
    | some i => nI (ng P (M i f))
def sKer (rd P n : Nat) (M : Mat) (po : Nat → Option Nat) (k j : Int32) : Int32 := if rd ≠ 0 ∧ inb n j = true then sKerA P M (ix j) (po (ix j)) (kth po k n 0) else -1
def nb (b : Nat → Nat) (k v : Nat) : Nat → Nat := fun i => if i = k then v else b i
def okSet (m n : Nat) (i j x : Int32) : Prop := inb m i = true ∧ inb n j = true ∧ nn x = true
def okRhs (m : Nat) (i x : Int32) : Prop := inb m i = true ∧ nn x = true
theorem nn_t {k : Nat} (h : k < 2 ^ 31) : nn (nI k) = true := by
  show decide (0 ≤ (nI k).toInt) = true
  rw [nI_toInt h]
  simp
theorem nn_f {x : Int32} (h : ¬ 0 ≤ x) : nn x = false := by
  rw [Int32.le_iff_toInt_le, Int32.toInt_zero] at h
  simp [nn]
  omega
theorem nn_of {x : Int32} (h : 0 ≤ x) : ∃ k : Nat, k < 2 ^ 31 ∧ x = nI k := nI_of (by rw [Int32.lt_iff_toInt_lt]; rw [Int32.le_iff_toInt_le] at h; omega)
theorem chg_lm {P n m ro : Nat} {M : Mat} {b : Nat → Nat} : chg P (fun k => lm n M ro (n + k)) b m = chg P (fun k => M ro (10 + k)) b m := by
  have e : (fun k => lm n M ro (n + k)) = (fun k => M ro (10 + k)) := by
    funext k
    show M ro (lay n (n + k)) = _
    rw [lay_T]
  rw [e]
/-- what the class's fields hold when it is reduced -/
def PbQ (P mR nC : Nat) (fW fP : Nat → Int32) (pv pp : Nat) (M : Mat) (po : Nat → Option Nat) : Prop :=
  Rp (nC + mR) mR fW (lm nC M) ∧ bnd P M ∧ (∀ j, j < nC → fP j = opt (po j)) ∧ (∀ j i, po j = some i → i < mR) ∧ pv ≤ mR ∧ pv ≤ nC ∧ pp < P
end
section
set_option maxHeartbeats 4000000 in
set_option maxRecDepth 100000 in
theorem c_X0_isRow (l : Launch) (D : va_G) {h a1 a2 a3 a4 : Nat} {cA : ClassId} {mR nC : Nat} {fA fB fW fP : Nat → Int32} {rd pv pp : Nat} {pr : Int32} (i : Int32) (hm : mR ≤ 10) : RdI l yX0_isRow wsX0_isRow ({ frames := 0, cells := 0, slots := 0, locals := 0 }) [.ref h, .int i] D (pbW h a1 a2 a3 a4 cA pr mR nC fA fB fW fP rd pv pp) [(cA, .int)] (fun r => Isin mR i r) := by
  refine RdI.mk (cc := cX0_isRow) (maxL := 2) (rt := .boolean) (by decide) rfl (Nat.le_of_ble_eq_true rfl) ?_
  intro p e s mm args below meth c Q ls A S hK hP hA hS hl hret
  have hx := S.1
  have hb := S.2.1
  have hts := S.2.2.2.2
  have hown := S.2.2.2.1
  have hin : ∀ w ∈ wsX00, w ∈ wsX0_isRow := fun w h => List.mem_cons_of_mem _ (List.mem_append_right _ h)
  have hl : lv_has ls 2 [(0, .ref h), (1, .int i)] := hl
  refine lv_iload_n hx hb dX0_isRow_0 rfl (lv_at hl 1 rfl) ?_
  refine lv_if_lt (tgt := 16) hx hb dX0_isRow_1 (by decide) (fun c_1 => ?_) (fun c_1 => ?_)
  · refine lv_iconst (v := nI 0) hx hb dX0_isRow_16 (by decide +kernel) ?_
    exact hret (nI 0) 17 ls _ _ dX0_isRow_17 (by decide +kernel) hS (Or.inr ⟨out_row (by omega) (Or.inl c_1), rfl⟩)
  · refine lv_iload_n hx hb dX0_isRow_4 rfl (lv_at hl 1 rfl) ?_
    refine lv_aload_n hx hb dX0_isRow_5 rfl (lv_at hl 0 rfl) ?_
    refine x0_get S hin hK hP rfl 1 (by decide) rfl (by decide +kernel) (v := .int (nI mR)) rfl dX0_isRow_6 ?_
    refine lv_icmp_ge (tgt := 16) hx hb dX0_isRow_9 (by decide) (fun c_2 => ?_) (fun c_2 => ?_)
    · refine lv_iconst (v := nI 0) hx hb dX0_isRow_16 (by decide +kernel) ?_
      exact hret (nI 0) 17 ls _ _ dX0_isRow_17 (by decide +kernel) hS (Or.inr ⟨out_row (by omega) (Or.inr c_2), rfl⟩)
    · refine lv_iconst (v := nI 1) hx hb dX0_isRow_12 (by decide +kernel) ?_
      refine lv_goto (tgt := 17) hx hb dX0_isRow_13 (by decide) ?_
      exact hret (nI 1) 17 ls _ _ dX0_isRow_17 (by decide +kernel) hS (by
          obtain ⟨k, hk, hi⟩ := in_row (i := i) (m := mR) (by omega) c_1 c_2
          exact Or.inl ⟨k, hk, hi, rfl⟩)
set_option maxHeartbeats 4000000 in
set_option maxRecDepth 100000 in
theorem c_X0_isColumn (l : Launch) (D : va_G) {h a1 a2 a3 a4 : Nat} {cA : ClassId} {mR nC : Nat} {fA fB fW fP : Nat → Int32} {rd pv pp : Nat} {pr : Int32} (i : Int32) (hn : nC ≤ 10) : RdI l yX0_isColumn wsX0_isColumn ({ frames := 0, cells := 0, slots := 0, locals := 0 }) [.ref h, .int i] D (pbW h a1 a2 a3 a4 cA pr mR nC fA fB fW fP rd pv pp) [(cA, .int)] (fun r => Isin nC i r) := by
  refine RdI.mk (cc := cX0_isColumn) (maxL := 2) (rt := .boolean) (by decide) rfl (Nat.le_of_ble_eq_true rfl) ?_
  intro p e s mm args below meth c Q ls A S hK hP hA hS hl hret
  have hx := S.1
  have hb := S.2.1
  have hts := S.2.2.2.2
  have hown := S.2.2.2.1
  have hin : ∀ w ∈ wsX00, w ∈ wsX0_isColumn := fun w h => List.mem_cons_of_mem _ (List.mem_append_right _ h)
  have hl : lv_has ls 2 [(0, .ref h), (1, .int i)] := hl
  refine lv_iload_n hx hb dX0_isColumn_0 rfl (lv_at hl 1 rfl) ?_
  refine lv_if_lt (tgt := 16) hx hb dX0_isColumn_1 (by decide) (fun c_1 => ?_) (fun c_1 => ?_)
  · refine lv_iconst (v := nI 0) hx hb dX0_isColumn_16 (by decide +kernel) ?_
    exact hret (nI 0) 17 ls _ _ dX0_isColumn_17 (by decide +kernel) hS (Or.inr ⟨out_row (by omega) (Or.inl c_1), rfl⟩)
  · refine lv_iload_n hx hb dX0_isColumn_4 rfl (lv_at hl 1 rfl) ?_
    refine lv_aload_n hx hb dX0_isColumn_5 rfl (lv_at hl 0 rfl) ?_
    refine x0_get S hin hK hP rfl 2 (by decide) rfl (by decide +kernel) (v := .int (nI nC)) rfl dX0_isColumn_6 ?_
    refine lv_icmp_ge (tgt := 16) hx hb dX0_isColumn_9 (by decide) (fun c_2 => ?_) (fun c_2 => ?_)
    · refine lv_iconst (v := nI 0) hx hb dX0_isColumn_16 (by decide +kernel) ?_
      exact hret (nI 0) 17 ls _ _ dX0_isColumn_17 (by decide +kernel) hS (Or.inr ⟨out_row (by omega) (Or.inr c_2), rfl⟩)
    · refine lv_iconst (v := nI 1) hx hb dX0_isColumn_12 (by decide +kernel) ?_
      refine lv_goto (tgt := 17) hx hb dX0_isColumn_13 (by decide) ?_
      exact hret (nI 1) 17 ls _ _ dX0_isColumn_17 (by decide +kernel) hS (by
          obtain ⟨k, hk, hi⟩ := in_row (i := i) (m := nC) (by omega) c_1 c_2
          exact Or.inl ⟨k, hk, hi, rfl⟩)
set_option maxHeartbeats 4000000 in
set_option maxRecDepth 100000 in
theorem c_X0_isSide (l : Launch) (D : va_G)  (i : Int32)  : RdI l yX0_isSide wsX0_isSide ({ frames := 0, cells := 0, slots := 0, locals := 0 }) [.int i] D ([]) [] (fun r => IsSide i r) := by
  refine RdI.mk (cc := cX0_isSide) (maxL := 1) (rt := .boolean) (by decide) rfl (Nat.le_of_ble_eq_true rfl) ?_
  intro p e s mm args below meth c Q ls A S hK hP hA hS hl hret
  have hx := S.1
  have hb := S.2.1
  have hts := S.2.2.2.2
  have hown := S.2.2.2.1
  have hl : lv_has ls 1 [(0, .int i)] := hl
  refine lv_iload_n hx hb dX0_isSide_0 rfl (lv_at hl 0 rfl) ?_
  refine lv_iconst (v := nI 1) hx hb dX0_isSide_1 (by decide +kernel) ?_
  refine lv_icmp_lt (tgt := 15) hx hb dX0_isSide_2 (by decide) (fun c_1 => ?_) (fun c_1 => ?_)
  · refine lv_iconst (v := nI 0) hx hb dX0_isSide_15 (by decide +kernel) ?_
    exact hret (nI 0) 16 ls _ _ dX0_isSide_16 (by decide +kernel) hS (side_f (Or.inl c_1))
  · refine lv_iload_n hx hb dX0_isSide_5 rfl (lv_at hl 0 rfl) ?_
    refine lv_bipush (v := nI 10) hx hb dX0_isSide_6 (by decide +kernel) ?_
    refine lv_icmp_gt (tgt := 15) hx hb dX0_isSide_8 (by decide) (fun c_2 => ?_) (fun c_2 => ?_)
    · refine lv_iconst (v := nI 0) hx hb dX0_isSide_15 (by decide +kernel) ?_
      exact hret (nI 0) 16 ls _ _ dX0_isSide_16 (by decide +kernel) hS (side_f (Or.inr c_2))
    · refine lv_iconst (v := nI 1) hx hb dX0_isSide_11 (by decide +kernel) ?_
      refine lv_goto (tgt := 16) hx hb dX0_isSide_12 (by decide) ?_
      exact hret (nI 1) 16 ls _ _ dX0_isSide_16 (by decide +kernel) hS (side_t c_1 c_2)
set_option maxHeartbeats 4000000 in
set_option maxRecDepth 100000 in
theorem c_X0_isPrime (l : Launch) (D : va_G)  (i : Int32)  : RdI l yX0_isPrime wsX0_isPrime ({ frames := 0, cells := 0, slots := 0, locals := 0 }) [.int i] D ([]) [] (fun r => IsPr i r) := by
  refine RdI.mk (cc := cX0_isPrime) (maxL := 2) (rt := .boolean) (by decide) rfl (Nat.le_of_ble_eq_true rfl) ?_
  intro p e s mm args below meth c Q ls A S hK hP hA hS hl hret
  have hx := S.1
  have hb := S.2.1
  have hts := S.2.2.2.2
  have hown := S.2.2.2.1
  have hl : lv_has ls 2 [(0, .int i)] := hl
  refine lv_iload_n hx hb dX0_isPrime_0 rfl (lv_at hl 0 rfl) ?_
  refine lv_iconst (v := nI 2) hx hb dX0_isPrime_1 (by decide +kernel) ?_
  refine lv_icmp_lt (tgt := 11) hx hb dX0_isPrime_2 (by decide) (fun c_1 => ?_) (fun c_1 => ?_)
  · have hn2 : ¬ i = nI 2 := pr_lt c_1
    refine lv_iload_n hx hb dX0_isPrime_11 rfl (lv_at hl 0 rfl) ?_
    refine lv_iconst (v := nI 2) hx hb dX0_isPrime_12 (by decide +kernel) ?_
    refine lv_icmp_ne (tgt := 20) hx hb dX0_isPrime_13 (by decide) (fun c_2 => ?_) (fun c_2 => ?_)
    · refine lv_iconst (v := nI 0) hx hb dX0_isPrime_20 (by decide +kernel) ?_
      exact hret (nI 0) 21 ls _ _ dX0_isPrime_21 (by decide +kernel) hS (pr_small c_1)
    · exact absurd c_2 hn2
  · obtain ⟨v, hv2, hvl, rfl⟩ := pr_ge c_1
    refine lv_iload_n hx hb dX0_isPrime_5 rfl (lv_at hl 0 rfl) ?_
    refine lv_iconst (v := nI 2) hx hb dX0_isPrime_6 (by decide +kernel) ?_
    refine nv_irem hx hb (by omega) (by omega) (by omega) dX0_isPrime_7 ?_
    refine nv_if_ne (tgt := 22) hx hb dX0_isPrime_8 (by decide) (by omega) (fun c_3 => ?_) (fun c_3 => ?_)
    · refine lv_iconst (v := nI 3) hx hb dX0_isPrime_22 (by decide +kernel) ?_
      refine lv_istore_n (lv' := [(1, .int (nI 3)), (0, .int (nI v))]) hx hb dX0_isPrime_23 rfl hl (by decide) rfl (fun ls hl => ?_)
      have L : ∀ (nL : Nat) (d : Nat), (3 ≤ d) → (d ≤ 46343) → (OddUp v d) → (46344 ≤ d + nL) → ∀ (ls : Array Slot) (H : Heap) (locs : List Loc), lv_has ls 2 [(0, .int (nI v)), (1, .int (nI d))] → va_P D vwCl ([]) H → va_S A s.heap H locs → W p l e ({ frames := 0, cells := 0, slots := 0, locals := 0 }) s mm args below meth c H locs 0 0 Q (F0 mm 24 ls []) := by
        intro nL
        induction nL with
        | zero => intro d hd1 hd2 hinv hfuel; exfalso; omega
        | succ nL ihL =>
          intro d hd1 hd2 hinv hfuel ls H locs hl hP hS
          refine lv_iload_n hx hb dX0_isPrime_24 rfl (lv_at hl 1 rfl) ?_
          refine nv_i2l hx hb (by omega) dX0_isPrime_25 ?_
          refine lv_iload_n hx hb dX0_isPrime_26 rfl (lv_at hl 1 rfl) ?_
          refine nv_i2l hx hb (by omega) dX0_isPrime_27 ?_
          refine nv_lmul hx hb dX0_isPrime_28 ?_
          refine lv_iload_n hx hb dX0_isPrime_29 rfl (lv_at hl 0 rfl) ?_
          refine nv_i2l hx hb (by omega) dX0_isPrime_30 ?_
          refine nv_lcmp_gt (tgt := 49) hx hb dX0_isPrime_31 dX0_isPrime_32 (by decide) (mul_b (by omega) (by omega)) (by omega) (fun c_4 => ?_) (fun c_4 => ?_)
          · refine lv_iconst (v := nI 1) hx hb dX0_isPrime_49 (by decide +kernel) ?_
            exact hret (nI 1) 50 ls _ _ dX0_isPrime_50 (by decide +kernel) hS (pr_yes (by omega) hvl c_3 hinv c_4)
          · have hd3 := sq_lt hvl c_4
            refine lv_iload_n hx hb dX0_isPrime_35 rfl (lv_at hl 0 rfl) ?_
            refine lv_iload_n hx hb dX0_isPrime_36 rfl (lv_at hl 1 rfl) ?_
            refine nv_irem hx hb (by omega) (by omega) (by omega) dX0_isPrime_37 ?_
            refine nv_if_ne (tgt := 43) hx hb dX0_isPrime_38 (by decide) (Nat.lt_of_lt_of_le (Nat.mod_lt _ (by omega)) (show d ≤ 2 ^ 31 by omega)) (fun c_5 => ?_) (fun c_5 => ?_)
            · refine lv_iinc (v := nI (d + 2)) (lv' := [(1, .int (nI (d + 2))), (0, .int (nI v))]) hx hb dX0_isPrime_43 hl (k := 1) rfl (nv_inc d 2) (by decide) rfl (fun ls hl => ?_)
              refine lv_goto (tgt := 24) hx hb dX0_isPrime_46 (by decide) ?_
              exact ihL (d + 2) (by omega) (by omega) (pr_step hinv c_5) (by omega) ls _ _ (lv_sub hl [1, 0] rfl) hP hS
            · refine lv_iconst (v := nI 0) hx hb dX0_isPrime_41 (by decide +kernel) ?_
              exact hret (nI 0) 42 ls _ _ dX0_isPrime_42 (by decide +kernel) hS (pr_no hd1 hvl c_4 c_5)
      exact L 46344 3 (by omega) (by omega) (od_start v) (by omega) ls _ _ (lv_sub hl [1, 0] rfl) hP hS
    · refine lv_iload_n hx hb dX0_isPrime_11 rfl (lv_at hl 0 rfl) ?_
      refine lv_iconst (v := nI 2) hx hb dX0_isPrime_12 (by decide +kernel) ?_
      refine nv_icmp_ne (tgt := 20) hx hb dX0_isPrime_13 (by decide) (by omega) (by omega) (fun c_6 => ?_) (fun c_6 => ?_)
      · refine lv_iconst (v := nI 0) hx hb dX0_isPrime_20 (by decide +kernel) ?_
        exact hret (nI 0) 21 ls _ _ dX0_isPrime_21 (by decide +kernel) hS (pr_even c_3 c_6 hv2 hvl)
      · refine lv_iconst (v := nI 1) hx hb dX0_isPrime_16 (by decide +kernel) ?_
        refine lv_goto (tgt := 21) hx hb dX0_isPrime_17 (by decide) ?_
        exact hret (nI 1) 21 ls _ _ dX0_isPrime_21 (by decide +kernel) hS (pr_two c_6)
set_option maxHeartbeats 4000000 in
set_option maxRecDepth 100000 in
theorem c_X0_hasInverse (l : Launch) (D : va_G) {h a1 a2 a3 a4 : Nat} {cA : ClassId} {mR nC : Nat} {fA fB fW fP : Nat → Int32} {rd pv pp : Nat} {pr : Int32} (hm : mR ≤ 10) (hn : nC ≤ 10) (hrd : rd < 2 ^ 31) (hpv : pv < 2 ^ 31) : RdI l yX0_hasInverse wsX0_hasInverse ({ frames := 0, cells := 0, slots := 0, locals := 0 }) [.ref h] D (pbW h a1 a2 a3 a4 cA pr mR nC fA fB fW fP rd pv pp) [(cA, .int)] (fun r => r = nI (if rd ≠ 0 ∧ mR = nC ∧ pv = nC then 1 else 0)) := by
  refine RdI.mk (cc := cX0_hasInverse) (maxL := 1) (rt := .boolean) (by decide) rfl (Nat.le_of_ble_eq_true rfl) ?_
  intro p e s mm args below meth c Q ls A S hK hP hA hS hl hret
  have hx := S.1
  have hb := S.2.1
  have hts := S.2.2.2.2
  have hown := S.2.2.2.1
  have hin : ∀ w ∈ wsX00, w ∈ wsX0_hasInverse := fun w h => List.mem_cons_of_mem _ (List.mem_append_right _ h)
  have hl : lv_has ls 1 [(0, .ref h)] := hl
  refine lv_aload_n hx hb dX0_hasInverse_0 rfl (lv_at hl 0 rfl) ?_
  refine x0_get S hin hK hP rfl 8 (by decide) rfl (by decide +kernel) (v := .int (nI rd)) rfl dX0_hasInverse_1 ?_
  refine nv_if_eq (tgt := 33) hx hb dX0_hasInverse_4 (by decide) (by omega) (fun c_1 => ?_) (fun c_1 => ?_)
  · refine lv_iconst (v := nI 0) hx hb dX0_hasInverse_33 (by decide +kernel) ?_
    exact hret (nI 0) 34 ls _ _ dX0_hasInverse_34 (by decide +kernel) hS (by simp [c_1])
  · refine lv_aload_n hx hb dX0_hasInverse_7 rfl (lv_at hl 0 rfl) ?_
    refine x0_get S hin hK hP rfl 1 (by decide) rfl (by decide +kernel) (v := .int (nI mR)) rfl dX0_hasInverse_8 ?_
    refine lv_aload_n hx hb dX0_hasInverse_11 rfl (lv_at hl 0 rfl) ?_
    refine x0_get S hin hK hP rfl 2 (by decide) rfl (by decide +kernel) (v := .int (nI nC)) rfl dX0_hasInverse_12 ?_
    refine nv_icmp_ne (tgt := 33) hx hb dX0_hasInverse_15 (by decide) (by omega) (by omega) (fun c_2 => ?_) (fun c_2 => ?_)
    · refine lv_iconst (v := nI 0) hx hb dX0_hasInverse_33 (by decide +kernel) ?_
      exact hret (nI 0) 34 ls _ _ dX0_hasInverse_34 (by decide +kernel) hS (by simp [show rd ≠ 0 by omega, c_2])
    · refine lv_aload_n hx hb dX0_hasInverse_18 rfl (lv_at hl 0 rfl) ?_
      refine x0_get S hin hK hP rfl 9 (by decide) rfl (by decide +kernel) (v := .int (nI pv)) rfl dX0_hasInverse_19 ?_
      refine lv_aload_n hx hb dX0_hasInverse_22 rfl (lv_at hl 0 rfl) ?_
      refine x0_get S hin hK hP rfl 2 (by decide) rfl (by decide +kernel) (v := .int (nI nC)) rfl dX0_hasInverse_23 ?_
      refine nv_icmp_ne (tgt := 33) hx hb dX0_hasInverse_26 (by decide) (by omega) (by omega) (fun c_3 => ?_) (fun c_3 => ?_)
      · refine lv_iconst (v := nI 0) hx hb dX0_hasInverse_33 (by decide +kernel) ?_
        exact hret (nI 0) 34 ls _ _ dX0_hasInverse_34 (by decide +kernel) hS (by simp [show rd ≠ 0 by omega, c_2, c_3])
      · refine lv_iconst (v := nI 1) hx hb dX0_hasInverse_29 (by decide +kernel) ?_
        refine lv_goto (tgt := 34) hx hb dX0_hasInverse_30 (by decide) ?_
        exact hret (nI 1) 34 ls _ _ dX0_hasInverse_34 (by decide +kernel) hS (by simp [show rd ≠ 0 by omega, c_2, c_3])
set_option maxHeartbeats 4000000 in
set_option maxRecDepth 100000 in
theorem c_X0_transformNumber (l : Launch) (D : va_G) {h a1 a2 a3 a4 : Nat} {cA : ClassId} {mR nC : Nat} {fA fB fW fP : Nat → Int32} {rd pv pp : Nat} {pr : Int32} {M : Mat} (ti tj : Nat) (hm : mR ≤ 10) (hn : nC ≤ 10) (hti : ti < mR) (htj : tj < mR) (hM : Rp (nC + mR) mR fW M) : RdI l yX0_transformNumber wsX0_transformNumber ({ frames := 0, cells := 0, slots := 0, locals := 0 }) [.ref h, .int (nI ti), .int (nI tj)] D (pbW h a1 a2 a3 a4 cA pr mR nC fA fB fW fP rd pv pp) [(cA, .int)] (fun r => r = nI (M ti (nC + tj))) := by
  refine RdI.mk (cc := cX0_transformNumber) (maxL := 3) (rt := .int) (by decide) rfl (Nat.le_of_ble_eq_true rfl) ?_
  intro p e s mm args below meth c Q ls A S hK hP hA hS hl hret
  have hx := S.1
  have hb := S.2.1
  have hts := S.2.2.2.2
  have hown := S.2.2.2.1
  have hin : ∀ w ∈ wsX00, w ∈ wsX0_transformNumber := fun w h => List.mem_cons_of_mem _ (List.mem_append_right _ h)
  have hl : lv_has ls 3 [(0, .ref h), (1, .int (nI ti)), (2, .int (nI tj))] := hl
  refine lv_aload_n hx hb dX0_transformNumber_0 rfl (lv_at hl 0 rfl) ?_
  refine x0_get S hin hK hP rfl 5 (by decide) rfl (by decide +kernel) (v := .ref a3) rfl dX0_transformNumber_1 ?_
  refine lv_iload_n hx hb dX0_transformNumber_4 rfl (lv_at hl 1 rfl) ?_
  refine lv_aload_n hx hb dX0_transformNumber_5 rfl (lv_at hl 0 rfl) ?_
  refine x0_get S hin hK hP rfl 6 (by decide) rfl (by decide +kernel) (v := .int (nI (nC + mR))) rfl dX0_transformNumber_6 ?_
  refine nv_imul hx hb dX0_transformNumber_9 ?_
  refine lv_aload_n hx hb dX0_transformNumber_10 rfl (lv_at hl 0 rfl) ?_
  refine x0_get S hin hK hP rfl 2 (by decide) rfl (by decide +kernel) (v := .int (nI nC)) rfl dX0_transformNumber_11 ?_
  refine nv_iadd hx hb dX0_transformNumber_14 ?_
  refine lv_iload_n hx hb dX0_transformNumber_15 rfl (lv_at hl 2 rfl) ?_
  refine nv_iadd hx hb dX0_transformNumber_16 ?_
  refine nv_iald hx hb hK hP 3 0 rfl rfl (v := nI (M ti (nC + tj))) (by rw [Nat.add_assoc]; exact ix_lt hti (by omega)) (bd3 hm hn) (by rw [Nat.add_assoc]; exact hM ti hti (nC + tj) (by omega)) dX0_transformNumber_17 ?_
  exact hret (nI (M ti (nC + tj))) 18 ls _ _ dX0_transformNumber_18 (rfl) hS (rfl)
set_option maxHeartbeats 4000000 in
set_option maxRecDepth 100000 in
theorem c_X0_negative (l : Launch) (D : va_G) {h a1 a2 a3 a4 : Nat} {cA : ClassId} {mR nC : Nat} {fA fB fW fP : Nat → Int32} {rd pv pp : Nat} {P : Nat} (x : Nat) (hPl : P < 2 ^ 31) (hxP : x < P) : RdL l yX0_negative wsX0_negative ({ frames := 0, cells := 0, slots := 0, locals := 0 }) [.ref h, .long (lN x)] D (pbW h a1 a2 a3 a4 cA (nI P) mR nC fA fB fW fP rd pv pp) [(cA, .int)] (fun r => r = lN (ng P x)) := by
  refine RdL.mk (cc := cX0_negative) (maxL := 3) (by decide) rfl (Nat.le_of_ble_eq_true rfl) ?_
  intro p e s mm args below meth c Q ls A S hK hP hA hS hl hret
  have hx := S.1
  have hb := S.2.1
  have hts := S.2.2.2.2
  have hown := S.2.2.2.1
  have hin : ∀ w ∈ wsX00, w ∈ wsX0_negative := fun w h => List.mem_cons_of_mem _ (List.mem_append_right _ h)
  have hl : lv_has ls 3 [(0, .ref h), (1, .long (lN x))] := hl
  refine lv_lload_n hx hb dX0_negative_0 rfl (lv_at hl 1 rfl) ?_
  refine lv_lconst (v := lN 0) hx hb dX0_negative_1 rfl ?_
  refine nv_lcmp_ne (tgt := 10) hx hb dX0_negative_2 dX0_negative_3 (by decide) (by omega) (by omega) (fun c_1 => ?_) (fun c_1 => ?_)
  · refine lv_aload_n hx hb dX0_negative_10 rfl (lv_at hl 0 rfl) ?_
    refine x0_get S hin hK hP rfl 0 (by decide) rfl (by decide +kernel) (v := .int (nI P)) rfl dX0_negative_11 ?_
    refine nv_i2l hx hb (by omega) dX0_negative_14 ?_
    refine lv_lload_n hx hb dX0_negative_15 rfl (lv_at hl 1 rfl) ?_
    refine nv_lsub hx hb (by omega) dX0_negative_16 ?_
    exact hret (lN (P - x)) 17 ls _ _ dX0_negative_17 hS (by simp [ng, c_1])
  · refine lv_lconst (v := lN 0) hx hb dX0_negative_6 rfl ?_
    refine lv_goto (tgt := 17) hx hb dX0_negative_7 (by decide) ?_
    exact hret (lN 0) 17 ls _ _ dX0_negative_17 hS (by simp [ng, c_1])
set_option maxHeartbeats 4000000 in
set_option maxRecDepth 100000 in
theorem c_X0_inverseOf (l : Launch) (D : va_G) {h a1 a2 a3 a4 : Nat} {cA : ClassId} {mR nC : Nat} {fA fB fW fP : Nat → Int32} {rd pv pp : Nat} {P : Nat} (x : Nat) (hP2 : 2 ≤ P) (hPl : P < 2 ^ 31) (hxP : x < P) : RdL l yX0_inverseOf wsX0_inverseOf ({ frames := 0, cells := 0, slots := 0, locals := 0 }) [.ref h, .int (nI x)] D (pbW h a1 a2 a3 a4 cA (nI P) mR nC fA fB fW fP rd pv pp) [(cA, .int)] (fun r => r = lN (x ^ (P - 2) % P)) := by
  refine RdL.mk (cc := cX0_inverseOf) (maxL := 7) (by decide) rfl (Nat.le_of_ble_eq_true rfl) ?_
  intro p e s mm args below meth c Q ls A S hK hP hA hS hl hret
  have hx := S.1
  have hb := S.2.1
  have hts := S.2.2.2.2
  have hown := S.2.2.2.1
  have hin : ∀ w ∈ wsX00, w ∈ wsX0_inverseOf := fun w h => List.mem_cons_of_mem _ (List.mem_append_right _ h)
  have hl : lv_has ls 7 [(0, .ref h), (1, .int (nI x))] := hl
  refine lv_lconst (v := lN 1) hx hb dX0_inverseOf_0 rfl ?_
  refine lv_lstore_n (lv' := [(2, .long (lN 1)), (0, .ref h), (1, .int (nI x))]) hx hb dX0_inverseOf_1 rfl hl (by decide) rfl (fun ls hl => ?_)
  refine lv_iload_n hx hb dX0_inverseOf_2 rfl (lv_at hl 2 rfl) ?_
  refine nv_i2l hx hb (by omega) dX0_inverseOf_3 ?_
  refine lv_lstore (lv' := [(4, .long (lN x)), (2, .long (lN 1)), (0, .ref h), (1, .int (nI x))]) hx hb dX0_inverseOf_4 hl (by decide) rfl (fun ls hl => ?_)
  refine lv_aload_n hx hb dX0_inverseOf_6 rfl (lv_at hl 2 rfl) ?_
  refine x0_get S hin hK hP rfl 0 (by decide) rfl (by decide +kernel) (v := .int (nI P)) rfl dX0_inverseOf_7 ?_
  refine lv_iconst (v := nI 2) hx hb dX0_inverseOf_10 (by decide +kernel) ?_
  refine nv_isub hx hb (by omega) dX0_inverseOf_11 ?_
  refine lv_istore (lv' := [(6, .int (nI (P - 2))), (4, .long (lN x)), (2, .long (lN 1)), (0, .ref h), (1, .int (nI x))]) hx hb dX0_inverseOf_12 hl (by decide) rfl (fun ls hl => ?_)
  have L : ∀ (nL : Nat) (p1 : Nat) (q1 : Nat) (e1 : Nat), (p1 < P) → (q1 < P) → (e1 < 2 ^ 31) → (p1 * q1 ^ e1 % P = x ^ (P - 2) % P) → (e1 < nL) → ∀ (ls : Array Slot) (H : Heap) (locs : List Loc), lv_has ls 7 [(0, .ref h), (1, .int (nI x)), (2, .long (lN p1)), (4, .long (lN q1)), (6, .int (nI e1))] → va_P D vwCl (pbW h a1 a2 a3 a4 cA (nI P) mR nC fA fB fW fP rd pv pp) H → va_S A s.heap H locs → W p l e ({ frames := 0, cells := 0, slots := 0, locals := 0 }) s mm args below meth c H locs 0 0 Q (F0 mm 14 ls []) := by
    intro nL
    induction nL with
    | zero => intro p1 q1 e1 h1 h2 h3 hinv hfuel; exfalso; omega
    | succ nL ihL =>
      intro p1 q1 e1 h1 h2 h3 hinv hfuel ls H locs hl hP hS
      refine lv_iload hx hb dX0_inverseOf_14 (lv_at hl 4 rfl) ?_
      refine nv_if_le (tgt := 60) hx hb dX0_inverseOf_16 (by decide) (by omega) (fun c_1 => ?_) (fun c_1 => ?_)
      · refine lv_lload_n hx hb dX0_inverseOf_60 rfl (lv_at hl 2 rfl) ?_
        exact hret (lN p1) 61 ls _ _ dX0_inverseOf_61 hS (by
            have e0 : e1 = 0 := by omega
            rw [e0, Nat.pow_zero, Nat.mul_one, Nat.mod_eq_of_lt h1] at hinv
            rw [hinv])
      · refine lv_iload hx hb dX0_inverseOf_19 (lv_at hl 4 rfl) ?_
        refine lv_iconst (v := nI 1) hx hb dX0_inverseOf_21 (by decide +kernel) ?_
        refine nv_iand1 hx hb (by omega) dX0_inverseOf_22 ?_
        refine lv_iconst (v := nI 1) hx hb dX0_inverseOf_23 (by decide +kernel) ?_
        refine nv_icmp_ne (tgt := 38) hx hb dX0_inverseOf_24 (by decide) (by omega) (by omega) (fun c_2 => ?_) (fun c_2 => ?_)
        · refine lv_lload hx hb dX0_inverseOf_38 (lv_at hl 3 rfl) ?_
          refine lv_lload hx hb dX0_inverseOf_40 (lv_at hl 3 rfl) ?_
          refine nv_lmul hx hb dX0_inverseOf_42 ?_
          refine lv_aload_n hx hb dX0_inverseOf_43 rfl (lv_at hl 0 rfl) ?_
          refine x0_get S hin hK hP rfl 0 (by decide) rfl (by decide +kernel) (v := .int (nI P)) rfl dX0_inverseOf_44 ?_
          refine nv_i2l hx hb (by omega) dX0_inverseOf_47 ?_
          refine nv_lrem hx hb (mul_b (by omega) (by omega)) (by omega) (by omega) dX0_inverseOf_48 ?_
          refine lv_lstore (lv' := [(4, .long (lN ((q1 * q1) % P))), (0, .ref h), (1, .int (nI x)), (2, .long (lN p1)), (6, .int (nI e1))]) hx hb dX0_inverseOf_49 hl (by decide) rfl (fun ls hl => ?_)
          refine lv_iload hx hb dX0_inverseOf_51 (lv_at hl 4 rfl) ?_
          refine lv_iconst (v := nI 1) hx hb dX0_inverseOf_53 (by decide +kernel) ?_
          refine nv_ishr1 hx hb (by omega) dX0_inverseOf_54 ?_
          refine lv_istore (lv' := [(6, .int (nI (e1 / 2))), (4, .long (lN ((q1 * q1) % P))), (0, .ref h), (1, .int (nI x)), (2, .long (lN p1))]) hx hb dX0_inverseOf_55 hl (by decide) rfl (fun ls hl => ?_)
          refine lv_goto (tgt := 14) hx hb dX0_inverseOf_57 (by decide) ?_
          exact ihL p1 (q1 * q1 % P) (e1 / 2) h1 (Nat.mod_lt _ (by omega)) (by omega) (by rw [pw_even c_2]; exact hinv) (by omega) ls _ _ (lv_sub hl [2, 3, 4, 1, 0] rfl) hP hS
        · refine lv_lload_n hx hb dX0_inverseOf_27 rfl (lv_at hl 2 rfl) ?_
          refine lv_lload hx hb dX0_inverseOf_28 (lv_at hl 3 rfl) ?_
          refine nv_lmul hx hb dX0_inverseOf_30 ?_
          refine lv_aload_n hx hb dX0_inverseOf_31 rfl (lv_at hl 0 rfl) ?_
          refine x0_get S hin hK hP rfl 0 (by decide) rfl (by decide +kernel) (v := .int (nI P)) rfl dX0_inverseOf_32 ?_
          refine nv_i2l hx hb (by omega) dX0_inverseOf_35 ?_
          refine nv_lrem hx hb (mul_b (by omega) (by omega)) (by omega) (by omega) dX0_inverseOf_36 ?_
          refine lv_lstore_n (lv' := [(2, .long (lN ((p1 * q1) % P))), (0, .ref h), (1, .int (nI x)), (4, .long (lN q1)), (6, .int (nI e1))]) hx hb dX0_inverseOf_37 rfl hl (by decide) rfl (fun ls hl => ?_)
          refine lv_lload hx hb dX0_inverseOf_38 (lv_at hl 3 rfl) ?_
          refine lv_lload hx hb dX0_inverseOf_40 (lv_at hl 3 rfl) ?_
          refine nv_lmul hx hb dX0_inverseOf_42 ?_
          refine lv_aload_n hx hb dX0_inverseOf_43 rfl (lv_at hl 1 rfl) ?_
          refine x0_get S hin hK hP rfl 0 (by decide) rfl (by decide +kernel) (v := .int (nI P)) rfl dX0_inverseOf_44 ?_
          refine nv_i2l hx hb (by omega) dX0_inverseOf_47 ?_
          refine nv_lrem hx hb (mul_b (by omega) (by omega)) (by omega) (by omega) dX0_inverseOf_48 ?_
          refine lv_lstore (lv' := [(4, .long (lN ((q1 * q1) % P))), (2, .long (lN ((p1 * q1) % P))), (0, .ref h), (1, .int (nI x)), (6, .int (nI e1))]) hx hb dX0_inverseOf_49 hl (by decide) rfl (fun ls hl => ?_)
          refine lv_iload hx hb dX0_inverseOf_51 (lv_at hl 4 rfl) ?_
          refine lv_iconst (v := nI 1) hx hb dX0_inverseOf_53 (by decide +kernel) ?_
          refine nv_ishr1 hx hb (by omega) dX0_inverseOf_54 ?_
          refine lv_istore (lv' := [(6, .int (nI (e1 / 2))), (4, .long (lN ((q1 * q1) % P))), (2, .long (lN ((p1 * q1) % P))), (0, .ref h), (1, .int (nI x))]) hx hb dX0_inverseOf_55 hl (by decide) rfl (fun ls hl => ?_)
          refine lv_goto (tgt := 14) hx hb dX0_inverseOf_57 (by decide) ?_
          exact ihL (p1 * q1 % P) (q1 * q1 % P) (e1 / 2) (Nat.mod_lt _ (by omega)) (Nat.mod_lt _ (by omega)) (by omega) (by rw [pw_odd c_2]; exact hinv) (by omega) ls _ _ (lv_sub hl [3, 4, 2, 1, 0] rfl) hP hS
  exact L P 1 x (P - 2) (by omega) hxP (by omega) (by rw [Nat.one_mul]) (by omega) ls _ _ (lv_sub hl [3, 4, 2, 1, 0] rfl) hP hS
set_option maxHeartbeats 4000000 in
set_option maxRecDepth 100000 in
theorem c_X0_firstRowLeft (l : Launch) (D : va_G) {h a1 a2 a3 a4 : Nat} {cA : ClassId} {mR nC : Nat} {fA fB fW fP : Nat → Int32} {rd pv pp : Nat} {pr : Int32} {M : Mat} {P : Nat} (cc : Nat) (hP2 : 2 ≤ P) (hPl : P < 2 ^ 31) (hm : mR ≤ 10) (hn : nC ≤ 10) (hcc : cc < nC) (hpv : pv ≤ mR) (hB : bnd P M) (hM : Rp (nC + mR) mR fW M) : RdI l yX0_firstRowLeft wsX0_firstRowLeft ({ frames := 0, cells := 0, slots := 0, locals := 0 }) [.ref h, .int (nI cc)] D (pbW h a1 a2 a3 a4 cA pr mR nC fA fB fW fP rd pv pp) [(cA, .int)] (fun r => (fnd M cc (mR - pv) pv < mR ∧ r = nI (fnd M cc (mR - pv) pv)) ∨ (mR ≤ fnd M cc (mR - pv) pv ∧ r = -1)) := by
  refine RdI.mk (cc := cX0_firstRowLeft) (maxL := 3) (rt := .int) (by decide) rfl (Nat.le_of_ble_eq_true rfl) ?_
  intro p e s mm args below meth c Q ls A S hK hP hA hS hl hret
  have hx := S.1
  have hb := S.2.1
  have hts := S.2.2.2.2
  have hown := S.2.2.2.1
  have hin : ∀ w ∈ wsX00, w ∈ wsX0_firstRowLeft := fun w h => List.mem_cons_of_mem _ (List.mem_append_right _ h)
  have hl : lv_has ls 3 [(0, .ref h), (1, .int (nI cc))] := hl
  refine lv_aload_n hx hb dX0_firstRowLeft_0 rfl (lv_at hl 0 rfl) ?_
  refine x0_get S hin hK hP rfl 9 (by decide) rfl (by decide +kernel) (v := .int (nI pv)) rfl dX0_firstRowLeft_1 ?_
  refine lv_istore_n (lv' := [(2, .int (nI pv)), (0, .ref h), (1, .int (nI cc))]) hx hb dX0_firstRowLeft_4 rfl hl (by decide) rfl (fun ls hl => ?_)
  have L : ∀ (nL : Nat) (i : Nat), (i ≤ mR) → (fnd M cc (mR - i) i = fnd M cc (mR - pv) pv) → (mR + 1 ≤ i + nL) → ∀ (ls : Array Slot) (H : Heap) (locs : List Loc), lv_has ls 3 [(0, .ref h), (1, .int (nI cc)), (2, .int (nI i))] → va_P D vwCl (pbW h a1 a2 a3 a4 cA pr mR nC fA fB fW fP rd pv pp) H → va_S A s.heap H locs → W p l e ({ frames := 0, cells := 0, slots := 0, locals := 0 }) s mm args below meth c H locs 0 0 Q (F0 mm 5 ls []) := by
    intro nL
    induction nL with
    | zero => intro i hi hinv hfuel; exfalso; omega
    | succ nL ihL =>
      intro i hi hinv hfuel ls H locs hl hP hS
      refine lv_iload_n hx hb dX0_firstRowLeft_5 rfl (lv_at hl 2 rfl) ?_
      refine lv_aload_n hx hb dX0_firstRowLeft_6 rfl (lv_at hl 0 rfl) ?_
      refine x0_get S hin hK hP rfl 1 (by decide) rfl (by decide +kernel) (v := .int (nI mR)) rfl dX0_firstRowLeft_7 ?_
      refine nv_icmp_ge (tgt := 37) hx hb dX0_firstRowLeft_10 (by decide) (by omega) (by omega) (fun c_1 => ?_) (fun c_1 => ?_)
      · refine lv_iconst (v := (-1)) hx hb dX0_firstRowLeft_37 (by decide +kernel) ?_
        exact hret ((-1)) 38 ls _ _ dX0_firstRowLeft_38 (rfl) hS (by
            have e1 : fnd M cc (mR - i) i = i := fnd_e c_1
            rw [← hinv, e1]
            exact Or.inr ⟨c_1, rfl⟩)
      · refine lv_aload_n hx hb dX0_firstRowLeft_13 rfl (lv_at hl 0 rfl) ?_
        refine x0_get S hin hK hP rfl 5 (by decide) rfl (by decide +kernel) (v := .ref a3) rfl dX0_firstRowLeft_14 ?_
        refine lv_iload_n hx hb dX0_firstRowLeft_17 rfl (lv_at hl 2 rfl) ?_
        refine lv_aload_n hx hb dX0_firstRowLeft_18 rfl (lv_at hl 0 rfl) ?_
        refine x0_get S hin hK hP rfl 6 (by decide) rfl (by decide +kernel) (v := .int (nI (nC + mR))) rfl dX0_firstRowLeft_19 ?_
        refine nv_imul hx hb dX0_firstRowLeft_22 ?_
        refine lv_iload_n hx hb dX0_firstRowLeft_23 rfl (lv_at hl 1 rfl) ?_
        refine nv_iadd hx hb dX0_firstRowLeft_24 ?_
        refine nv_iald hx hb hK hP 3 0 rfl rfl (v := nI (M i cc)) (ix_lt (by omega) (by omega)) (bd3 hm hn) (hM i (by omega) cc (by omega)) dX0_firstRowLeft_25 ?_
        refine nv_if_eq (tgt := 31) hx hb dX0_firstRowLeft_26 (by decide) (Nat.lt_trans (hB i cc) hPl) (fun c_2 => ?_) (fun c_2 => ?_)
        · refine lv_iinc (v := nI (i + 1)) (lv' := [(2, .int (nI (i + 1))), (0, .ref h), (1, .int (nI cc))]) hx hb dX0_firstRowLeft_31 hl (k := 2) rfl (nv_inc i 1) (by decide) rfl (fun ls hl => ?_)
          refine lv_goto (tgt := 5) hx hb dX0_firstRowLeft_34 (by decide) ?_
          exact ihL (i + 1) (by omega) (by rw [← hinv, fnd_z (by omega) c_2]) (by omega) ls _ _ (lv_sub hl [1, 2, 0] rfl) hP hS
        · refine lv_iload_n hx hb dX0_firstRowLeft_29 rfl (lv_at hl 2 rfl) ?_
          exact hret (nI i) 30 ls _ _ dX0_firstRowLeft_30 (rfl) hS (by
              have e1 : fnd M cc (mR - i) i = i := fnd_n c_1 c_2
              rw [← hinv, e1]
              exact Or.inl ⟨c_1, rfl⟩)
  exact L (mR + 1) pv hpv rfl (by omega) ls _ _ (lv_sub hl [1, 2, 0] rfl) hP hS
set_option maxHeartbeats 4000000 in
set_option maxRecDepth 100000 in
theorem c_X0_changePlaces (l : Launch) (D : va_G) {h a1 a2 a3 a4 : Nat} {cA : ClassId} {mR nC : Nat} {fA fB fW fP : Nat → Int32} {rd pv pp : Nat} {pr : Int32} {M : Mat} (o1 o2 : Nat) (hm : mR ≤ 10) (hn : nC ≤ 10) (h1 : o1 < mR) (h2 : o2 < mR) (hM : Rp (nC + mR) mR fW M) : WrV (U := Nat → Int32) l yX0_changePlaces wsX0_changePlaces ({ frames := 0, cells := 0, slots := 0, locals := 0 }) [.ref h, .int (nI o1), .int (nI o2)] D (pbW h a1 a2 a3 a4 cA pr mR nC fA fB fW fP rd pv pp) [(cA, .int)] (fun u => Rp (nC + mR) mR u (swp M o1 o2)) (fun u => pbW h a1 a2 a3 a4 cA pr mR nC fA fB u fP rd pv pp) := by
  refine WrV.mk (cc := cX0_changePlaces) (maxL := 5) (by decide) rfl (Nat.le_of_ble_eq_true rfl) ?_
  intro p e s mm args below meth c Q ls A S hK hP hD hA hS hl hret
  have hx := S.1
  have hb := S.2.1
  have hts := S.2.2.2.2
  have hown := S.2.2.2.1
  have hin : ∀ w ∈ wsX00, w ∈ wsX0_changePlaces := fun w h => List.mem_cons_of_mem _ (List.mem_append_right _ h)
  have hl : lv_has ls 5 [(0, .ref h), (1, .int (nI o1)), (2, .int (nI o2))] := hl
  refine lv_iconst (v := nI 0) hx hb dX0_changePlaces_0 (by decide +kernel) ?_
  refine lv_istore_n (lv' := [(3, .int (nI 0)), (0, .ref h), (1, .int (nI o1)), (2, .int (nI o2))]) hx hb dX0_changePlaces_1 rfl hl (by decide) rfl (fun ls hl => ?_)
  have L : ∀ (nL : Nat) (f : Nat → Int32) (i : Nat), (i ≤ nC + mR) → (Rp (nC + mR) mR f (col2 i (swp M o1 o2) M)) → (nC + mR + 1 ≤ i + nL) → ∀ (ls : Array Slot) (H : Heap) (locs : List Loc), lv_has ls 5 [(0, .ref h), (1, .int (nI o1)), (2, .int (nI o2)), (3, .int (nI i))] → va_P D vwCl (pbW h a1 a2 a3 a4 cA pr mR nC fA fB f fP rd pv pp) H → va_D A (pbW h a1 a2 a3 a4 cA pr mR nC fA fB f fP rd pv pp) → va_S A s.heap H locs → W p l e ({ frames := 0, cells := 0, slots := 0, locals := 0 }) s mm args below meth c H locs 0 0 Q (F0 mm 2 ls []) := by
    intro nL
    induction nL with
    | zero => intro f i hi hinv hfuel; exfalso; omega
    | succ nL ihL =>
      intro f i hi hinv hfuel ls H locs hl hP hD hS
      refine lv_iload_n hx hb dX0_changePlaces_2 rfl (lv_at hl 3 rfl) ?_
      refine lv_aload_n hx hb dX0_changePlaces_3 rfl (lv_at hl 0 rfl) ?_
      refine x0_get S hin hK hP rfl 6 (by decide) rfl (by decide +kernel) (v := .int (nI (nC + mR))) rfl dX0_changePlaces_4 ?_
      refine nv_icmp_ge (tgt := 72) hx hb dX0_changePlaces_7 (by decide) (by omega) (by omega) (fun c_1 => ?_) (fun c_1 => ?_)
      · exact hret f 72 ls _ _ dX0_changePlaces_72 hP hD hS (hinv.colw c_1)
      · refine lv_aload_n hx hb dX0_changePlaces_10 rfl (lv_at hl 0 rfl) ?_
        refine x0_get S hin hK hP rfl 5 (by decide) rfl (by decide +kernel) (v := .ref a3) rfl dX0_changePlaces_11 ?_
        refine lv_iload_n hx hb dX0_changePlaces_14 rfl (lv_at hl 1 rfl) ?_
        refine lv_aload_n hx hb dX0_changePlaces_15 rfl (lv_at hl 0 rfl) ?_
        refine x0_get S hin hK hP rfl 6 (by decide) rfl (by decide +kernel) (v := .int (nI (nC + mR))) rfl dX0_changePlaces_16 ?_
        refine nv_imul hx hb dX0_changePlaces_19 ?_
        refine lv_iload_n hx hb dX0_changePlaces_20 rfl (lv_at hl 3 rfl) ?_
        refine nv_iadd hx hb dX0_changePlaces_21 ?_
        refine nv_iald hx hb hK hP 3 0 rfl rfl (v := nI (col2 i (swp M o1 o2) M o1 i)) (ix_lt h1 (by omega)) (bd3 hm hn) (hinv o1 h1 i (by omega)) dX0_changePlaces_22 ?_
        refine lv_istore (lv' := [(4, .int (nI (col2 i (swp M o1 o2) M o1 i))), (0, .ref h), (1, .int (nI o1)), (2, .int (nI o2)), (3, .int (nI i))]) hx hb dX0_changePlaces_23 hl (by decide) rfl (fun ls hl => ?_)
        refine lv_aload_n hx hb dX0_changePlaces_25 rfl (lv_at hl 1 rfl) ?_
        refine x0_get S hin hK hP rfl 5 (by decide) rfl (by decide +kernel) (v := .ref a3) rfl dX0_changePlaces_26 ?_
        refine lv_iload_n hx hb dX0_changePlaces_29 rfl (lv_at hl 2 rfl) ?_
        refine lv_aload_n hx hb dX0_changePlaces_30 rfl (lv_at hl 1 rfl) ?_
        refine x0_get S hin hK hP rfl 6 (by decide) rfl (by decide +kernel) (v := .int (nI (nC + mR))) rfl dX0_changePlaces_31 ?_
        refine nv_imul hx hb dX0_changePlaces_34 ?_
        refine lv_iload_n hx hb dX0_changePlaces_35 rfl (lv_at hl 4 rfl) ?_
        refine nv_iadd hx hb dX0_changePlaces_36 ?_
        refine lv_aload_n hx hb dX0_changePlaces_37 rfl (lv_at hl 1 rfl) ?_
        refine x0_get S hin hK hP rfl 5 (by decide) rfl (by decide +kernel) (v := .ref a3) rfl dX0_changePlaces_38 ?_
        refine lv_iload_n hx hb dX0_changePlaces_41 rfl (lv_at hl 3 rfl) ?_
        refine lv_aload_n hx hb dX0_changePlaces_42 rfl (lv_at hl 1 rfl) ?_
        refine x0_get S hin hK hP rfl 6 (by decide) rfl (by decide +kernel) (v := .int (nI (nC + mR))) rfl dX0_changePlaces_43 ?_
        refine nv_imul hx hb dX0_changePlaces_46 ?_
        refine lv_iload_n hx hb dX0_changePlaces_47 rfl (lv_at hl 4 rfl) ?_
        refine nv_iadd hx hb dX0_changePlaces_48 ?_
        refine nv_iald hx hb hK hP 3 0 rfl rfl (v := nI (col2 i (swp M o1 o2) M o2 i)) (ix_lt h2 (by omega)) (bd3 hm hn) (hinv o2 h2 i (by omega)) dX0_changePlaces_49 ?_
        refine nv_iast hx hb hK hP hD hS 3 0 rfl rfl (ix_lt h1 (by omega)) (bd3 hm hn) dX0_changePlaces_50 (fun H locs hP hD hS => ?_)
        have hP : va_P D vwCl (pbW h a1 a2 a3 a4 cA pr mR nC fA fB (upd f ((o1 * (nC + mR)) + i) (nI (col2 i (swp M o1 o2) M o2 i))) fP rd pv pp) H := hP
        have hD : va_D A (pbW h a1 a2 a3 a4 cA pr mR nC fA fB (upd f ((o1 * (nC + mR)) + i) (nI (col2 i (swp M o1 o2) M o2 i))) fP rd pv pp) := hD
        refine lv_aload_n hx hb dX0_changePlaces_51 rfl (lv_at hl 1 rfl) ?_
        refine x0_get S hin hK hP rfl 5 (by decide) rfl (by decide +kernel) (v := .ref a3) rfl dX0_changePlaces_52 ?_
        refine lv_iload_n hx hb dX0_changePlaces_55 rfl (lv_at hl 3 rfl) ?_
        refine lv_aload_n hx hb dX0_changePlaces_56 rfl (lv_at hl 1 rfl) ?_
        refine x0_get S hin hK hP rfl 6 (by decide) rfl (by decide +kernel) (v := .int (nI (nC + mR))) rfl dX0_changePlaces_57 ?_
        refine nv_imul hx hb dX0_changePlaces_60 ?_
        refine lv_iload_n hx hb dX0_changePlaces_61 rfl (lv_at hl 4 rfl) ?_
        refine nv_iadd hx hb dX0_changePlaces_62 ?_
        refine lv_iload hx hb dX0_changePlaces_63 (lv_at hl 0 rfl) ?_
        refine nv_iast hx hb hK hP hD hS 3 0 rfl rfl (ix_lt h2 (by omega)) (bd3 hm hn) dX0_changePlaces_65 (fun H locs hP hD hS => ?_)
        have hP : va_P D vwCl (pbW h a1 a2 a3 a4 cA pr mR nC fA fB (upd (upd f ((o1 * (nC + mR)) + i) (nI (col2 i (swp M o1 o2) M o2 i))) ((o2 * (nC + mR)) + i) (nI (col2 i (swp M o1 o2) M o1 i))) fP rd pv pp) H := hP
        have hD : va_D A (pbW h a1 a2 a3 a4 cA pr mR nC fA fB (upd (upd f ((o1 * (nC + mR)) + i) (nI (col2 i (swp M o1 o2) M o2 i))) ((o2 * (nC + mR)) + i) (nI (col2 i (swp M o1 o2) M o1 i))) fP rd pv pp) := hD
        refine lv_iinc (v := nI (i + 1)) (lv' := [(3, .int (nI (i + 1))), (4, .int (nI (col2 i (swp M o1 o2) M o1 i))), (0, .ref h), (1, .int (nI o1)), (2, .int (nI o2))]) hx hb dX0_changePlaces_66 hl (k := 4) rfl (nv_inc i 1) (by decide) rfl (fun ls hl => ?_)
        refine lv_goto (tgt := 2) hx hb dX0_changePlaces_69 (by decide) ?_
        exact ihL (upd (upd f ((o1 * (nC + mR)) + i) (nI (col2 i (swp M o1 o2) M o2 i))) ((o2 * (nC + mR)) + i) (nI (col2 i (swp M o1 o2) M o1 i))) (i + 1) (by omega) (st_swp c_1 hinv) (by omega) ls _ _ (lv_sub hl [2, 3, 4, 0] rfl) hP hD hS
  exact L (nC + mR + 1) fW 0 (by omega) hM.col0 (by omega) ls _ _ (lv_sub hl [1, 2, 3, 0] rfl) hP hD hS
set_option maxHeartbeats 4000000 in
set_option maxRecDepth 100000 in
theorem c_X0_multiplyRow (l : Launch) (D : va_G) {h a1 a2 a3 a4 : Nat} {cA : ClassId} {mR nC : Nat} {fA fB fW fP : Nat → Int32} {rd pv pp : Nat} {P : Nat} {M : Mat} (ro fc : Nat) (hP2 : 2 ≤ P) (hPl : P < 2 ^ 31) (hm : mR ≤ 10) (hn : nC ≤ 10) (h1 : ro < mR) (h2 : fc < P) (hB : bnd P M) (hM : Rp (nC + mR) mR fW M) : WrV (U := Nat → Int32) l yX0_multiplyRow wsX0_multiplyRow ({ frames := 0, cells := 0, slots := 0, locals := 0 }) [.ref h, .int (nI ro), .long (lN fc)] D (pbW h a1 a2 a3 a4 cA (nI P) mR nC fA fB fW fP rd pv pp) [(cA, .int)] (fun u => Rp (nC + mR) mR u (scl P M ro fc)) (fun u => pbW h a1 a2 a3 a4 cA (nI P) mR nC fA fB u fP rd pv pp) := by
  refine WrV.mk (cc := cX0_multiplyRow) (maxL := 6) (by decide) rfl (Nat.le_of_ble_eq_true rfl) ?_
  intro p e s mm args below meth c Q ls A S hK hP hD hA hS hl hret
  have hx := S.1
  have hb := S.2.1
  have hts := S.2.2.2.2
  have hown := S.2.2.2.1
  have hin : ∀ w ∈ wsX00, w ∈ wsX0_multiplyRow := fun w h => List.mem_cons_of_mem _ (List.mem_append_right _ h)
  have hl : lv_has ls 6 [(0, .ref h), (1, .int (nI ro)), (2, .long (lN fc))] := hl
  refine lv_iconst (v := nI 0) hx hb dX0_multiplyRow_0 (by decide +kernel) ?_
  refine lv_istore (lv' := [(4, .int (nI 0)), (0, .ref h), (1, .int (nI ro)), (2, .long (lN fc))]) hx hb dX0_multiplyRow_1 hl (by decide) rfl (fun ls hl => ?_)
  have L : ∀ (nL : Nat) (f : Nat → Int32) (i : Nat), (i ≤ nC + mR) → (Rp (nC + mR) mR f (col2 i (scl P M ro fc) M)) → (nC + mR + 1 ≤ i + nL) → ∀ (ls : Array Slot) (H : Heap) (locs : List Loc), lv_has ls 6 [(0, .ref h), (1, .int (nI ro)), (2, .long (lN fc)), (4, .int (nI i))] → va_P D vwCl (pbW h a1 a2 a3 a4 cA (nI P) mR nC fA fB f fP rd pv pp) H → va_D A (pbW h a1 a2 a3 a4 cA (nI P) mR nC fA fB f fP rd pv pp) → va_S A s.heap H locs → W p l e ({ frames := 0, cells := 0, slots := 0, locals := 0 }) s mm args below meth c H locs 0 0 Q (F0 mm 3 ls []) := by
    intro nL
    induction nL with
    | zero => intro f i hi hinv hfuel; exfalso; omega
    | succ nL ihL =>
      intro f i hi hinv hfuel ls H locs hl hP hD hS
      refine lv_iload hx hb dX0_multiplyRow_3 (lv_at hl 3 rfl) ?_
      refine lv_aload_n hx hb dX0_multiplyRow_5 rfl (lv_at hl 0 rfl) ?_
      refine x0_get S hin hK hP rfl 6 (by decide) rfl (by decide +kernel) (v := .int (nI (nC + mR))) rfl dX0_multiplyRow_6 ?_
      refine nv_icmp_ge (tgt := 53) hx hb dX0_multiplyRow_9 (by decide) (by omega) (by omega) (fun c_1 => ?_) (fun c_1 => ?_)
      · exact hret f 53 ls _ _ dX0_multiplyRow_53 hP hD hS (hinv.colw c_1)
      · have hbi : col2 i (scl P M ro fc) M ro i < P := bn_col2 (bn_scl (by omega) hB ro fc) hB i ro i
        refine lv_iload_n hx hb dX0_multiplyRow_12 rfl (lv_at hl 1 rfl) ?_
        refine lv_aload_n hx hb dX0_multiplyRow_13 rfl (lv_at hl 0 rfl) ?_
        refine x0_get S hin hK hP rfl 6 (by decide) rfl (by decide +kernel) (v := .int (nI (nC + mR))) rfl dX0_multiplyRow_14 ?_
        refine nv_imul hx hb dX0_multiplyRow_17 ?_
        refine lv_iload hx hb dX0_multiplyRow_18 (lv_at hl 3 rfl) ?_
        refine nv_iadd hx hb dX0_multiplyRow_20 ?_
        refine lv_istore (lv' := [(5, .int (nI ((ro * (nC + mR)) + i))), (0, .ref h), (1, .int (nI ro)), (2, .long (lN fc)), (4, .int (nI i))]) hx hb dX0_multiplyRow_21 hl (by decide) rfl (fun ls hl => ?_)
        refine lv_aload_n hx hb dX0_multiplyRow_23 rfl (lv_at hl 1 rfl) ?_
        refine x0_get S hin hK hP rfl 5 (by decide) rfl (by decide +kernel) (v := .ref a3) rfl dX0_multiplyRow_24 ?_
        refine lv_iload hx hb dX0_multiplyRow_27 (lv_at hl 0 rfl) ?_
        refine lv_aload_n hx hb dX0_multiplyRow_29 rfl (lv_at hl 1 rfl) ?_
        refine x0_get S hin hK hP rfl 5 (by decide) rfl (by decide +kernel) (v := .ref a3) rfl dX0_multiplyRow_30 ?_
        refine lv_iload hx hb dX0_multiplyRow_33 (lv_at hl 0 rfl) ?_
        refine nv_iald hx hb hK hP 3 0 rfl rfl (v := nI (col2 i (scl P M ro fc) M ro i)) (ix_lt h1 (by omega)) (bd3 hm hn) (hinv ro h1 i (by omega)) dX0_multiplyRow_35 ?_
        refine nv_i2l hx hb (by omega) dX0_multiplyRow_36 ?_
        refine lv_lload_n hx hb dX0_multiplyRow_37 rfl (lv_at hl 3 rfl) ?_
        refine nv_lmul hx hb dX0_multiplyRow_38 ?_
        refine lv_aload_n hx hb dX0_multiplyRow_39 rfl (lv_at hl 1 rfl) ?_
        refine x0_get S hin hK hP rfl 0 (by decide) rfl (by decide +kernel) (v := .int (nI P)) rfl dX0_multiplyRow_40 ?_
        refine nv_i2l hx hb (by omega) dX0_multiplyRow_43 ?_
        refine nv_lrem hx hb (mul_b (by omega) (by omega)) (by omega) (by omega) dX0_multiplyRow_44 ?_
        refine nv_l2i hx hb dX0_multiplyRow_45 ?_
        refine nv_iast hx hb hK hP hD hS 3 0 rfl rfl (ix_lt h1 (by omega)) (bd3 hm hn) dX0_multiplyRow_46 (fun H locs hP hD hS => ?_)
        have hP : va_P D vwCl (pbW h a1 a2 a3 a4 cA (nI P) mR nC fA fB (upd f ((ro * (nC + mR)) + i) (nI (((col2 i (scl P M ro fc) M ro i) * fc) % P))) fP rd pv pp) H := hP
        have hD : va_D A (pbW h a1 a2 a3 a4 cA (nI P) mR nC fA fB (upd f ((ro * (nC + mR)) + i) (nI (((col2 i (scl P M ro fc) M ro i) * fc) % P))) fP rd pv pp) := hD
        refine lv_iinc (v := nI (i + 1)) (lv' := [(4, .int (nI (i + 1))), (5, .int (nI ((ro * (nC + mR)) + i))), (0, .ref h), (1, .int (nI ro)), (2, .long (lN fc))]) hx hb dX0_multiplyRow_47 hl (k := 4) rfl (nv_inc i 1) (by decide) rfl (fun ls hl => ?_)
        refine lv_goto (tgt := 3) hx hb dX0_multiplyRow_50 (by decide) ?_
        exact ihL (upd f ((ro * (nC + mR)) + i) (nI (((col2 i (scl P M ro fc) M ro i) * fc) % P))) (i + 1) (by omega) (st_scl c_1 hinv) (by omega) ls _ _ (lv_sub hl [2, 3, 4, 0] rfl) hP hD hS
  exact L (nC + mR + 1) fW 0 (by omega) hM.col0 (by omega) ls _ _ (lv_sub hl [1, 2, 3, 0] rfl) hP hD hS
set_option maxHeartbeats 4000000 in
set_option maxRecDepth 100000 in
theorem c_X0_takeRow (l : Launch) (D : va_G) {h a1 a2 a3 a4 : Nat} {cA : ClassId} {mR nC : Nat} {fA fB fW fP : Nat → Int32} {rd pv pp : Nat} {P : Nat} {M : Mat} (tk tm fr : Nat) (hP2 : 2 ≤ P) (hPl : P < 2 ^ 31) (hm : mR ≤ 10) (hn : nC ≤ 10) (h1 : tk < mR) (h2 : tm < P) (h3 : fr < mR) (hB : bnd P M) (hM : Rp (nC + mR) mR fW M) : WrV (U := Nat → Int32) l yX0_takeRow wsX0_takeRow ({ frames := 1, cells := 0, slots := 0, locals := 22 }) [.ref h, .int (nI tk), .int (nI tm), .int (nI fr)] D (pbW h a1 a2 a3 a4 cA (nI P) mR nC fA fB fW fP rd pv pp) [(cA, .int)] (fun u => Rp (nC + mR) mR u (tkr P M tk fr (ng P tm))) (fun u => pbW h a1 a2 a3 a4 cA (nI P) mR nC fA fB u fP rd pv pp) := by
  refine WrV.mk (cc := cX0_takeRow) (maxL := 8) (by decide) rfl (Nat.le_of_ble_eq_true rfl) ?_
  intro p e s mm args below meth c Q ls A S hK hP hD hA hS hl hret
  have hx := S.1
  have hb := S.2.1
  have hts := S.2.2.2.2
  have hown := S.2.2.2.1
  have hin : ∀ w ∈ wsX00, w ∈ wsX0_takeRow := fun w h => List.mem_cons_of_mem _ (List.mem_append_right _ h)
  have hl : lv_has ls 8 [(0, .ref h), (1, .int (nI tk)), (2, .int (nI tm)), (3, .int (nI fr))] := hl
  refine lv_aload_n hx hb dX0_takeRow_0 rfl (lv_at hl 0 rfl) ?_
  refine lv_iload_n hx hb dX0_takeRow_1 rfl (lv_at hl 2 rfl) ?_
  refine nv_i2l hx hb (by omega) dX0_takeRow_2 ?_
  refine rdv_l S (c_X0_negative l D tm hPl h2) (cwV 1 hts gX0_takeRow_X0_negative rfl rfl rfl (by decide +kernel) ⟨Nat.le_of_ble_eq_true rfl, Nat.le_of_ble_eq_true rfl⟩) rfl hK hP (ci := 0) rfl rfl hl.1 (rest := []) rfl (Nat.le_of_ble_eq_true rfl) dX0_takeRow_3 ⟨Nat.zero_le _, Nat.zero_le _⟩ hP hS hA (fun r_1 H locs er_1 hP hS => ?_)
  subst er_1
  refine lv_lstore (lv' := [(4, .long (lN (ng P tm))), (0, .ref h), (1, .int (nI tk)), (2, .int (nI tm)), (3, .int (nI fr))]) hx hb dX0_takeRow_6 hl (by decide) rfl (fun ls hl => ?_)
  refine lv_iconst (v := nI 0) hx hb dX0_takeRow_8 (by decide +kernel) ?_
  refine lv_istore (lv' := [(6, .int (nI 0)), (4, .long (lN (ng P tm))), (0, .ref h), (1, .int (nI tk)), (2, .int (nI tm)), (3, .int (nI fr))]) hx hb dX0_takeRow_9 hl (by decide) rfl (fun ls hl => ?_)
  have L : ∀ (nL : Nat) (f : Nat → Int32) (i : Nat), (i ≤ nC + mR) → (Rp (nC + mR) mR f (col2 i (tkr P M tk fr (ng P tm)) M)) → (nC + mR + 1 ≤ i + nL) → ∀ (ls : Array Slot) (H : Heap) (locs : List Loc), lv_has ls 8 [(0, .ref h), (1, .int (nI tk)), (2, .int (nI tm)), (3, .int (nI fr)), (4, .long (lN (ng P tm))), (6, .int (nI i))] → va_P D vwCl (pbW h a1 a2 a3 a4 cA (nI P) mR nC fA fB f fP rd pv pp) H → va_D A (pbW h a1 a2 a3 a4 cA (nI P) mR nC fA fB f fP rd pv pp) → va_S A s.heap H locs → W p l e ({ frames := 1, cells := 0, slots := 0, locals := 22 }) s mm args below meth c H locs 0 0 Q (F0 mm 11 ls []) := by
    intro nL
    induction nL with
    | zero => intro f i hi hinv hfuel; exfalso; omega
    | succ nL ihL =>
      intro f i hi hinv hfuel ls H locs hl hP hD hS
      refine lv_iload hx hb dX0_takeRow_11 (lv_at hl 5 rfl) ?_
      refine lv_aload_n hx hb dX0_takeRow_13 rfl (lv_at hl 0 rfl) ?_
      refine x0_get S hin hK hP rfl 6 (by decide) rfl (by decide +kernel) (v := .int (nI (nC + mR))) rfl dX0_takeRow_14 ?_
      refine nv_icmp_ge (tgt := 78) hx hb dX0_takeRow_17 (by decide) (by omega) (by omega) (fun c_2 => ?_) (fun c_2 => ?_)
      · exact hret f 78 ls _ _ dX0_takeRow_78 hP hD hS (hinv.colw c_2)
      · have hbi : ∀ a b, col2 i (tkr P M tk fr (ng P tm)) M a b < P := bn_col2 (bn_tkr (by omega) hB tk fr (ng P tm)) hB i
        have hb1 := hbi fr i
        have hb2 := hbi tk i
        have hb3 : ng P tm < P := ng_lt (by omega)
        refine lv_iload_n hx hb dX0_takeRow_20 rfl (lv_at hl 3 rfl) ?_
        refine lv_aload_n hx hb dX0_takeRow_21 rfl (lv_at hl 0 rfl) ?_
        refine x0_get S hin hK hP rfl 6 (by decide) rfl (by decide +kernel) (v := .int (nI (nC + mR))) rfl dX0_takeRow_22 ?_
        refine nv_imul hx hb dX0_takeRow_25 ?_
        refine lv_iload hx hb dX0_takeRow_26 (lv_at hl 5 rfl) ?_
        refine nv_iadd hx hb dX0_takeRow_28 ?_
        refine lv_istore (lv' := [(7, .int (nI ((fr * (nC + mR)) + i))), (0, .ref h), (1, .int (nI tk)), (2, .int (nI tm)), (3, .int (nI fr)), (4, .long (lN (ng P tm))), (6, .int (nI i))]) hx hb dX0_takeRow_29 hl (by decide) rfl (fun ls hl => ?_)
        refine lv_aload_n hx hb dX0_takeRow_31 rfl (lv_at hl 1 rfl) ?_
        refine x0_get S hin hK hP rfl 5 (by decide) rfl (by decide +kernel) (v := .ref a3) rfl dX0_takeRow_32 ?_
        refine lv_iload hx hb dX0_takeRow_35 (lv_at hl 0 rfl) ?_
        refine lv_aload_n hx hb dX0_takeRow_37 rfl (lv_at hl 1 rfl) ?_
        refine x0_get S hin hK hP rfl 5 (by decide) rfl (by decide +kernel) (v := .ref a3) rfl dX0_takeRow_38 ?_
        refine lv_iload hx hb dX0_takeRow_41 (lv_at hl 0 rfl) ?_
        refine nv_iald hx hb hK hP 3 0 rfl rfl (v := nI (col2 i (tkr P M tk fr (ng P tm)) M fr i)) (ix_lt h3 (by omega)) (bd3 hm hn) (hinv fr h3 i (by omega)) dX0_takeRow_43 ?_
        refine nv_i2l hx hb (by omega) dX0_takeRow_44 ?_
        refine lv_lload hx hb dX0_takeRow_45 (lv_at hl 5 rfl) ?_
        refine lv_aload_n hx hb dX0_takeRow_47 rfl (lv_at hl 1 rfl) ?_
        refine x0_get S hin hK hP rfl 5 (by decide) rfl (by decide +kernel) (v := .ref a3) rfl dX0_takeRow_48 ?_
        refine lv_iload_n hx hb dX0_takeRow_51 rfl (lv_at hl 2 rfl) ?_
        refine lv_aload_n hx hb dX0_takeRow_52 rfl (lv_at hl 1 rfl) ?_
        refine x0_get S hin hK hP rfl 6 (by decide) rfl (by decide +kernel) (v := .int (nI (nC + mR))) rfl dX0_takeRow_53 ?_
        refine nv_imul hx hb dX0_takeRow_56 ?_
        refine lv_iload hx hb dX0_takeRow_57 (lv_at hl 6 rfl) ?_
        refine nv_iadd hx hb dX0_takeRow_59 ?_
        refine nv_iald hx hb hK hP 3 0 rfl rfl (v := nI (col2 i (tkr P M tk fr (ng P tm)) M tk i)) (ix_lt h1 (by omega)) (bd3 hm hn) (hinv tk h1 i (by omega)) dX0_takeRow_60 ?_
        refine nv_i2l hx hb (by omega) dX0_takeRow_61 ?_
        refine nv_lmul hx hb dX0_takeRow_62 ?_
        refine nv_ladd hx hb dX0_takeRow_63 ?_
        refine lv_aload_n hx hb dX0_takeRow_64 rfl (lv_at hl 1 rfl) ?_
        refine x0_get S hin hK hP rfl 0 (by decide) rfl (by decide +kernel) (v := .int (nI P)) rfl dX0_takeRow_65 ?_
        refine nv_i2l hx hb (by omega) dX0_takeRow_68 ?_
        refine nv_lrem hx hb (mul_b2 (by omega) (by omega) (by omega)) (by omega) (by omega) dX0_takeRow_69 ?_
        refine nv_l2i hx hb dX0_takeRow_70 ?_
        refine nv_iast hx hb hK hP hD hS 3 0 rfl rfl (ix_lt h3 (by omega)) (bd3 hm hn) dX0_takeRow_71 (fun H locs hP hD hS => ?_)
        have hP : va_P D vwCl (pbW h a1 a2 a3 a4 cA (nI P) mR nC fA fB (upd f ((fr * (nC + mR)) + i) (nI (((col2 i (tkr P M tk fr (ng P tm)) M fr i) + ((ng P tm) * (col2 i (tkr P M tk fr (ng P tm)) M tk i))) % P))) fP rd pv pp) H := hP
        have hD : va_D A (pbW h a1 a2 a3 a4 cA (nI P) mR nC fA fB (upd f ((fr * (nC + mR)) + i) (nI (((col2 i (tkr P M tk fr (ng P tm)) M fr i) + ((ng P tm) * (col2 i (tkr P M tk fr (ng P tm)) M tk i))) % P))) fP rd pv pp) := hD
        refine lv_iinc (v := nI (i + 1)) (lv' := [(6, .int (nI (i + 1))), (7, .int (nI ((fr * (nC + mR)) + i))), (0, .ref h), (1, .int (nI tk)), (2, .int (nI tm)), (3, .int (nI fr)), (4, .long (lN (ng P tm)))]) hx hb dX0_takeRow_72 hl (k := 6) rfl (nv_inc i 1) (by decide) rfl (fun ls hl => ?_)
        refine lv_goto (tgt := 11) hx hb dX0_takeRow_75 (by decide) ?_
        exact ihL (upd f ((fr * (nC + mR)) + i) (nI (((col2 i (tkr P M tk fr (ng P tm)) M fr i) + ((ng P tm) * (col2 i (tkr P M tk fr (ng P tm)) M tk i))) % P))) (i + 1) (by omega) (st_tkr c_2 hinv) (by omega) ls _ _ (lv_sub hl [2, 3, 4, 5, 6, 0] rfl) hP hD hS
  exact L (nC + mR + 1) fW 0 (by omega) hM.col0 (by omega) ls _ _ (lv_sub hl [2, 3, 4, 5, 1, 0] rfl) hP hD hS
set_option maxHeartbeats 4000000 in
set_option maxRecDepth 100000 in
theorem c_X0_changedRightSide (l : Launch) (D : va_G) {h a1 a2 a3 a4 : Nat} {cA : ClassId} {mR nC : Nat} {fA fB fW fP : Nat → Int32} {rd pv pp : Nat} {P : Nat} {M : Mat} {b : Nat → Nat} (ro : Nat) (hP2 : 2 ≤ P) (hPl : P < 2 ^ 31) (hm : mR ≤ 10) (hn : nC ≤ 10) (h1 : ro < mR) (hB : bnd P M) (hM : Rp (nC + mR) mR fW M) (hbb : ∀ i, b i < P) (hb1 : ∀ i, i < mR → fB i = nI (b i)) : RdI l yX0_changedRightSide wsX0_changedRightSide ({ frames := 1, cells := 0, slots := 0, locals := 22 }) [.ref h, .int (nI ro)] D (pbW h a1 a2 a3 a4 cA (nI P) mR nC fA fB fW fP rd pv pp) [(cA, .int)] (fun r => r = nI (chg P (fun k => M ro (nC + k)) b mR)) := by
  refine RdI.mk (cc := cX0_changedRightSide) (maxL := 5) (rt := .int) (by decide) rfl (Nat.le_of_ble_eq_true rfl) ?_
  intro p e s mm args below meth c Q ls A S hK hP hA hS hl hret
  have hx := S.1
  have hb := S.2.1
  have hts := S.2.2.2.2
  have hown := S.2.2.2.1
  have hin : ∀ w ∈ wsX00, w ∈ wsX0_changedRightSide := fun w h => List.mem_cons_of_mem _ (List.mem_append_right _ h)
  have hl : lv_has ls 5 [(0, .ref h), (1, .int (nI ro))] := hl
  refine lv_lconst (v := lN 0) hx hb dX0_changedRightSide_0 rfl ?_
  refine lv_lstore_n (lv' := [(2, .long (lN 0)), (0, .ref h), (1, .int (nI ro))]) hx hb dX0_changedRightSide_1 rfl hl (by decide) rfl (fun ls hl => ?_)
  refine lv_iconst (v := nI 0) hx hb dX0_changedRightSide_2 (by decide +kernel) ?_
  refine lv_istore (lv' := [(4, .int (nI 0)), (2, .long (lN 0)), (0, .ref h), (1, .int (nI ro))]) hx hb dX0_changedRightSide_3 hl (by decide) rfl (fun ls hl => ?_)
  have L : ∀ (nL : Nat) (i : Nat), (i ≤ mR) → (mR + 1 ≤ i + nL) → ∀ (ls : Array Slot) (H : Heap) (locs : List Loc), lv_has ls 5 [(0, .ref h), (1, .int (nI ro)), (2, .long (lN (chg P (fun k => M ro (nC + k)) b i))), (4, .int (nI i))] → va_P D vwCl (pbW h a1 a2 a3 a4 cA (nI P) mR nC fA fB fW fP rd pv pp) H → va_S A s.heap H locs → W p l e ({ frames := 1, cells := 0, slots := 0, locals := 22 }) s mm args below meth c H locs 0 0 Q (F0 mm 5 ls []) := by
    intro nL
    induction nL with
    | zero => intro i hi hfuel; exfalso; omega
    | succ nL ihL =>
      intro i hi hfuel ls H locs hl hP hS
      refine lv_iload hx hb dX0_changedRightSide_5 (lv_at hl 3 rfl) ?_
      refine lv_aload_n hx hb dX0_changedRightSide_7 rfl (lv_at hl 0 rfl) ?_
      refine x0_get S hin hK hP rfl 1 (by decide) rfl (by decide +kernel) (v := .int (nI mR)) rfl dX0_changedRightSide_8 ?_
      refine nv_icmp_ge (tgt := 46) hx hb dX0_changedRightSide_11 (by decide) (by omega) (by omega) (fun c_1 => ?_) (fun c_1 => ?_)
      · refine lv_lload_n hx hb dX0_changedRightSide_46 rfl (lv_at hl 2 rfl) ?_
        refine nv_l2i hx hb dX0_changedRightSide_47 ?_
        exact hret (nI (chg P (fun k => M ro (nC + k)) b i)) 48 ls _ _ dX0_changedRightSide_48 (rfl) hS (by rw [show i = mR by omega])
      · refine lv_lload_n hx hb dX0_changedRightSide_14 rfl (lv_at hl 2 rfl) ?_
        refine lv_aload_n hx hb dX0_changedRightSide_15 rfl (lv_at hl 0 rfl) ?_
        refine lv_iload_n hx hb dX0_changedRightSide_16 rfl (lv_at hl 1 rfl) ?_
        refine lv_iload hx hb dX0_changedRightSide_17 (lv_at hl 3 rfl) ?_
        refine rdv_i S (c_X0_transformNumber l D (M := M) ro i hm hn h1 c_1 hM) (cwV 2 hts gX0_changedRightSide_X0_transformNumber rfl rfl rfl (by decide +kernel) ⟨Nat.le_of_ble_eq_true rfl, Nat.le_of_ble_eq_true rfl⟩) rfl hK hP (ci := 0) rfl rfl hl.1 (rest := [.long (lN (chg P (fun k => M ro (nC + k)) b i))]) rfl (Nat.le_of_ble_eq_true rfl) dX0_changedRightSide_19 ⟨Nat.zero_le _, Nat.zero_le _⟩ hP hS hA (fun r_2 H locs er_2 hP hS => ?_)
        subst er_2
        have hb2 := hB ro (nC + i)
        have hb3 := hbb i
        have hb4 := chg_lt (show 0 < P by omega) (fun k => M ro (nC + k)) b i
        refine nv_i2l hx hb (by omega) dX0_changedRightSide_22 ?_
        refine lv_aload_n hx hb dX0_changedRightSide_23 rfl (lv_at hl 0 rfl) ?_
        refine x0_get S hin hK hP rfl 4 (by decide) rfl (by decide +kernel) (v := .ref a2) rfl dX0_changedRightSide_24 ?_
        refine lv_iload hx hb dX0_changedRightSide_27 (lv_at hl 3 rfl) ?_
        refine nv_iald hx hb hK hP 2 0 rfl rfl (v := nI (b i)) (by omega) (by omega) (hb1 i (by omega)) dX0_changedRightSide_29 ?_
        refine nv_i2l hx hb (by omega) dX0_changedRightSide_30 ?_
        refine nv_lmul hx hb dX0_changedRightSide_31 ?_
        refine nv_ladd hx hb dX0_changedRightSide_32 ?_
        refine lv_aload_n hx hb dX0_changedRightSide_33 rfl (lv_at hl 0 rfl) ?_
        refine x0_get S hin hK hP rfl 0 (by decide) rfl (by decide +kernel) (v := .int (nI P)) rfl dX0_changedRightSide_34 ?_
        refine nv_i2l hx hb (by omega) dX0_changedRightSide_37 ?_
        refine nv_lrem hx hb (mul_b2 (by omega) (by omega) (by omega)) (by omega) (by omega) dX0_changedRightSide_38 ?_
        refine lv_lstore_n (lv' := [(2, .long (lN (((chg P (fun k => M ro (nC + k)) b i) + ((M ro (nC + i)) * (b i))) % P))), (0, .ref h), (1, .int (nI ro)), (4, .int (nI i))]) hx hb dX0_changedRightSide_39 rfl hl (by decide) rfl (fun ls hl => ?_)
        refine lv_iinc (v := nI (i + 1)) (lv' := [(4, .int (nI (i + 1))), (2, .long (lN (((chg P (fun k => M ro (nC + k)) b i) + ((M ro (nC + i)) * (b i))) % P))), (0, .ref h), (1, .int (nI ro))]) hx hb dX0_changedRightSide_40 hl (k := 3) rfl (nv_inc i 1) (by decide) rfl (fun ls hl => ?_)
        refine lv_goto (tgt := 5) hx hb dX0_changedRightSide_43 (by decide) ?_
        exact ihL (i + 1) (by omega) (by omega) ls _ _ (lv_sub hl [2, 3, 1, 0] rfl) hP hS
  exact L (mR + 1) 0 (by omega) (by omega) ls _ _ (lv_sub hl [2, 3, 1, 0] rfl) hP hS
end
section
set_option maxHeartbeats 4000000 in
set_option maxRecDepth 100000 in
theorem c_X0_freeColumn (l : Launch) (D : va_G) {h a1 a2 a3 a4 : Nat} {cA : ClassId} {mR nC : Nat} {fA fB fW fP : Nat → Int32} {rd pv pp : Nat} {pr : Int32} {po : Nat → Option Nat} (k : Int32) (hm : mR ≤ 10) (hn : nC ≤ 10) (hpo : ∀ j i, po j = some i → i < mR) (hfP : ∀ j, j < nC → fP j = opt (po j)) : RdI l yX0_freeColumn wsX0_freeColumn ({ frames := 0, cells := 0, slots := 0, locals := 0 }) [.ref h, .int k] D (pbW h a1 a2 a3 a4 cA pr mR nC fA fB fW fP rd pv pp) [(cA, .int)] (fun r => r = opt (kth po k nC 0)) := by
  refine RdI.mk (cc := cX0_freeColumn) (maxL := 4) (rt := .int) (by decide) rfl (Nat.le_of_ble_eq_true rfl) ?_
  intro p e s mm args below meth c Q ls A S hK hP hA hS hl hret
  have hx := S.1
  have hb := S.2.1
  have hts := S.2.2.2.2
  have hown := S.2.2.2.1
  have hin : ∀ w ∈ wsX00, w ∈ wsX0_freeColumn := fun w h => List.mem_cons_of_mem _ (List.mem_append_right _ h)
  have hl : lv_has ls 4 [(0, .ref h), (1, .int k)] := hl
  refine lv_iconst (v := nI 0) hx hb dX0_freeColumn_0 (by decide +kernel) ?_
  refine lv_istore_n (lv' := [(2, .int (nI 0)), (0, .ref h), (1, .int k)]) hx hb dX0_freeColumn_1 rfl hl (by decide) rfl (fun ls hl => ?_)
  refine lv_iconst (v := nI 0) hx hb dX0_freeColumn_2 (by decide +kernel) ?_
  refine lv_istore_n (lv' := [(3, .int (nI 0)), (2, .int (nI 0)), (0, .ref h), (1, .int k)]) hx hb dX0_freeColumn_3 rfl hl (by decide) rfl (fun ls hl => ?_)
  have L : ∀ (nL : Nat) (s1 : Nat) (i : Nat), (i ≤ nC) → (s1 = cnt po i) → (kth po k (nC - i) i = kth po k nC 0) → (nC + 1 ≤ i + nL) → ∀ (ls : Array Slot) (H : Heap) (locs : List Loc), lv_has ls 4 [(0, .ref h), (1, .int k), (2, .int (nI s1)), (3, .int (nI i))] → va_P D vwCl (pbW h a1 a2 a3 a4 cA pr mR nC fA fB fW fP rd pv pp) H → va_S A s.heap H locs → W p l e ({ frames := 0, cells := 0, slots := 0, locals := 0 }) s mm args below meth c H locs 0 0 Q (F0 mm 4 ls []) := by
    intro nL
    induction nL with
    | zero => intro s1 i hi hs hinv hfuel; exfalso; omega
    | succ nL ihL =>
      intro s1 i hi hs hinv hfuel ls H locs hl hP hS
      refine lv_iload_n hx hb dX0_freeColumn_4 rfl (lv_at hl 3 rfl) ?_
      refine lv_aload_n hx hb dX0_freeColumn_5 rfl (lv_at hl 0 rfl) ?_
      refine x0_get S hin hK hP rfl 2 (by decide) rfl (by decide +kernel) (v := .int (nI nC)) rfl dX0_freeColumn_6 ?_
      refine nv_icmp_ge (tgt := 38) hx hb dX0_freeColumn_9 (by decide) (by omega) (by omega) (fun c_1 => ?_) (fun c_1 => ?_)
      · refine lv_iconst (v := (-1)) hx hb dX0_freeColumn_38 (by decide +kernel) ?_
        exact hret ((-1)) 39 ls _ _ dX0_freeColumn_39 (rfl) hS (by
            rw [← hinv, kth_e c_1]
            rfl)
      · refine lv_aload_n hx hb dX0_freeColumn_12 rfl (lv_at hl 0 rfl) ?_
        refine x0_get S hin hK hP rfl 7 (by decide) rfl (by decide +kernel) (v := .ref a4) rfl dX0_freeColumn_13 ?_
        refine lv_iload_n hx hb dX0_freeColumn_16 rfl (lv_at hl 3 rfl) ?_
        refine nv_iald hx hb hK hP 4 0 rfl rfl (v := opt (po i)) (by omega) (by omega) (hfP i (by omega)) dX0_freeColumn_17 ?_
        refine lv_iconst (v := (-1)) hx hb dX0_freeColumn_18 (by decide +kernel) ?_
        refine lv_icmp_ne (tgt := 32) hx hb dX0_freeColumn_19 (by decide) (fun c_2 => ?_) (fun c_2 => ?_)
        · have n_3 : ¬ po i = none := fun q => c_2 (by rw [q]; rfl)
          refine lv_iinc (v := nI (i + 1)) (lv' := [(3, .int (nI (i + 1))), (0, .ref h), (1, .int k), (2, .int (nI s1))]) hx hb dX0_freeColumn_32 hl (k := 3) rfl (nv_inc i 1) (by decide) rfl (fun ls hl => ?_)
          refine lv_goto (tgt := 4) hx hb dX0_freeColumn_35 (by decide) ?_
          exact ihL s1 (i + 1) (by omega) (by rw [hs]; simp [cnt, n_3]) (by rw [← hinv, kth_n c_1 (fun q => n_3 q.1)]) (by omega) ls _ _ (lv_sub hl [1, 2, 3, 0] rfl) hP hS
        · have n_4 : po i = none := (opt_m1 (fun a q => by have := hpo i a q; omega)).mp c_2
          subst hs
          refine lv_iload_n hx hb dX0_freeColumn_22 rfl (lv_at hl 2 rfl) ?_
          refine lv_iload_n hx hb dX0_freeColumn_23 rfl (lv_at hl 1 rfl) ?_
          refine lv_icmp_ne (tgt := 29) hx hb dX0_freeColumn_24 (by decide) (fun c_5 => ?_) (fun c_5 => ?_)
          · refine lv_iinc (v := nI (cnt po i + 1)) (lv' := [(2, .int (nI (cnt po i + 1))), (0, .ref h), (1, .int k), (3, .int (nI i))]) hx hb dX0_freeColumn_29 hl (k := 2) rfl (nv_inc (cnt po i) 1) (by decide) rfl (fun ls hl => ?_)
            refine lv_iinc (v := nI (i + 1)) (lv' := [(3, .int (nI (i + 1))), (2, .int (nI (cnt po i + 1))), (0, .ref h), (1, .int k)]) hx hb dX0_freeColumn_32 hl (k := 3) rfl (nv_inc i 1) (by decide) rfl (fun ls hl => ?_)
            refine lv_goto (tgt := 4) hx hb dX0_freeColumn_35 (by decide) ?_
            exact ihL (cnt po i + 1) (i + 1) (by omega) (by simp [cnt, n_4]) (by rw [← hinv, kth_n c_1 (fun q => c_5 q.2)]) (by omega) ls _ _ (lv_sub hl [2, 3, 1, 0] rfl) hP hS
          · refine lv_iload_n hx hb dX0_freeColumn_27 rfl (lv_at hl 3 rfl) ?_
            exact hret (nI i) 28 ls _ _ dX0_freeColumn_28 (rfl) hS (by
                rw [← hinv, kth_y c_1 n_4 c_5]
                rfl)
  exact L (nC + 1) 0 0 (by omega) rfl rfl (by omega) ls _ _ (lv_sub hl [2, 3, 1, 0] rfl) hP hS
set_option maxHeartbeats 4000000 in
set_option maxRecDepth 100000 in
theorem c_X0_startWork (l : Launch) (D : va_G) {h a1 a2 a3 a4 : Nat} {cA : ClassId} {mR nC : Nat} {fA fB fW fP : Nat → Int32} {rd pv pp : Nat} {pr : Int32} {A0 : Mat} (hm : mR ≤ 10) (hn : nC ≤ 10) (hA0 : Rp nC mR fA A0) : WrV (U := (Nat → Int32) × (Nat → Int32)) l yX0_startWork wsX0_startWork ({ frames := 0, cells := 0, slots := 0, locals := 0 }) [.ref h] D (pbW h a1 a2 a3 a4 cA pr mR nC fA fB fW fP rd pv pp) [(cA, .int)] (fun u => Rp (nC + mR) mR u.1 (lm nC (G0 nC A0)) ∧ ∀ j, j < nC → u.2 j = -1) (fun u => pbW h a1 a2 a3 a4 cA pr mR nC fA fB u.1 u.2 rd 0 1) := by
  refine WrV.mk (cc := cX0_startWork) (maxL := 3) (by decide) rfl (Nat.le_of_ble_eq_true rfl) ?_
  intro p e s mm args below meth c Q ls A S hK hP hD hA hS hl hret
  have hx := S.1
  have hb := S.2.1
  have hts := S.2.2.2.2
  have hown := S.2.2.2.1
  have hin : ∀ w ∈ wsX00, w ∈ wsX0_startWork := fun w h => List.mem_cons_of_mem _ (List.mem_append_right _ h)
  have hl : lv_has ls 3 [(0, .ref h)] := hl
  refine lv_iconst (v := nI 0) hx hb dX0_startWork_0 (by decide +kernel) ?_
  refine lv_istore_n (lv' := [(1, .int (nI 0)), (0, .ref h)]) hx hb dX0_startWork_1 rfl hl (by decide) rfl (fun ls hl => ?_)
  have L1 : ∀ (nL1 : Nat) (f : Nat → Int32) (i : Nat), (i ≤ mR) → (Rpp (nC + mR) i 0 f (lm nC (G0 nC A0))) → (mR + 1 ≤ i + nL1) → ∀ (ls : Array Slot) (H : Heap) (locs : List Loc), lv_has ls 3 [(0, .ref h), (1, .int (nI i))] → va_P D vwCl (pbW h a1 a2 a3 a4 cA pr mR nC fA fB f fP rd pv pp) H → va_D A (pbW h a1 a2 a3 a4 cA pr mR nC fA fB f fP rd pv pp) → va_S A s.heap H locs → W p l e ({ frames := 0, cells := 0, slots := 0, locals := 0 }) s mm args below meth c H locs 0 0 Q (F0 mm 2 ls []) := by
    intro nL1
    induction nL1 with
    | zero => intro f i hi hinv hfuel; exfalso; omega
    | succ nL1 ihL1 =>
      intro f i hi hinv hfuel ls H locs hl hP hD hS
      refine lv_iload_n hx hb dX0_startWork_2 rfl (lv_at hl 1 rfl) ?_
      refine lv_aload_n hx hb dX0_startWork_3 rfl (lv_at hl 0 rfl) ?_
      refine x0_get S hin hK hP rfl 1 (by decide) rfl (by decide +kernel) (v := .int (nI mR)) rfl dX0_startWork_4 ?_
      refine nv_icmp_ge (tgt := 102) hx hb dX0_startWork_7 (by decide) (by omega) (by omega) (fun c_1 => ?_) (fun c_1 => ?_)
      · have hall := hinv.all c_1
        refine lv_iconst (v := nI 0) hx hb dX0_startWork_102 (by decide +kernel) ?_
        refine lv_istore_n (lv' := [(1, .int (nI 0)), (0, .ref h)]) hx hb dX0_startWork_103 rfl hl (by decide) rfl (fun ls hl => ?_)
        have L3 : ∀ (nL3 : Nat) (g : Nat → Int32) (i : Nat), (i ≤ nC) → (∀ j, j < i → g j = -1) → (nC + 1 ≤ i + nL3) → ∀ (ls : Array Slot) (H : Heap) (locs : List Loc), lv_has ls 3 [(0, .ref h), (1, .int (nI i))] → va_P D vwCl (pbW h a1 a2 a3 a4 cA pr mR nC fA fB f g rd pv pp) H → va_D A (pbW h a1 a2 a3 a4 cA pr mR nC fA fB f g rd pv pp) → va_S A s.heap H locs → W p l e ({ frames := 0, cells := 0, slots := 0, locals := 0 }) s mm args below meth c H locs 0 0 Q (F0 mm 104 ls []) := by
          intro nL3
          induction nL3 with
          | zero => intro g i hi hinv hfuel; exfalso; omega
          | succ nL3 ihL3 =>
            intro g i hi hinv hfuel ls H locs hl hP hD hS
            refine lv_iload_n hx hb dX0_startWork_104 rfl (lv_at hl 1 rfl) ?_
            refine lv_aload_n hx hb dX0_startWork_105 rfl (lv_at hl 0 rfl) ?_
            refine x0_get S hin hK hP rfl 2 (by decide) rfl (by decide +kernel) (v := .int (nI nC)) rfl dX0_startWork_106 ?_
            refine nv_icmp_ge (tgt := 125) hx hb dX0_startWork_109 (by decide) (by omega) (by omega) (fun c_2 => ?_) (fun c_2 => ?_)
            · refine lv_aload_n hx hb dX0_startWork_125 rfl (lv_at hl 0 rfl) ?_
              refine lv_iconst (v := nI 0) hx hb dX0_startWork_126 (by decide +kernel) ?_
              refine x0_put S hin hK hP hD hS rfl 9 (by decide) rfl (by decide +kernel) rfl (ty := .int) (v := .int (nI 0)) rfl rfl rfl (Nat.le_of_ble_eq_true rfl) dX0_startWork_127 (fun H locs hP hD hS => ?_)
              have hP : va_P D vwCl (pbW h a1 a2 a3 a4 cA pr mR nC fA fB f g rd 0 pp) H := hP
              have hD : va_D A (pbW h a1 a2 a3 a4 cA pr mR nC fA fB f g rd 0 pp) := hD
              refine lv_aload_n hx hb dX0_startWork_130 rfl (lv_at hl 0 rfl) ?_
              refine lv_lconst (v := lN 1) hx hb dX0_startWork_131 rfl ?_
              refine x0_put S hin hK hP hD hS rfl 10 (by decide) rfl (by decide +kernel) rfl (ty := .long) (v := .long (lN 1)) rfl rfl rfl (Nat.le_of_ble_eq_true rfl) dX0_startWork_132 (fun H locs hP hD hS => ?_)
              have hP : va_P D vwCl (pbW h a1 a2 a3 a4 cA pr mR nC fA fB f g rd 0 1) H := hP
              have hD : va_D A (pbW h a1 a2 a3 a4 cA pr mR nC fA fB f g rd 0 1) := hD
              exact hret (f, g) 135 ls _ _ dX0_startWork_135 hP hD hS (⟨hall, fun j hj => hinv j (by omega)⟩)
            · refine lv_aload_n hx hb dX0_startWork_112 rfl (lv_at hl 0 rfl) ?_
              refine x0_get S hin hK hP rfl 7 (by decide) rfl (by decide +kernel) (v := .ref a4) rfl dX0_startWork_113 ?_
              refine lv_iload_n hx hb dX0_startWork_116 rfl (lv_at hl 1 rfl) ?_
              refine lv_iconst (v := (-1)) hx hb dX0_startWork_117 (by decide +kernel) ?_
              refine nv_iast hx hb hK hP hD hS 4 0 rfl rfl (by omega) (by omega) dX0_startWork_118 (fun H locs hP hD hS => ?_)
              have hP : va_P D vwCl (pbW h a1 a2 a3 a4 cA pr mR nC fA fB f (upd g i (-1)) rd pv pp) H := hP
              have hD : va_D A (pbW h a1 a2 a3 a4 cA pr mR nC fA fB f (upd g i (-1)) rd pv pp) := hD
              refine lv_iinc (v := nI (i + 1)) (lv' := [(1, .int (nI (i + 1))), (0, .ref h)]) hx hb dX0_startWork_119 hl (k := 1) rfl (nv_inc i 1) (by decide) rfl (fun ls hl => ?_)
              refine lv_goto (tgt := 104) hx hb dX0_startWork_122 (by decide) ?_
              exact ihL3 (upd g i (-1)) (i + 1) (by omega) (fun j hj => by unfold upd; split; rfl; exact hinv j (by omega)) (by omega) ls _ _ (lv_sub hl [1, 0] rfl) hP hD hS
        exact L3 (nC + 1) fP 0 (by omega) (fun j hj => absurd hj (Nat.not_lt_zero j)) (by omega) ls _ _ (lv_sub hl [1, 0] rfl) hP hD hS
      · refine lv_iconst (v := nI 0) hx hb dX0_startWork_10 (by decide +kernel) ?_
        refine lv_istore_n (lv' := [(2, .int (nI 0)), (0, .ref h), (1, .int (nI i))]) hx hb dX0_startWork_11 rfl hl (by decide) rfl (fun ls hl => ?_)
        have L0 : ∀ (nL0 : Nat) (f : Nat → Int32) (j : Nat), (j ≤ nC) → (Rpp (nC + mR) i j f (lm nC (G0 nC A0))) → (nC + 1 ≤ j + nL0) → ∀ (ls : Array Slot) (H : Heap) (locs : List Loc), lv_has ls 3 [(0, .ref h), (1, .int (nI i)), (2, .int (nI j))] → va_P D vwCl (pbW h a1 a2 a3 a4 cA pr mR nC fA fB f fP rd pv pp) H → va_D A (pbW h a1 a2 a3 a4 cA pr mR nC fA fB f fP rd pv pp) → va_S A s.heap H locs → W p l e ({ frames := 0, cells := 0, slots := 0, locals := 0 }) s mm args below meth c H locs 0 0 Q (F0 mm 12 ls []) := by
          intro nL0
          induction nL0 with
          | zero => intro f j hj hinv1 hfuel; exfalso; omega
          | succ nL0 ihL0 =>
            intro f j hj hinv1 hfuel ls H locs hl hP hD hS
            refine lv_iload_n hx hb dX0_startWork_12 rfl (lv_at hl 2 rfl) ?_
            refine lv_aload_n hx hb dX0_startWork_13 rfl (lv_at hl 0 rfl) ?_
            refine x0_get S hin hK hP rfl 2 (by decide) rfl (by decide +kernel) (v := .int (nI nC)) rfl dX0_startWork_14 ?_
            refine nv_icmp_ge (tgt := 52) hx hb dX0_startWork_17 (by decide) (by omega) (by omega) (fun c_3 => ?_) (fun c_3 => ?_)
            · refine lv_iconst (v := nI 0) hx hb dX0_startWork_52 (by decide +kernel) ?_
              refine lv_istore_n (lv' := [(2, .int (nI 0)), (0, .ref h), (1, .int (nI i))]) hx hb dX0_startWork_53 rfl hl (by decide) rfl (fun ls hl => ?_)
              have L2 : ∀ (nL2 : Nat) (f : Nat → Int32) (j : Nat), (j ≤ mR) → (Rpp (nC + mR) i (nC + j) f (lm nC (G0 nC A0))) → (mR + 1 ≤ j + nL2) → ∀ (ls : Array Slot) (H : Heap) (locs : List Loc), lv_has ls 3 [(0, .ref h), (1, .int (nI i)), (2, .int (nI j))] → va_P D vwCl (pbW h a1 a2 a3 a4 cA pr mR nC fA fB f fP rd pv pp) H → va_D A (pbW h a1 a2 a3 a4 cA pr mR nC fA fB f fP rd pv pp) → va_S A s.heap H locs → W p l e ({ frames := 0, cells := 0, slots := 0, locals := 0 }) s mm args below meth c H locs 0 0 Q (F0 mm 54 ls []) := by
                intro nL2
                induction nL2 with
                | zero => intro f j hj hinv2 hfuel; exfalso; omega
                | succ nL2 ihL2 =>
                  intro f j hj hinv2 hfuel ls H locs hl hP hD hS
                  refine lv_iload_n hx hb dX0_startWork_54 rfl (lv_at hl 2 rfl) ?_
                  refine lv_aload_n hx hb dX0_startWork_55 rfl (lv_at hl 0 rfl) ?_
                  refine x0_get S hin hK hP rfl 1 (by decide) rfl (by decide +kernel) (v := .int (nI mR)) rfl dX0_startWork_56 ?_
                  refine nv_icmp_ge (tgt := 96) hx hb dX0_startWork_59 (by decide) (by omega) (by omega) (fun c_4 => ?_) (fun c_4 => ?_)
                  · refine lv_iinc (v := nI (i + 1)) (lv' := [(1, .int (nI (i + 1))), (0, .ref h), (2, .int (nI j))]) hx hb dX0_startWork_96 hl (k := 1) rfl (nv_inc i 1) (by decide) rfl (fun ls hl => ?_)
                    refine lv_goto (tgt := 2) hx hb dX0_startWork_99 (by decide) ?_
                    have hinv3 := hinv2.next (show nC + j = nC + mR by omega)
                    exact ihL1 f (i + 1) (by omega) hinv3 (by omega) ls _ _ (lv_sub hl [1, 0] rfl) hP hD hS
                  · refine lv_aload_n hx hb dX0_startWork_62 rfl (lv_at hl 0 rfl) ?_
                    refine x0_get S hin hK hP rfl 5 (by decide) rfl (by decide +kernel) (v := .ref a3) rfl dX0_startWork_63 ?_
                    refine lv_iload_n hx hb dX0_startWork_66 rfl (lv_at hl 1 rfl) ?_
                    refine lv_aload_n hx hb dX0_startWork_67 rfl (lv_at hl 0 rfl) ?_
                    refine x0_get S hin hK hP rfl 6 (by decide) rfl (by decide +kernel) (v := .int (nI (nC + mR))) rfl dX0_startWork_68 ?_
                    refine nv_imul hx hb dX0_startWork_71 ?_
                    refine lv_aload_n hx hb dX0_startWork_72 rfl (lv_at hl 0 rfl) ?_
                    refine x0_get S hin hK hP rfl 2 (by decide) rfl (by decide +kernel) (v := .int (nI nC)) rfl dX0_startWork_73 ?_
                    refine nv_iadd hx hb dX0_startWork_76 ?_
                    refine lv_iload_n hx hb dX0_startWork_77 rfl (lv_at hl 2 rfl) ?_
                    refine nv_iadd hx hb dX0_startWork_78 ?_
                    refine lv_iload_n hx hb dX0_startWork_79 rfl (lv_at hl 1 rfl) ?_
                    refine lv_iload_n hx hb dX0_startWork_80 rfl (lv_at hl 2 rfl) ?_
                    refine nv_icmp_ne (tgt := 88) hx hb dX0_startWork_81 (by decide) (by omega) (by omega) (fun c_5 => ?_) (fun c_5 => ?_)
                    · refine lv_iconst (v := nI 0) hx hb dX0_startWork_88 (by decide +kernel) ?_
                      refine nv_iast hx hb hK hP hD hS 3 0 rfl rfl (by rw [Nat.add_assoc]; exact ix_lt (by omega) (by omega)) (bd3 hm hn) dX0_startWork_89 (fun H locs hP hD hS => ?_)
                      have hP : va_P D vwCl (pbW h a1 a2 a3 a4 cA pr mR nC fA fB (upd f (((i * (nC + mR)) + nC) + j) (nI 0)) fP rd pv pp) H := hP
                      have hD : va_D A (pbW h a1 a2 a3 a4 cA pr mR nC fA fB (upd f (((i * (nC + mR)) + nC) + j) (nI 0)) fP rd pv pp) := hD
                      refine lv_iinc (v := nI (j + 1)) (lv' := [(2, .int (nI (j + 1))), (0, .ref h), (1, .int (nI i))]) hx hb dX0_startWork_90 hl (k := 2) rfl (nv_inc j 1) (by decide) rfl (fun ls hl => ?_)
                      refine lv_goto (tgt := 54) hx hb dX0_startWork_93 (by decide) ?_
                      exact ihL2 (upd f (((i * (nC + mR)) + nC) + j) (nI 0)) (j + 1) (by omega) (by have e9 := hinv2.put (x := 0) (by omega) (show i * (nC + mR) + nC + j = i * (nC + mR) + (nC + j) by omega) (by show _ = G0 nC A0 i (lay nC (nC + j)); rw [lay_T, G0_T, if_neg (fun z => c_5 z.symm)]); rw [show nC + j + 1 = nC + (j + 1) by omega] at e9; exact e9) (by omega) ls _ _ (lv_sub hl [1, 2, 0] rfl) hP hD hS
                    · refine lv_iconst (v := nI 1) hx hb dX0_startWork_84 (by decide +kernel) ?_
                      refine lv_goto (tgt := 89) hx hb dX0_startWork_85 (by decide) ?_
                      refine nv_iast hx hb hK hP hD hS 3 0 rfl rfl (by rw [Nat.add_assoc]; exact ix_lt (by omega) (by omega)) (bd3 hm hn) dX0_startWork_89 (fun H locs hP hD hS => ?_)
                      have hP : va_P D vwCl (pbW h a1 a2 a3 a4 cA pr mR nC fA fB (upd f (((i * (nC + mR)) + nC) + j) (nI 1)) fP rd pv pp) H := hP
                      have hD : va_D A (pbW h a1 a2 a3 a4 cA pr mR nC fA fB (upd f (((i * (nC + mR)) + nC) + j) (nI 1)) fP rd pv pp) := hD
                      refine lv_iinc (v := nI (j + 1)) (lv' := [(2, .int (nI (j + 1))), (0, .ref h), (1, .int (nI i))]) hx hb dX0_startWork_90 hl (k := 2) rfl (nv_inc j 1) (by decide) rfl (fun ls hl => ?_)
                      refine lv_goto (tgt := 54) hx hb dX0_startWork_93 (by decide) ?_
                      exact ihL2 (upd f (((i * (nC + mR)) + nC) + j) (nI 1)) (j + 1) (by omega) (by have e9 := hinv2.put (x := 1) (by omega) (show i * (nC + mR) + nC + j = i * (nC + mR) + (nC + j) by omega) (by show _ = G0 nC A0 i (lay nC (nC + j)); rw [lay_T, G0_T, if_pos c_5.symm]); rw [show nC + j + 1 = nC + (j + 1) by omega] at e9; exact e9) (by omega) ls _ _ (lv_sub hl [1, 2, 0] rfl) hP hD hS
              exact L2 (mR + 1) f 0 (by omega) (by rw [show nC + 0 = j by omega]; exact hinv1) (by omega) ls _ _ (lv_sub hl [1, 2, 0] rfl) hP hD hS
            · refine lv_aload_n hx hb dX0_startWork_20 rfl (lv_at hl 0 rfl) ?_
              refine x0_get S hin hK hP rfl 5 (by decide) rfl (by decide +kernel) (v := .ref a3) rfl dX0_startWork_21 ?_
              refine lv_iload_n hx hb dX0_startWork_24 rfl (lv_at hl 1 rfl) ?_
              refine lv_aload_n hx hb dX0_startWork_25 rfl (lv_at hl 0 rfl) ?_
              refine x0_get S hin hK hP rfl 6 (by decide) rfl (by decide +kernel) (v := .int (nI (nC + mR))) rfl dX0_startWork_26 ?_
              refine nv_imul hx hb dX0_startWork_29 ?_
              refine lv_iload_n hx hb dX0_startWork_30 rfl (lv_at hl 2 rfl) ?_
              refine nv_iadd hx hb dX0_startWork_31 ?_
              refine lv_aload_n hx hb dX0_startWork_32 rfl (lv_at hl 0 rfl) ?_
              refine x0_get S hin hK hP rfl 3 (by decide) rfl (by decide +kernel) (v := .ref a1) rfl dX0_startWork_33 ?_
              refine lv_iload_n hx hb dX0_startWork_36 rfl (lv_at hl 1 rfl) ?_
              refine lv_aload_n hx hb dX0_startWork_37 rfl (lv_at hl 0 rfl) ?_
              refine x0_get S hin hK hP rfl 2 (by decide) rfl (by decide +kernel) (v := .int (nI nC)) rfl dX0_startWork_38 ?_
              refine nv_imul hx hb dX0_startWork_41 ?_
              refine lv_iload_n hx hb dX0_startWork_42 rfl (lv_at hl 2 rfl) ?_
              refine nv_iadd hx hb dX0_startWork_43 ?_
              refine nv_iald hx hb hK hP 1 0 rfl rfl (v := nI (A0 i j)) (ix_lt (by omega) (by omega)) (bd1 hm hn) (hA0 i (by omega) j (by omega)) dX0_startWork_44 ?_
              refine nv_iast hx hb hK hP hD hS 3 0 rfl rfl (ix_lt (by omega) (by omega)) (bd3 hm hn) dX0_startWork_45 (fun H locs hP hD hS => ?_)
              have hP : va_P D vwCl (pbW h a1 a2 a3 a4 cA pr mR nC fA fB (upd f ((i * (nC + mR)) + j) (nI (A0 i j))) fP rd pv pp) H := hP
              have hD : va_D A (pbW h a1 a2 a3 a4 cA pr mR nC fA fB (upd f ((i * (nC + mR)) + j) (nI (A0 i j))) fP rd pv pp) := hD
              refine lv_iinc (v := nI (j + 1)) (lv' := [(2, .int (nI (j + 1))), (0, .ref h), (1, .int (nI i))]) hx hb dX0_startWork_46 hl (k := 2) rfl (nv_inc j 1) (by decide) rfl (fun ls hl => ?_)
              refine lv_goto (tgt := 12) hx hb dX0_startWork_49 (by decide) ?_
              exact ihL0 (upd f ((i * (nC + mR)) + j) (nI (A0 i j))) (j + 1) (by omega) (hinv1.put (by omega) rfl (by simp [lm, G0, lay, c_3, show j < 10 by omega])) (by omega) ls _ _ (lv_sub hl [1, 2, 0] rfl) hP hD hS
        exact L0 (nC + 1) f 0 (by omega) hinv (by omega) ls _ _ (lv_sub hl [1, 2, 0] rfl) hP hD hS
  exact L1 (mR + 1) fW 0 (by omega) (fun a b _ q => by omega) (by omega) ls _ _ (lv_sub hl [1, 0] rfl) hP hD hS
set_option maxHeartbeats 4000000 in
set_option maxRecDepth 100000 in
theorem c_X0_reduceColumn (l : Launch) (D : va_G) {h a1 a2 a3 a4 : Nat} {cA : ClassId} {mR nC : Nat} {fA fB fW fP : Nat → Int32} {rd pv pp : Nat} {P : Nat} {G : Mat} {pc : Nat → Nat} (cc : Nat) (hP2 : 2 ≤ P) (hPl : P < 2 ^ 31) (hm : mR ≤ 10) (hn : nC ≤ 10) (hcc : cc < nC) (hpv : pv < mR) (hpp : pp < P) (hB : bnd P G) (hM : Rp (nC + mR) mR fW G) (hfP : ∀ j, j < nC → fP j = opt (rowOf pc pv j)) : WrV (U := (Nat → Int32) × (Nat → Int32) × Nat × Nat) l yX0_reduceColumn wsX0_reduceColumn ({ frames := 2, cells := 0, slots := 0, locals := 49 }) [.ref h, .int (nI cc)] D (pbW h a1 a2 a3 a4 cA (nI P) mR nC fA fB fW fP rd pv pp) [(cA, .int)] (fun u => Rp (nC + mR) mR u.1 (redS P mR cc (G, pv, pp, pc)).1 ∧ (∀ j, j < nC → u.2.1 j = opt (rowOf (redS P mR cc (G, pv, pp, pc)).2.2.2 (redS P mR cc (G, pv, pp, pc)).2.1 j)) ∧ u.2.2.1 = (redS P mR cc (G, pv, pp, pc)).2.1 ∧ u.2.2.2 = (redS P mR cc (G, pv, pp, pc)).2.2.1) (fun u => pbW h a1 a2 a3 a4 cA (nI P) mR nC fA fB u.1 u.2.1 rd u.2.2.1 u.2.2.2) := by
  refine WrV.mk (cc := cX0_reduceColumn) (maxL := 6) (by decide) rfl (Nat.le_of_ble_eq_true rfl) ?_
  intro p e s mm args below meth c Q ls A S hK hP hD hA hS hl hret
  have hx := S.1
  have hb := S.2.1
  have hts := S.2.2.2.2
  have hown := S.2.2.2.1
  have hin : ∀ w ∈ wsX00, w ∈ wsX0_reduceColumn := fun w h => List.mem_cons_of_mem _ (List.mem_append_right _ h)
  have hl : lv_has ls 6 [(0, .ref h), (1, .int (nI cc))] := hl
  refine lv_aload_n hx hb dX0_reduceColumn_0 rfl (lv_at hl 0 rfl) ?_
  refine lv_iload_n hx hb dX0_reduceColumn_1 rfl (lv_at hl 1 rfl) ?_
  refine rdv_i S (c_X0_firstRowLeft l D (M := G) (P := P) cc hP2 hPl hm hn hcc (by omega) hB hM) (cwV 1 hts gX0_reduceColumn_X0_firstRowLeft rfl rfl rfl (by decide +kernel) ⟨Nat.le_of_ble_eq_true rfl, Nat.le_of_ble_eq_true rfl⟩) rfl hK hP (ci := 0) rfl rfl hl.1 (rest := []) rfl (Nat.le_of_ble_eq_true rfl) dX0_reduceColumn_2 ⟨Nat.zero_le _, Nat.zero_le _⟩ hP hS hA (fun r_1 H locs er_1 hP hS => ?_)
  generalize hF : fnd G cc (mR - pv) pv = F at er_1
  rcases er_1 with ⟨hFm, rfl⟩ | ⟨hFm, rfl⟩
  · refine lv_istore_n (lv' := [(2, .int (nI F)), (0, .ref h), (1, .int (nI cc))]) hx hb dX0_reduceColumn_5 rfl hl (by decide) rfl (fun ls hl => ?_)
    refine lv_iload_n hx hb dX0_reduceColumn_6 rfl (lv_at hl 0 rfl) ?_
    refine lv_iconst (v := (-1)) hx hb dX0_reduceColumn_7 (by decide +kernel) ?_
    refine lv_icmp_ne (tgt := 12) hx hb dX0_reduceColumn_8 (by decide) (fun c_2 => ?_) (fun c_2 => ?_)
    · refine lv_aload_n hx hb dX0_reduceColumn_12 rfl (lv_at hl 1 rfl) ?_
      refine x0_get S hin hK hP rfl 9 (by decide) rfl (by decide +kernel) (v := .int (nI pv)) rfl dX0_reduceColumn_13 ?_
      refine lv_istore_n (lv' := [(3, .int (nI pv)), (2, .int (nI F)), (0, .ref h), (1, .int (nI cc))]) hx hb dX0_reduceColumn_16 rfl hl (by decide) rfl (fun ls hl => ?_)
      have J : ∀ (f1 : Nat → Int32) (pp1 : Nat), (Rp (nC + mR) mR f1 (swp G F pv)) → (pp1 = if F = pv then pp else ng P pp) → (pp1 < P) → ∀ (ls : Array Slot) (H : Heap) (locs : List Loc), lv_has ls 6 [(0, .ref h), (1, .int (nI cc)), (2, .int (nI F)), (3, .int (nI pv))] → va_P D vwCl (pbW h a1 a2 a3 a4 cA (nI P) mR nC fA fB f1 fP rd pv pp1) H → va_D A (pbW h a1 a2 a3 a4 cA (nI P) mR nC fA fB f1 fP rd pv pp1) → va_S A s.heap H locs → W p l e ({ frames := 2, cells := 0, slots := 0, locals := 49 }) s mm args below meth c H locs 0 0 Q (F0 mm 40 ls []) := by
        intro f1 pp1 hM1 hpp1 hpp2 ls H locs hl hP hD hS
        refine lv_aload_n hx hb dX0_reduceColumn_40 rfl (lv_at hl 0 rfl) ?_
        refine x0_get S hin hK hP rfl 5 (by decide) rfl (by decide +kernel) (v := .ref a3) rfl dX0_reduceColumn_41 ?_
        refine lv_iload_n hx hb dX0_reduceColumn_44 rfl (lv_at hl 3 rfl) ?_
        refine lv_aload_n hx hb dX0_reduceColumn_45 rfl (lv_at hl 0 rfl) ?_
        refine x0_get S hin hK hP rfl 6 (by decide) rfl (by decide +kernel) (v := .int (nI (nC + mR))) rfl dX0_reduceColumn_46 ?_
        refine nv_imul hx hb dX0_reduceColumn_49 ?_
        refine lv_iload_n hx hb dX0_reduceColumn_50 rfl (lv_at hl 1 rfl) ?_
        refine nv_iadd hx hb dX0_reduceColumn_51 ?_
        refine nv_iald hx hb hK hP 3 0 rfl rfl (v := nI (swp G F pv pv cc)) (ix_lt hpv (by omega)) (bd3 hm hn) (hM1 pv hpv cc (by omega)) dX0_reduceColumn_52 ?_
        have hX := bn_swp hB F pv pv cc
        generalize hXe : swp G F pv pv cc = X at hX ⊢
        refine lv_istore (lv' := [(4, .int (nI X)), (0, .ref h), (1, .int (nI cc)), (2, .int (nI F)), (3, .int (nI pv))]) hx hb dX0_reduceColumn_53 hl (by decide) rfl (fun ls hl => ?_)
        refine lv_aload_n hx hb dX0_reduceColumn_55 rfl (lv_at hl 1 rfl) ?_
        refine lv_aload_n hx hb dX0_reduceColumn_56 rfl (lv_at hl 1 rfl) ?_
        refine x0_get S hin hK hP rfl 10 (by decide) rfl (by decide +kernel) (v := .long (lN pp1)) rfl dX0_reduceColumn_57 ?_
        refine lv_iload hx hb dX0_reduceColumn_60 (lv_at hl 0 rfl) ?_
        refine nv_i2l hx hb (by omega) dX0_reduceColumn_62 ?_
        refine nv_lmul hx hb dX0_reduceColumn_63 ?_
        refine lv_aload_n hx hb dX0_reduceColumn_64 rfl (lv_at hl 1 rfl) ?_
        refine x0_get S hin hK hP rfl 0 (by decide) rfl (by decide +kernel) (v := .int (nI P)) rfl dX0_reduceColumn_65 ?_
        refine nv_i2l hx hb (by omega) dX0_reduceColumn_68 ?_
        refine nv_lrem hx hb (mul_b (by omega) (by omega)) (by omega) (by omega) dX0_reduceColumn_69 ?_
        refine x0_put S hin hK hP hD hS rfl 10 (by decide) rfl (by decide +kernel) rfl (ty := .long) (v := .long (lN ((pp1 * X) % P))) rfl rfl rfl (Nat.le_of_ble_eq_true rfl) dX0_reduceColumn_70 (fun H locs hP hD hS => ?_)
        have hP : va_P D vwCl (pbW h a1 a2 a3 a4 cA (nI P) mR nC fA fB f1 fP rd pv ((pp1 * X) % P)) H := hP
        have hD : va_D A (pbW h a1 a2 a3 a4 cA (nI P) mR nC fA fB f1 fP rd pv ((pp1 * X) % P)) := hD
        refine lv_aload_n hx hb dX0_reduceColumn_73 rfl (lv_at hl 1 rfl) ?_
        refine lv_iload_n hx hb dX0_reduceColumn_74 rfl (lv_at hl 4 rfl) ?_
        refine lv_aload_n hx hb dX0_reduceColumn_75 rfl (lv_at hl 1 rfl) ?_
        refine lv_iload hx hb dX0_reduceColumn_76 (lv_at hl 0 rfl) ?_
        refine rdv_l S (c_X0_inverseOf l D X hP2 hPl hX) (cwV 1 hts gX0_reduceColumn_X0_inverseOf rfl rfl rfl (by decide +kernel) ⟨Nat.le_of_ble_eq_true rfl, Nat.le_of_ble_eq_true rfl⟩) rfl hK hP (ci := 0) rfl rfl hl.1 (rest := [.int (nI pv), .ref h]) rfl (Nat.le_of_ble_eq_true rfl) dX0_reduceColumn_78 ⟨Nat.zero_le _, Nat.zero_le _⟩ hP hS hA (fun r_3 H locs er_3 hP hS => ?_)
        subst er_3
        refine wrv_v S (c_X0_multiplyRow l D (M := swp G F pv) pv (X ^ (P - 2) % P) hP2 hPl hm hn hpv (Nat.mod_lt _ (by omega)) (bn_swp hB F pv) hM1) (cwV 2 hts gX0_reduceColumn_X0_multiplyRow rfl rfl rfl (by decide +kernel) ⟨Nat.le_of_ble_eq_true rfl, Nat.le_of_ble_eq_true rfl⟩) rfl hK (ci := 0) rfl rfl hl.1 (rest := []) rfl (Nat.le_of_ble_eq_true rfl) dX0_reduceColumn_81 ⟨Nat.zero_le _, Nat.zero_le _⟩ hP hD hS hA (fun u_4 H locs eu_4 hP hD hS => ?_)
        have hP : va_P D vwCl (pbW h a1 a2 a3 a4 cA (nI P) mR nC fA fB u_4 fP rd pv ((pp1 * X) % P)) H := hP
        have hD : va_D A (pbW h a1 a2 a3 a4 cA (nI P) mR nC fA fB u_4 fP rd pv ((pp1 * X) % P)) := hD
        have hB2 := bn_scl (show 0 < P by omega) (bn_swp hB F pv) pv (X ^ (P - 2) % P)
        generalize hM2 : scl P (swp G F pv) pv (X ^ (P - 2) % P) = M2 at eu_4 hB2
        refine lv_iconst (v := nI 0) hx hb dX0_reduceColumn_84 (by decide +kernel) ?_
        refine lv_istore (lv' := [(5, .int (nI 0)), (4, .int (nI X)), (0, .ref h), (1, .int (nI cc)), (2, .int (nI F)), (3, .int (nI pv))]) hx hb dX0_reduceColumn_85 hl (by decide) rfl (fun ls hl => ?_)
        have L : ∀ (nL : Nat) (f : Nat → Int32) (i : Nat), (i ≤ mR) → (Rp (nC + mR) mR f (row2 i (clr P M2 pv cc) M2)) → (mR + 1 ≤ i + nL) → ∀ (ls : Array Slot) (H : Heap) (locs : List Loc), lv_has ls 6 [(0, .ref h), (1, .int (nI cc)), (3, .int (nI pv)), (5, .int (nI i))] → va_P D vwCl (pbW h a1 a2 a3 a4 cA (nI P) mR nC fA fB f fP rd pv (pp1 * X % P)) H → va_D A (pbW h a1 a2 a3 a4 cA (nI P) mR nC fA fB f fP rd pv (pp1 * X % P)) → va_S A s.heap H locs → W p l e ({ frames := 2, cells := 0, slots := 0, locals := 49 }) s mm args below meth c H locs 0 0 Q (F0 mm 87 ls []) := by
          intro nL
          induction nL with
          | zero => intro f i hi hinv hfuel; exfalso; omega
          | succ nL ihL =>
            intro f i hi hinv hfuel ls H locs hl hP hD hS
            refine lv_iload hx hb dX0_reduceColumn_87 (lv_at hl 3 rfl) ?_
            refine lv_aload_n hx hb dX0_reduceColumn_89 rfl (lv_at hl 0 rfl) ?_
            refine x0_get S hin hK hP rfl 1 (by decide) rfl (by decide +kernel) (v := .int (nI mR)) rfl dX0_reduceColumn_90 ?_
            refine nv_icmp_ge (tgt := 129) hx hb dX0_reduceColumn_93 (by decide) (by omega) (by omega) (fun c_5 => ?_) (fun c_5 => ?_)
            · refine lv_aload_n hx hb dX0_reduceColumn_129 rfl (lv_at hl 0 rfl) ?_
              refine x0_get S hin hK hP rfl 7 (by decide) rfl (by decide +kernel) (v := .ref a4) rfl dX0_reduceColumn_130 ?_
              refine lv_iload_n hx hb dX0_reduceColumn_133 rfl (lv_at hl 1 rfl) ?_
              refine lv_iload_n hx hb dX0_reduceColumn_134 rfl (lv_at hl 2 rfl) ?_
              refine nv_iast hx hb hK hP hD hS 4 0 rfl rfl (by omega) (by omega) dX0_reduceColumn_135 (fun H locs hP hD hS => ?_)
              have hP : va_P D vwCl (pbW h a1 a2 a3 a4 cA (nI P) mR nC fA fB f (upd fP cc (nI pv)) rd pv (pp1 * X % P)) H := hP
              have hD : va_D A (pbW h a1 a2 a3 a4 cA (nI P) mR nC fA fB f (upd fP cc (nI pv)) rd pv (pp1 * X % P)) := hD
              refine lv_aload_n hx hb dX0_reduceColumn_136 rfl (lv_at hl 0 rfl) ?_
              refine lv_dup hx hb dX0_reduceColumn_137 rfl ?_
              refine x0_get S hin hK hP rfl 9 (by decide) rfl (by decide +kernel) (v := .int (nI pv)) rfl dX0_reduceColumn_138 ?_
              refine lv_iconst (v := nI 1) hx hb dX0_reduceColumn_141 (by decide +kernel) ?_
              refine nv_iadd hx hb dX0_reduceColumn_142 ?_
              refine x0_put S hin hK hP hD hS rfl 9 (by decide) rfl (by decide +kernel) rfl (ty := .int) (v := .int (nI (pv + 1))) rfl rfl rfl (Nat.le_of_ble_eq_true rfl) dX0_reduceColumn_143 (fun H locs hP hD hS => ?_)
              have hP : va_P D vwCl (pbW h a1 a2 a3 a4 cA (nI P) mR nC fA fB f (upd fP cc (nI pv)) rd (pv + 1) (pp1 * X % P)) H := hP
              have hD : va_D A (pbW h a1 a2 a3 a4 cA (nI P) mR nC fA fB f (upd fP cc (nI pv)) rd (pv + 1) (pp1 * X % P)) := hD
              exact hret (f, upd fP cc (nI pv), pv + 1, pp1 * X % P) 146 ls _ _ dX0_reduceColumn_146 hP hD hS (by
                  rw [redS_yes hpv hF hFm, hXe, hM2, ← hpp1]
                  exact ⟨hinv.rowm c_5, fp_step hfP, rfl, rfl⟩)
            · refine lv_iload hx hb dX0_reduceColumn_96 (lv_at hl 3 rfl) ?_
              refine lv_iload_n hx hb dX0_reduceColumn_98 rfl (lv_at hl 2 rfl) ?_
              refine nv_icmp_eq (tgt := 123) hx hb dX0_reduceColumn_99 (by decide) (by omega) (by omega) (fun c_6 => ?_) (fun c_6 => ?_)
              · refine lv_iinc (v := nI (i + 1)) (lv' := [(5, .int (nI (i + 1))), (0, .ref h), (1, .int (nI cc)), (3, .int (nI pv))]) hx hb dX0_reduceColumn_123 hl (k := 3) rfl (nv_inc i 1) (by decide) rfl (fun ls hl => ?_)
                refine lv_goto (tgt := 87) hx hb dX0_reduceColumn_126 (by decide) ?_
                exact ihL f (i + 1) (by omega) (st_clrE c_6 hinv) (by omega) ls _ _ (lv_sub hl [1, 2, 3, 0] rfl) hP hD hS
              · have hBi := bn_row2 (bn_clr (show 0 < P by omega) hB2 pv cc) hB2 i
                refine lv_aload_n hx hb dX0_reduceColumn_102 rfl (lv_at hl 0 rfl) ?_
                refine lv_iload_n hx hb dX0_reduceColumn_103 rfl (lv_at hl 2 rfl) ?_
                refine lv_aload_n hx hb dX0_reduceColumn_104 rfl (lv_at hl 0 rfl) ?_
                refine x0_get S hin hK hP rfl 5 (by decide) rfl (by decide +kernel) (v := .ref a3) rfl dX0_reduceColumn_105 ?_
                refine lv_iload hx hb dX0_reduceColumn_108 (lv_at hl 3 rfl) ?_
                refine lv_aload_n hx hb dX0_reduceColumn_110 rfl (lv_at hl 0 rfl) ?_
                refine x0_get S hin hK hP rfl 6 (by decide) rfl (by decide +kernel) (v := .int (nI (nC + mR))) rfl dX0_reduceColumn_111 ?_
                refine nv_imul hx hb dX0_reduceColumn_114 ?_
                refine lv_iload_n hx hb dX0_reduceColumn_115 rfl (lv_at hl 1 rfl) ?_
                refine nv_iadd hx hb dX0_reduceColumn_116 ?_
                refine nv_iald hx hb hK hP 3 0 rfl rfl (v := nI (row2 i (clr P M2 pv cc) M2 i cc)) (ix_lt (by omega) (by omega)) (bd3 hm hn) (hinv i (by omega) cc (by omega)) dX0_reduceColumn_117 ?_
                refine lv_iload hx hb dX0_reduceColumn_118 (lv_at hl 3 rfl) ?_
                refine wrv_v S (c_X0_takeRow l D (M := row2 i (clr P M2 pv cc) M2) pv ((row2 i (clr P M2 pv cc) M2) i cc) i hP2 hPl hm hn hpv (hBi i cc) (by omega) hBi hinv) (cwV 3 hts gX0_reduceColumn_X0_takeRow rfl rfl rfl (by decide +kernel) ⟨Nat.le_of_ble_eq_true rfl, Nat.le_of_ble_eq_true rfl⟩) rfl hK (ci := 0) rfl rfl hl.1 (rest := []) rfl (Nat.le_of_ble_eq_true rfl) dX0_reduceColumn_120 ⟨Nat.zero_le _, Nat.zero_le _⟩ hP hD hS hA (fun u_7 H locs eu_7 hP hD hS => ?_)
                have hP : va_P D vwCl (pbW h a1 a2 a3 a4 cA (nI P) mR nC fA fB u_7 fP rd pv (pp1 * X % P)) H := hP
                have hD : va_D A (pbW h a1 a2 a3 a4 cA (nI P) mR nC fA fB u_7 fP rd pv (pp1 * X % P)) := hD
                refine lv_iinc (v := nI (i + 1)) (lv' := [(5, .int (nI (i + 1))), (0, .ref h), (1, .int (nI cc)), (3, .int (nI pv))]) hx hb dX0_reduceColumn_123 hl (k := 3) rfl (nv_inc i 1) (by decide) rfl (fun ls hl => ?_)
                refine lv_goto (tgt := 87) hx hb dX0_reduceColumn_126 (by decide) ?_
                exact ihL u_7 (i + 1) (by omega) (st_clr hB2 c_6 eu_7) (by omega) ls _ _ (lv_sub hl [1, 2, 3, 0] rfl) hP hD hS
        exact L (mR + 1) u_4 0 (by omega) (Rp.row0 eu_4) (by omega) ls _ _ (lv_sub hl [2, 3, 5, 0] rfl) hP hD hS
      refine lv_iload_n hx hb dX0_reduceColumn_17 rfl (lv_at hl 1 rfl) ?_
      refine lv_iload_n hx hb dX0_reduceColumn_18 rfl (lv_at hl 0 rfl) ?_
      refine nv_icmp_eq (tgt := 40) hx hb dX0_reduceColumn_19 (by decide) (by omega) (by omega) (fun c_8 => ?_) (fun c_8 => ?_)
      · have h40 : pp = if F = pv then pp else ng P pp := by rw [if_pos c_8]
        exact J fW pp (hM.swps c_8) h40 hpp ls _ _ (lv_sub hl [2, 3, 1, 0] rfl) hP hD hS
      · refine lv_aload_n hx hb dX0_reduceColumn_22 rfl (lv_at hl 2 rfl) ?_
        refine lv_iload_n hx hb dX0_reduceColumn_23 rfl (lv_at hl 1 rfl) ?_
        refine lv_iload_n hx hb dX0_reduceColumn_24 rfl (lv_at hl 0 rfl) ?_
        refine wrv_v S (c_X0_changePlaces l D (M := G) F pv hm hn hFm hpv hM) (cwV 2 hts gX0_reduceColumn_X0_changePlaces rfl rfl rfl (by decide +kernel) ⟨Nat.le_of_ble_eq_true rfl, Nat.le_of_ble_eq_true rfl⟩) rfl hK (ci := 0) rfl rfl hl.1 (rest := []) rfl (Nat.le_of_ble_eq_true rfl) dX0_reduceColumn_25 ⟨Nat.zero_le _, Nat.zero_le _⟩ hP hD hS hA (fun u_9 H locs eu_9 hP hD hS => ?_)
        have hP : va_P D vwCl (pbW h a1 a2 a3 a4 cA (nI P) mR nC fA fB u_9 fP rd pv pp) H := hP
        have hD : va_D A (pbW h a1 a2 a3 a4 cA (nI P) mR nC fA fB u_9 fP rd pv pp) := hD
        refine lv_aload_n hx hb dX0_reduceColumn_28 rfl (lv_at hl 2 rfl) ?_
        refine lv_aload_n hx hb dX0_reduceColumn_29 rfl (lv_at hl 2 rfl) ?_
        refine lv_aload_n hx hb dX0_reduceColumn_30 rfl (lv_at hl 2 rfl) ?_
        refine x0_get S hin hK hP rfl 10 (by decide) rfl (by decide +kernel) (v := .long (lN pp)) rfl dX0_reduceColumn_31 ?_
        refine rdv_l S (c_X0_negative l D pp hPl hpp) (cwV 1 hts gX0_reduceColumn_X0_negative rfl rfl rfl (by decide +kernel) ⟨Nat.le_of_ble_eq_true rfl, Nat.le_of_ble_eq_true rfl⟩) rfl hK hP (ci := 0) rfl rfl hl.1 (rest := [.ref h]) rfl (Nat.le_of_ble_eq_true rfl) dX0_reduceColumn_34 ⟨Nat.zero_le _, Nat.zero_le _⟩ hP hS hA (fun r_10 H locs er_10 hP hS => ?_)
        subst er_10
        refine x0_put S hin hK hP hD hS rfl 10 (by decide) rfl (by decide +kernel) rfl (ty := .long) (v := .long (lN (ng P pp))) rfl rfl rfl (Nat.le_of_ble_eq_true rfl) dX0_reduceColumn_37 (fun H locs hP hD hS => ?_)
        have hP : va_P D vwCl (pbW h a1 a2 a3 a4 cA (nI P) mR nC fA fB u_9 fP rd pv (ng P pp)) H := hP
        have hD : va_D A (pbW h a1 a2 a3 a4 cA (nI P) mR nC fA fB u_9 fP rd pv (ng P pp)) := hD
        have h40 : ng P pp = if F = pv then pp else ng P pp := by rw [if_neg c_8]
        exact J u_9 (ng P pp) eu_9 h40 (ng_lt (by omega)) ls _ _ (lv_sub hl [2, 3, 1, 0] rfl) hP hD hS
    · exact absurd c_2 (nI_m1 (by omega))
  · refine lv_istore_n (lv' := [(2, .int (-1)), (0, .ref h), (1, .int (nI cc))]) hx hb dX0_reduceColumn_5 rfl hl (by decide) rfl (fun ls hl => ?_)
    refine lv_iload_n hx hb dX0_reduceColumn_6 rfl (lv_at hl 0 rfl) ?_
    refine lv_iconst (v := (-1)) hx hb dX0_reduceColumn_7 (by decide +kernel) ?_
    refine lv_icmp_ne (tgt := 12) hx hb dX0_reduceColumn_8 (by decide) (fun c_11 => ?_) (fun c_11 => ?_)
    · exact absurd rfl c_11
    · exact hret (fW, fP, pv, pp) 11 ls _ _ dX0_reduceColumn_11 hP hD hS (by
          rw [redS_no (q := (G, pv, pp, pc)) (fun z => by have z2 := z.2; rw [show fnd (G, pv, pp, pc).1 cc (mR - (G, pv, pp, pc).2.1) (G, pv, pp, pc).2.1 = F from hF] at z2; omega)]
          exact ⟨hM, hfP, rfl, rfl⟩)
set_option maxHeartbeats 4000000 in
set_option maxRecDepth 100000 in
theorem c_X0_reduce (l : Launch) (D : va_G) {h a1 a2 a3 a4 : Nat} {cA : ClassId} {mR nC : Nat} {fA fB fW fP : Nat → Int32} {rd pv pp : Nat} {P : Nat} {A0 : Mat} (hP2 : 2 ≤ P) (hPl : P < 2 ^ 31) (hm : mR ≤ 10) (hn : nC ≤ 10) (hm0 : 0 < mR) (hAb : bnd P A0) (hA0 : Rp nC mR fA A0) : WrI (U := (Nat → Int32) × (Nat → Int32) × Nat × Nat) l yX0_reduce wsX0_reduce ({ frames := 3, cells := 0, slots := 0, locals := 74 }) [.ref h] D (pbW h a1 a2 a3 a4 cA (nI P) mR nC fA fB fW fP rd pv pp) [(cA, .int)] (fun r u => r = nI (redN P mR (lm nC (G0 nC A0), 0, 1, fun _ => 0) nC).2.1 ∧ Rp (nC + mR) mR u.1 (redN P mR (lm nC (G0 nC A0), 0, 1, fun _ => 0) nC).1 ∧ (∀ j, j < nC → u.2.1 j = opt (rowOf (redN P mR (lm nC (G0 nC A0), 0, 1, fun _ => 0) nC).2.2.2 (redN P mR (lm nC (G0 nC A0), 0, 1, fun _ => 0) nC).2.1 j)) ∧ u.2.2.1 = (redN P mR (lm nC (G0 nC A0), 0, 1, fun _ => 0) nC).2.1 ∧ u.2.2.2 = (redN P mR (lm nC (G0 nC A0), 0, 1, fun _ => 0) nC).2.2.1) (fun u => pbW h a1 a2 a3 a4 cA (nI P) mR nC fA fB u.1 u.2.1 1 u.2.2.1 u.2.2.2) := by
  refine WrI.mk (cc := cX0_reduce) (maxL := 2) (rt := .int) (by decide) rfl (Nat.le_of_ble_eq_true rfl) ?_
  intro p e s mm args below meth c Q ls A S hK hP hD hA hS hl hret
  have hx := S.1
  have hb := S.2.1
  have hts := S.2.2.2.2
  have hown := S.2.2.2.1
  have hin : ∀ w ∈ wsX00, w ∈ wsX0_reduce := fun w h => List.mem_cons_of_mem _ (List.mem_append_right _ h)
  have hl : lv_has ls 2 [(0, .ref h)] := hl
  refine lv_aload_n hx hb dX0_reduce_0 rfl (lv_at hl 0 rfl) ?_
  refine x0_get S hin hK hP rfl 1 (by decide) rfl (by decide +kernel) (v := .int (nI mR)) rfl dX0_reduce_1 ?_
  refine nv_if_ne (tgt := 9) hx hb dX0_reduce_4 (by decide) (by omega) (fun c_1 => ?_) (fun c_1 => ?_)
  · refine lv_aload_n hx hb dX0_reduce_9 rfl (lv_at hl 0 rfl) ?_
    refine wrv_v S (c_X0_startWork l D hm hn hA0) (cwV 0 hts gX0_reduce_X0_startWork rfl rfl rfl (by decide +kernel) ⟨Nat.le_of_ble_eq_true rfl, Nat.le_of_ble_eq_true rfl⟩) rfl hK (ci := 0) rfl rfl hl.1 (rest := []) rfl (Nat.le_of_ble_eq_true rfl) dX0_reduce_10 ⟨Nat.zero_le _, Nat.zero_le _⟩ hP hD hS hA (fun u_2 H locs eu_2 hP hD hS => ?_)
    have hP : va_P D vwCl (pbW h a1 a2 a3 a4 cA (nI P) mR nC fA fB u_2.1 u_2.2 rd 0 1) H := hP
    have hD : va_D A (pbW h a1 a2 a3 a4 cA (nI P) mR nC fA fB u_2.1 u_2.2 rd 0 1) := hD
    obtain ⟨f0, g0⟩ := u_2
    obtain ⟨hr0, hg0⟩ := eu_2
    dsimp only at hr0 hg0
    have hP : va_P D vwCl (pbW h a1 a2 a3 a4 cA (nI P) mR nC fA fB f0 g0 rd 0 1) H := hP
    have hD : va_D A (pbW h a1 a2 a3 a4 cA (nI P) mR nC fA fB f0 g0 rd 0 1) := hD
    refine lv_iconst (v := nI 0) hx hb dX0_reduce_13 (by decide +kernel) ?_
    refine lv_istore_n (lv' := [(1, .int (nI 0)), (0, .ref h)]) hx hb dX0_reduce_14 rfl hl (by decide) rfl (fun ls hl => ?_)
    have L : ∀ (nL : Nat) (f : Nat → Int32) (g : Nat → Int32) (v : Nat) (d : Nat) (i : Nat), (i ≤ nC) → (Rp (nC + mR) mR f (redN P mR (lm nC (G0 nC A0), 0, 1, fun _ => 0) i).1) → (∀ j, j < nC → g j = opt (rowOf (redN P mR (lm nC (G0 nC A0), 0, 1, fun _ => 0) i).2.2.2 v j)) → (v = (redN P mR (lm nC (G0 nC A0), 0, 1, fun _ => 0) i).2.1) → (d = (redN P mR (lm nC (G0 nC A0), 0, 1, fun _ => 0) i).2.2.1) → (nC + 1 ≤ i + nL) → ∀ (ls : Array Slot) (H : Heap) (locs : List Loc), lv_has ls 2 [(0, .ref h), (1, .int (nI i))] → va_P D vwCl (pbW h a1 a2 a3 a4 cA (nI P) mR nC fA fB f g rd v d) H → va_D A (pbW h a1 a2 a3 a4 cA (nI P) mR nC fA fB f g rd v d) → va_S A s.heap H locs → W p l e ({ frames := 3, cells := 0, slots := 0, locals := 74 }) s mm args below meth c H locs 0 0 Q (F0 mm 15 ls []) := by
      intro nL
      induction nL with
      | zero => intro f g v d i hi hinv hgi hv hd hfuel; exfalso; omega
      | succ nL ihL =>
        intro f g v d i hi hinv hgi hv hd hfuel ls H locs hl hP hD hS
        refine lv_iload_n hx hb dX0_reduce_15 rfl (lv_at hl 1 rfl) ?_
        refine lv_aload_n hx hb dX0_reduce_16 rfl (lv_at hl 0 rfl) ?_
        refine x0_get S hin hK hP rfl 2 (by decide) rfl (by decide +kernel) (v := .int (nI nC)) rfl dX0_reduce_17 ?_
        refine nv_icmp_ge (tgt := 45) hx hb dX0_reduce_20 (by decide) (by omega) (by omega) (fun c_3 => ?_) (fun c_3 => ?_)
        · have e7 : i = nC := by omega
          rw [e7] at hinv hgi hv hd
          refine lv_aload_n hx hb dX0_reduce_45 rfl (lv_at hl 0 rfl) ?_
          refine lv_iconst (v := nI 1) hx hb dX0_reduce_46 (by decide +kernel) ?_
          refine x0_put S hin hK hP hD hS rfl 8 (by decide) rfl (by decide +kernel) rfl (ty := .boolean) (v := .int (nI 1)) rfl rfl rfl (Nat.le_of_ble_eq_true rfl) dX0_reduce_47 (fun H locs hP hD hS => ?_)
          have hP : va_P D vwCl (pbW h a1 a2 a3 a4 cA (nI P) mR nC fA fB f g 1 v d) H := hP
          have hD : va_D A (pbW h a1 a2 a3 a4 cA (nI P) mR nC fA fB f g 1 v d) := hD
          refine lv_aload_n hx hb dX0_reduce_50 rfl (lv_at hl 0 rfl) ?_
          refine x0_get S hin hK hP rfl 9 (by decide) rfl (by decide +kernel) (v := .int (nI v)) rfl dX0_reduce_51 ?_
          exact hret (nI v) (f, g, v, d) 54 ls _ _ dX0_reduce_54 (rfl) hP hD hS (⟨by rw [hv], hinv, by rw [← hv]; exact hgi, hv, hd⟩)
        · refine lv_aload_n hx hb dX0_reduce_23 rfl (lv_at hl 0 rfl) ?_
          refine x0_get S hin hK hP rfl 9 (by decide) rfl (by decide +kernel) (v := .int (nI v)) rfl dX0_reduce_24 ?_
          refine lv_aload_n hx hb dX0_reduce_27 rfl (lv_at hl 0 rfl) ?_
          refine x0_get S hin hK hP rfl 1 (by decide) rfl (by decide +kernel) (v := .int (nI mR)) rfl dX0_reduce_28 ?_
          refine nv_icmp_ge (tgt := 45) hx hb dX0_reduce_31 (by decide) (by have h8 := (redN_ok (P := P) (m := mR) (q0 := (lm nC (G0 nC A0), 0, 1, fun _ => 0)) (by omega) (Nat.zero_le _) (fun i k => bn_G0 hP2 hAb i (lay nC k)) (show 1 < P by omega) i).1; omega) (by omega) (fun c_4 => ?_) (fun c_4 => ?_)
          · have e7 := redN_stop (P := P) (m := mR) (q0 := (lm nC (G0 nC A0), 0, 1, fun _ => 0)) (c := i) (by omega) (nC - i)
            rw [show i + (nC - i) = nC by omega] at e7
            rw [← e7] at hinv hgi hv hd
            refine lv_aload_n hx hb dX0_reduce_45 rfl (lv_at hl 0 rfl) ?_
            refine lv_iconst (v := nI 1) hx hb dX0_reduce_46 (by decide +kernel) ?_
            refine x0_put S hin hK hP hD hS rfl 8 (by decide) rfl (by decide +kernel) rfl (ty := .boolean) (v := .int (nI 1)) rfl rfl rfl (Nat.le_of_ble_eq_true rfl) dX0_reduce_47 (fun H locs hP hD hS => ?_)
            have hP : va_P D vwCl (pbW h a1 a2 a3 a4 cA (nI P) mR nC fA fB f g 1 v d) H := hP
            have hD : va_D A (pbW h a1 a2 a3 a4 cA (nI P) mR nC fA fB f g 1 v d) := hD
            refine lv_aload_n hx hb dX0_reduce_50 rfl (lv_at hl 0 rfl) ?_
            refine x0_get S hin hK hP rfl 9 (by decide) rfl (by decide +kernel) (v := .int (nI v)) rfl dX0_reduce_51 ?_
            exact hret (nI v) (f, g, v, d) 54 ls _ _ dX0_reduce_54 (rfl) hP hD hS (⟨by rw [hv], hinv, by rw [← hv]; exact hgi, hv, hd⟩)
          · refine lv_aload_n hx hb dX0_reduce_34 rfl (lv_at hl 0 rfl) ?_
            refine lv_iload_n hx hb dX0_reduce_35 rfl (lv_at hl 1 rfl) ?_
            have hok := redN_ok (P := P) (m := mR) (q0 := (lm nC (G0 nC A0), 0, 1, fun _ => 0)) (by omega) (Nat.zero_le _) (fun i k => bn_G0 hP2 hAb i (lay nC k)) (show 1 < P by omega) i
            obtain ⟨hok1, hok2, hok3⟩ := hok
            refine wrv_v S (c_X0_reduceColumn l D (pv := v) (pp := d) (G := (redN P mR (lm nC (G0 nC A0), 0, 1, fun _ => 0) i).1) (pc := (redN P mR (lm nC (G0 nC A0), 0, 1, fun _ => 0) i).2.2.2) i hP2 hPl hm hn c_3 (by omega) (by omega) hok2 hinv hgi) (cwV 1 hts gX0_reduce_X0_reduceColumn rfl rfl rfl (by decide +kernel) ⟨Nat.le_of_ble_eq_true rfl, Nat.le_of_ble_eq_true rfl⟩) rfl hK (ci := 0) rfl rfl hl.1 (rest := []) rfl (Nat.le_of_ble_eq_true rfl) dX0_reduce_36 ⟨Nat.zero_le _, Nat.zero_le _⟩ hP hD hS hA (fun u_5 H locs eu_5 hP hD hS => ?_)
            have hP : va_P D vwCl (pbW h a1 a2 a3 a4 cA (nI P) mR nC fA fB u_5.1 u_5.2.1 rd u_5.2.2.1 u_5.2.2.2) H := hP
            have hD : va_D A (pbW h a1 a2 a3 a4 cA (nI P) mR nC fA fB u_5.1 u_5.2.1 rd u_5.2.2.1 u_5.2.2.2) := hD
            obtain ⟨f2, g2, v2, d2⟩ := u_5
            obtain ⟨hr2, hg2, hv2, hd2⟩ := eu_5
            dsimp only at hr2 hg2 hv2 hd2
            have hP : va_P D vwCl (pbW h a1 a2 a3 a4 cA (nI P) mR nC fA fB f2 g2 rd v2 d2) H := hP
            have hD : va_D A (pbW h a1 a2 a3 a4 cA (nI P) mR nC fA fB f2 g2 rd v2 d2) := hD
            refine lv_iinc (v := nI (i + 1)) (lv' := [(1, .int (nI (i + 1))), (0, .ref h)]) hx hb dX0_reduce_39 hl (k := 1) rfl (nv_inc i 1) (by decide) rfl (fun ls hl => ?_)
            refine lv_goto (tgt := 15) hx hb dX0_reduce_42 (by decide) ?_
            have e7 : ((redN P mR (lm nC (G0 nC A0), 0, 1, fun _ => 0) i).1, v, d, (redN P mR (lm nC (G0 nC A0), 0, 1, fun _ => 0) i).2.2.2) = redN P mR (lm nC (G0 nC A0), 0, 1, fun _ => 0) i := by rw [hv, hd]
            rw [e7] at hr2 hg2 hv2 hd2
            exact ihL f2 g2 v2 d2 (i + 1) (by omega) hr2 (by rw [hv2]; exact hg2) hv2 hd2 (by omega) ls _ _ (lv_sub hl [1, 0] rfl) hP hD hS
    exact L (nC + 1) f0 g0 0 1 0 (by omega) hr0 (fun j hj => by rw [hg0 j hj]; rfl) rfl rfl (by omega) ls _ _ (lv_sub hl [1, 0] rfl) hP hD hS
  · exact absurd hm0 (by omega)
end
section
set_option maxHeartbeats 4000000 in
set_option maxRecDepth 100000 in
theorem c_X0_get (l : Launch) (D : va_G) {h a1 a2 a3 a4 : Nat} {cA : ClassId} {mR nC : Nat} {fA fB fW fP : Nat → Int32} {rd pv pp : Nat} {pr : Int32} {A0 : Mat} (i j : Int32) (hm : mR ≤ 10) (hn : nC ≤ 10) (hA0 : Rp nC mR fA A0) : RdI l yX0_get wsX0_get ({ frames := 1, cells := 0, slots := 0, locals := 21 }) [.ref h, .int i, .int j] D (pbW h a1 a2 a3 a4 cA pr mR nC fA fB fW fP rd pv pp) [(cA, .int)] (fun r => r = sGet mR nC A0 i j) := by
  refine RdI.mk (cc := cX0_get) (maxL := 3) (rt := .int) (by decide) rfl (Nat.le_of_ble_eq_true rfl) ?_
  intro p e s mm args below meth c Q ls A S hK hP hA hS hl hret
  have hx := S.1
  have hb := S.2.1
  have hts := S.2.2.2.2
  have hown := S.2.2.2.1
  have hin : ∀ w ∈ wsX00, w ∈ wsX0_get := fun w h => List.mem_cons_of_mem _ (List.mem_append_right _ h)
  have hl : lv_has ls 3 [(0, .ref h), (1, .int i), (2, .int j)] := hl
  refine lv_aload_n hx hb dX0_get_0 rfl (lv_at hl 0 rfl) ?_
  refine lv_iload_n hx hb dX0_get_1 rfl (lv_at hl 1 rfl) ?_
  refine rdv_i S (c_X0_isRow l D i hm) (cwV 1 hts gX0_get_X0_isRow rfl rfl rfl (by decide +kernel) ⟨Nat.le_of_ble_eq_true rfl, Nat.le_of_ble_eq_true rfl⟩) rfl hK hP (ci := 0) rfl rfl hl.1 (rest := []) rfl (Nat.le_of_ble_eq_true rfl) dX0_get_2 ⟨Nat.zero_le _, Nat.zero_le _⟩ hP hS hA (fun r_1 H locs er_1 hP hS => ?_)
  rcases er_1 with ⟨k1, hk1, rfl, rfl⟩ | ⟨nok1, rfl⟩
  · refine nv_if_eq (tgt := 16) hx hb dX0_get_5 (by decide) (by decide) (fun q => absurd q (by decide)) (fun _ => ?_)
    refine lv_aload_n hx hb dX0_get_8 rfl (lv_at hl 0 rfl) ?_
    refine lv_iload_n hx hb dX0_get_9 rfl (lv_at hl 2 rfl) ?_
    refine rdv_i S (c_X0_isColumn l D j hn) (cwV 1 hts gX0_get_X0_isColumn rfl rfl rfl (by decide +kernel) ⟨Nat.le_of_ble_eq_true rfl, Nat.le_of_ble_eq_true rfl⟩) rfl hK hP (ci := 0) rfl rfl hl.1 (rest := []) rfl (Nat.le_of_ble_eq_true rfl) dX0_get_10 ⟨Nat.zero_le _, Nat.zero_le _⟩ hP hS hA (fun r_3 H locs er_3 hP hS => ?_)
    rcases er_3 with ⟨k2, hk2, rfl, rfl⟩ | ⟨nok2, rfl⟩
    · refine nv_if_ne (tgt := 18) hx hb dX0_get_13 (by decide) (by decide) (fun _ => ?_) (fun q => absurd q (by decide))
      refine lv_aload_n hx hb dX0_get_18 rfl (lv_at hl 0 rfl) ?_
      refine x0_get S hin hK hP rfl 3 (by decide) rfl (by decide +kernel) (v := .ref a1) rfl dX0_get_19 ?_
      refine lv_iload_n hx hb dX0_get_22 rfl (lv_at hl 1 rfl) ?_
      refine lv_aload_n hx hb dX0_get_23 rfl (lv_at hl 0 rfl) ?_
      refine x0_get S hin hK hP rfl 2 (by decide) rfl (by decide +kernel) (v := .int (nI nC)) rfl dX0_get_24 ?_
      refine nv_imul hx hb dX0_get_27 ?_
      refine lv_iload_n hx hb dX0_get_28 rfl (lv_at hl 2 rfl) ?_
      refine nv_iadd hx hb dX0_get_29 ?_
      refine nv_iald hx hb hK hP 1 0 rfl rfl (v := nI (A0 k1 k2)) (ix_lt hk1 hk2) (bd1 hm hn) (hA0 k1 hk1 k2 hk2) dX0_get_30 ?_
      exact hret (nI (A0 k1 k2)) 31 ls _ _ dX0_get_31 (rfl) hS (by simp [sGet, inb_t hk1 (show mR < 2 ^ 31 by omega), ix_n (show k1 < 2 ^ 31 by omega), inb_t hk2 (show nC < 2 ^ 31 by omega), ix_n (show k2 < 2 ^ 31 by omega)])
    · refine nv_if_ne (tgt := 18) hx hb dX0_get_13 (by decide) (by decide) (fun q => absurd q (by decide)) (fun _ => ?_)
      refine lv_iconst (v := (-1)) hx hb dX0_get_16 (by decide +kernel) ?_
      exact hret ((-1)) 17 ls _ _ dX0_get_17 (rfl) hS (by simp [sGet, inb_f nok2 (show nC < 2 ^ 31 by omega)])
  · refine nv_if_eq (tgt := 16) hx hb dX0_get_5 (by decide) (by decide) (fun _ => ?_) (fun q => absurd q (by decide))
    refine lv_iconst (v := (-1)) hx hb dX0_get_16 (by decide +kernel) ?_
    exact hret ((-1)) 17 ls _ _ dX0_get_17 (rfl) hS (by simp [sGet, inb_f nok1 (show mR < 2 ^ 31 by omega)])
set_option maxHeartbeats 4000000 in
set_option maxRecDepth 100000 in
theorem c_X0_set (l : Launch) (D : va_G) {h a1 a2 a3 a4 : Nat} {cA : ClassId} {mR nC : Nat} {fA fB fW fP : Nat → Int32} {rd pv pp : Nat} {pr : Int32} {P : Nat} {A0 : Mat} (i j x : Int32) (hm : mR ≤ 10) (hn : nC ≤ 10) (hV : 0 < mR → pr = nI P ∧ 2 ≤ P ∧ P < 2 ^ 31) (hA0 : Rp nC mR fA A0) : WrI (U := (Nat → Int32) × Nat) l yX0_set wsX0_set ({ frames := 1, cells := 0, slots := 0, locals := 21 }) [.ref h, .int i, .int j, .int x] D (pbW h a1 a2 a3 a4 cA pr mR nC fA fB fW fP rd pv pp) [(cA, .int)] (fun r u => (okSet mR nC i j x ∧ r = nI 1 ∧ Rp nC mR u.1 (mu A0 (ix i) (ix j) (ix x % P)) ∧ u.2 = 0) ∨ (¬ okSet mR nC i j x ∧ r = nI 0 ∧ u = (fA, rd))) (fun u => pbW h a1 a2 a3 a4 cA pr mR nC u.1 fB fW fP u.2 pv pp) := by
  refine WrI.mk (cc := cX0_set) (maxL := 4) (rt := .boolean) (by decide) rfl (Nat.le_of_ble_eq_true rfl) ?_
  intro p e s mm args below meth c Q ls A S hK hP hD hA hS hl hret
  have hx := S.1
  have hb := S.2.1
  have hts := S.2.2.2.2
  have hown := S.2.2.2.1
  have hin : ∀ w ∈ wsX00, w ∈ wsX0_set := fun w h => List.mem_cons_of_mem _ (List.mem_append_right _ h)
  have hl : lv_has ls 4 [(0, .ref h), (1, .int i), (2, .int j), (3, .int x)] := hl
  refine lv_aload_n hx hb dX0_set_0 rfl (lv_at hl 0 rfl) ?_
  refine lv_iload_n hx hb dX0_set_1 rfl (lv_at hl 1 rfl) ?_
  refine rdv_i S (c_X0_isRow l D i hm) (cwV 1 hts gX0_set_X0_isRow rfl rfl rfl (by decide +kernel) ⟨Nat.le_of_ble_eq_true rfl, Nat.le_of_ble_eq_true rfl⟩) rfl hK hP (ci := 0) rfl rfl hl.1 (rest := []) rfl (Nat.le_of_ble_eq_true rfl) dX0_set_2 ⟨Nat.zero_le _, Nat.zero_le _⟩ hP hS hA (fun r_1 H locs er_1 hP hS => ?_)
  rcases er_1 with ⟨k1, hk1, rfl, rfl⟩ | ⟨nok1, rfl⟩
  · refine nv_if_eq (tgt := 20) hx hb dX0_set_5 (by decide) (by decide) (fun q => absurd q (by decide)) (fun _ => ?_)
    refine lv_aload_n hx hb dX0_set_8 rfl (lv_at hl 0 rfl) ?_
    refine lv_iload_n hx hb dX0_set_9 rfl (lv_at hl 2 rfl) ?_
    refine rdv_i S (c_X0_isColumn l D j hn) (cwV 1 hts gX0_set_X0_isColumn rfl rfl rfl (by decide +kernel) ⟨Nat.le_of_ble_eq_true rfl, Nat.le_of_ble_eq_true rfl⟩) rfl hK hP (ci := 0) rfl rfl hl.1 (rest := []) rfl (Nat.le_of_ble_eq_true rfl) dX0_set_10 ⟨Nat.zero_le _, Nat.zero_le _⟩ hP hS hA (fun r_3 H locs er_3 hP hS => ?_)
    rcases er_3 with ⟨k2, hk2, rfl, rfl⟩ | ⟨nok2, rfl⟩
    · refine nv_if_eq (tgt := 20) hx hb dX0_set_13 (by decide) (by decide) (fun q => absurd q (by decide)) (fun _ => ?_)
      refine lv_iload_n hx hb dX0_set_16 rfl (lv_at hl 3 rfl) ?_
      refine lv_if_ge (tgt := 22) hx hb dX0_set_17 (by decide) (fun c_5 => ?_) (fun c_5 => ?_)
      · obtain ⟨xv, hxv, rfl⟩ := nn_of c_5
        obtain ⟨rfl, hP2, hPl⟩ := hV (by omega)
        refine lv_aload_n hx hb dX0_set_22 rfl (lv_at hl 0 rfl) ?_
        refine x0_get S hin hK hP rfl 3 (by decide) rfl (by decide +kernel) (v := .ref a1) rfl dX0_set_23 ?_
        refine lv_iload_n hx hb dX0_set_26 rfl (lv_at hl 1 rfl) ?_
        refine lv_aload_n hx hb dX0_set_27 rfl (lv_at hl 0 rfl) ?_
        refine x0_get S hin hK hP rfl 2 (by decide) rfl (by decide +kernel) (v := .int (nI nC)) rfl dX0_set_28 ?_
        refine nv_imul hx hb dX0_set_31 ?_
        refine lv_iload_n hx hb dX0_set_32 rfl (lv_at hl 2 rfl) ?_
        refine nv_iadd hx hb dX0_set_33 ?_
        refine lv_iload_n hx hb dX0_set_34 rfl (lv_at hl 3 rfl) ?_
        refine lv_aload_n hx hb dX0_set_35 rfl (lv_at hl 0 rfl) ?_
        refine x0_get S hin hK hP rfl 0 (by decide) rfl (by decide +kernel) (v := .int (nI P)) rfl dX0_set_36 ?_
        refine nv_irem hx hb (by omega) (by omega) (by omega) dX0_set_39 ?_
        refine nv_iast hx hb hK hP hD hS 1 0 rfl rfl (ix_lt hk1 hk2) (bd1 hm hn) dX0_set_40 (fun H locs hP hD hS => ?_)
        have hP : va_P D vwCl (pbW h a1 a2 a3 a4 cA (nI P) mR nC (upd fA ((k1 * nC) + k2) (nI (xv % P))) fB fW fP rd pv pp) H := hP
        have hD : va_D A (pbW h a1 a2 a3 a4 cA (nI P) mR nC (upd fA ((k1 * nC) + k2) (nI (xv % P))) fB fW fP rd pv pp) := hD
        refine lv_aload_n hx hb dX0_set_41 rfl (lv_at hl 0 rfl) ?_
        refine lv_iconst (v := nI 0) hx hb dX0_set_42 (by decide +kernel) ?_
        refine x0_put S hin hK hP hD hS rfl 8 (by decide) rfl (by decide +kernel) rfl (ty := .boolean) (v := .int (nI 0)) rfl (by decide +kernel) rfl (Nat.le_of_ble_eq_true rfl) dX0_set_43 (fun H locs hP hD hS => ?_)
        have hP : va_P D vwCl (pbW h a1 a2 a3 a4 cA (nI P) mR nC (upd fA ((k1 * nC) + k2) (nI (xv % P))) fB fW fP 0 pv pp) H := hP
        have hD : va_D A (pbW h a1 a2 a3 a4 cA (nI P) mR nC (upd fA ((k1 * nC) + k2) (nI (xv % P))) fB fW fP 0 pv pp) := hD
        refine lv_iconst (v := nI 1) hx hb dX0_set_46 (by decide +kernel) ?_
        exact hret (nI 1) (upd fA ((k1 * nC) + k2) (nI (xv % P)), 0) 47 ls _ _ dX0_set_47 (by decide +kernel) hP hD hS (by
            refine Or.inl ⟨⟨inb_t hk1 (by omega), inb_t hk2 (by omega), nn_t hxv⟩, rfl, ?_, rfl⟩
            rw [ix_n (show k1 < 2 ^ 31 by omega), ix_n (show k2 < 2 ^ 31 by omega), ix_n hxv]
            exact hA0.up hk2)
      · refine lv_iconst (v := nI 0) hx hb dX0_set_20 (by decide +kernel) ?_
        exact hret (nI 0) (fA, rd) 21 ls _ _ dX0_set_21 (by decide +kernel) hP hD hS (Or.inr ⟨by simp [okSet, nn_f c_5], rfl, rfl⟩)
    · refine nv_if_eq (tgt := 20) hx hb dX0_set_13 (by decide) (by decide) (fun _ => ?_) (fun q => absurd q (by decide))
      refine lv_iconst (v := nI 0) hx hb dX0_set_20 (by decide +kernel) ?_
      exact hret (nI 0) (fA, rd) 21 ls _ _ dX0_set_21 (by decide +kernel) hP hD hS (Or.inr ⟨by simp [okSet, inb_f nok2 (show nC < 2 ^ 31 by omega)], rfl, rfl⟩)
  · refine nv_if_eq (tgt := 20) hx hb dX0_set_5 (by decide) (by decide) (fun _ => ?_) (fun q => absurd q (by decide))
    refine lv_iconst (v := nI 0) hx hb dX0_set_20 (by decide +kernel) ?_
    exact hret (nI 0) (fA, rd) 21 ls _ _ dX0_set_21 (by decide +kernel) hP hD hS (Or.inr ⟨by simp [okSet, inb_f nok1 (show mR < 2 ^ 31 by omega)], rfl, rfl⟩)
set_option maxHeartbeats 4000000 in
set_option maxRecDepth 100000 in
theorem c_X0_setRhs (l : Launch) (D : va_G) {h a1 a2 a3 a4 : Nat} {cA : ClassId} {mR nC : Nat} {fA fB fW fP : Nat → Int32} {rd pv pp : Nat} {pr : Int32} {P : Nat} {b : Nat → Nat} (i x : Int32) (hm : mR ≤ 10) (hn : nC ≤ 10) (hV : 0 < mR → pr = nI P ∧ 2 ≤ P ∧ P < 2 ^ 31) (hb1 : ∀ a, a < mR → fB a = nI (b a)) : WrI (U := Nat → Int32) l yX0_setRhs wsX0_setRhs ({ frames := 1, cells := 0, slots := 0, locals := 21 }) [.ref h, .int i, .int x] D (pbW h a1 a2 a3 a4 cA pr mR nC fA fB fW fP rd pv pp) [(cA, .int)] (fun r u => (okRhs mR i x ∧ r = nI 1 ∧ ∀ a, a < mR → u a = nI (nb b (ix i) (ix x % P) a)) ∨ (¬ okRhs mR i x ∧ r = nI 0 ∧ u = fB)) (fun u => pbW h a1 a2 a3 a4 cA pr mR nC fA u fW fP rd pv pp) := by
  refine WrI.mk (cc := cX0_setRhs) (maxL := 3) (rt := .boolean) (by decide) rfl (Nat.le_of_ble_eq_true rfl) ?_
  intro p e s mm args below meth c Q ls A S hK hP hD hA hS hl hret
  have hx := S.1
  have hb := S.2.1
  have hts := S.2.2.2.2
  have hown := S.2.2.2.1
  have hin : ∀ w ∈ wsX00, w ∈ wsX0_setRhs := fun w h => List.mem_cons_of_mem _ (List.mem_append_right _ h)
  have hl : lv_has ls 3 [(0, .ref h), (1, .int i), (2, .int x)] := hl
  refine lv_aload_n hx hb dX0_setRhs_0 rfl (lv_at hl 0 rfl) ?_
  refine lv_iload_n hx hb dX0_setRhs_1 rfl (lv_at hl 1 rfl) ?_
  refine rdv_i S (c_X0_isRow l D i hm) (cwV 1 hts gX0_setRhs_X0_isRow rfl rfl rfl (by decide +kernel) ⟨Nat.le_of_ble_eq_true rfl, Nat.le_of_ble_eq_true rfl⟩) rfl hK hP (ci := 0) rfl rfl hl.1 (rest := []) rfl (Nat.le_of_ble_eq_true rfl) dX0_setRhs_2 ⟨Nat.zero_le _, Nat.zero_le _⟩ hP hS hA (fun r_1 H locs er_1 hP hS => ?_)
  rcases er_1 with ⟨k1, hk1, rfl, rfl⟩ | ⟨nok1, rfl⟩
  · refine nv_if_eq (tgt := 12) hx hb dX0_setRhs_5 (by decide) (by decide) (fun q => absurd q (by decide)) (fun _ => ?_)
    refine lv_iload_n hx hb dX0_setRhs_8 rfl (lv_at hl 2 rfl) ?_
    refine lv_if_ge (tgt := 14) hx hb dX0_setRhs_9 (by decide) (fun c_3 => ?_) (fun c_3 => ?_)
    · obtain ⟨xv, hxv, rfl⟩ := nn_of c_3
      obtain ⟨rfl, hP2, hPl⟩ := hV (by omega)
      refine lv_aload_n hx hb dX0_setRhs_14 rfl (lv_at hl 0 rfl) ?_
      refine x0_get S hin hK hP rfl 4 (by decide) rfl (by decide +kernel) (v := .ref a2) rfl dX0_setRhs_15 ?_
      refine lv_iload_n hx hb dX0_setRhs_18 rfl (lv_at hl 1 rfl) ?_
      refine lv_iload_n hx hb dX0_setRhs_19 rfl (lv_at hl 2 rfl) ?_
      refine lv_aload_n hx hb dX0_setRhs_20 rfl (lv_at hl 0 rfl) ?_
      refine x0_get S hin hK hP rfl 0 (by decide) rfl (by decide +kernel) (v := .int (nI P)) rfl dX0_setRhs_21 ?_
      refine nv_irem hx hb (by omega) (by omega) (by omega) dX0_setRhs_24 ?_
      refine nv_iast hx hb hK hP hD hS 2 0 rfl rfl hk1 (by omega) dX0_setRhs_25 (fun H locs hP hD hS => ?_)
      have hP : va_P D vwCl (pbW h a1 a2 a3 a4 cA (nI P) mR nC fA (upd fB k1 (nI (xv % P))) fW fP rd pv pp) H := hP
      have hD : va_D A (pbW h a1 a2 a3 a4 cA (nI P) mR nC fA (upd fB k1 (nI (xv % P))) fW fP rd pv pp) := hD
      refine lv_iconst (v := nI 1) hx hb dX0_setRhs_26 (by decide +kernel) ?_
      exact hret (nI 1) (upd fB k1 (nI (xv % P))) 27 ls _ _ dX0_setRhs_27 (by decide +kernel) hP hD hS (by
          refine Or.inl ⟨⟨inb_t hk1 (by omega), nn_t hxv⟩, rfl, ?_⟩
          rw [ix_n (show k1 < 2 ^ 31 by omega), ix_n hxv]
          intro a ha
          unfold upd nb
          split
          · rfl
          · exact hb1 a ha)
    · refine lv_iconst (v := nI 0) hx hb dX0_setRhs_12 (by decide +kernel) ?_
      exact hret (nI 0) fB 13 ls _ _ dX0_setRhs_13 (by decide +kernel) hP hD hS (Or.inr ⟨by simp [okRhs, nn_f c_3], rfl, rfl⟩)
  · refine nv_if_eq (tgt := 12) hx hb dX0_setRhs_5 (by decide) (by decide) (fun _ => ?_) (fun q => absurd q (by decide))
    refine lv_iconst (v := nI 0) hx hb dX0_setRhs_12 (by decide +kernel) ?_
    exact hret (nI 0) fB 13 ls _ _ dX0_setRhs_13 (by decide +kernel) hP hD hS (Or.inr ⟨by simp [okRhs, inb_f nok1 (show mR < 2 ^ 31 by omega)], rfl, rfl⟩)
set_option maxHeartbeats 4000000 in
set_option maxRecDepth 100000 in
theorem c_X0_reduce0 (l : Launch) (D : va_G) {h a1 a2 a3 a4 : Nat} {cA : ClassId} {mR nC : Nat} {fA fB fW fP : Nat → Int32} {rd pv pp : Nat} {pr : Int32} (hm0 : mR = 0) : WrI (U := Unit) l yX0_reduce wsX0_reduce ({ frames := 0, cells := 0, slots := 0, locals := 0 }) [.ref h] D (pbW h a1 a2 a3 a4 cA pr mR nC fA fB fW fP rd pv pp) [(cA, .int)] (fun r _ => r = -1) (fun _ => pbW h a1 a2 a3 a4 cA pr mR nC fA fB fW fP rd pv pp) := by
  refine WrI.mk (cc := cX0_reduce) (maxL := 2) (rt := .int) (by decide) rfl (Nat.le_of_ble_eq_true rfl) ?_
  intro p e s mm args below meth c Q ls A S hK hP hD hA hS hl hret
  have hx := S.1
  have hb := S.2.1
  have hts := S.2.2.2.2
  have hown := S.2.2.2.1
  have hin : ∀ w ∈ wsX00, w ∈ wsX0_reduce := fun w h => List.mem_cons_of_mem _ (List.mem_append_right _ h)
  have hl : lv_has ls 2 [(0, .ref h)] := hl
  refine lv_aload_n hx hb dX0_reduce_0 rfl (lv_at hl 0 rfl) ?_
  refine x0_get S hin hK hP rfl 1 (by decide) rfl (by decide +kernel) (v := .int (nI mR)) rfl dX0_reduce_1 ?_
  refine nv_if_ne (tgt := 9) hx hb dX0_reduce_4 (by decide) (by omega) (fun c_1 => ?_) (fun c_1 => ?_)
  · exact absurd hm0 (by omega)
  · refine lv_iconst (v := (-1)) hx hb dX0_reduce_7 (by decide +kernel) ?_
    exact hret ((-1)) () 8 ls _ _ dX0_reduce_8 (rfl) hP hD hS (rfl)
set_option maxHeartbeats 4000000 in
set_option maxRecDepth 100000 in
theorem c_X0_rank (l : Launch) (D : va_G) {h a1 a2 a3 a4 : Nat} {cA : ClassId} {mR nC : Nat} {fA fB fW fP : Nat → Int32} {rd pv pp : Nat} {pr : Int32} (hrd : rd < 2) : RdI l yX0_rank wsX0_rank ({ frames := 0, cells := 0, slots := 0, locals := 0 }) [.ref h] D (pbW h a1 a2 a3 a4 cA pr mR nC fA fB fW fP rd pv pp) [(cA, .int)] (fun r => r = sRank rd pv) := by
  refine RdI.mk (cc := cX0_rank) (maxL := 1) (rt := .int) (by decide) rfl (Nat.le_of_ble_eq_true rfl) ?_
  intro p e s mm args below meth c Q ls A S hK hP hA hS hl hret
  have hx := S.1
  have hb := S.2.1
  have hts := S.2.2.2.2
  have hown := S.2.2.2.1
  have hin : ∀ w ∈ wsX00, w ∈ wsX0_rank := fun w h => List.mem_cons_of_mem _ (List.mem_append_right _ h)
  have hl : lv_has ls 1 [(0, .ref h)] := hl
  refine lv_aload_n hx hb dX0_rank_0 rfl (lv_at hl 0 rfl) ?_
  refine x0_get S hin hK hP rfl 8 (by decide) rfl (by decide +kernel) (v := .int (nI rd)) rfl dX0_rank_1 ?_
  refine nv_if_eq (tgt := 14) hx hb dX0_rank_4 (by decide) (by omega) (fun c_1 => ?_) (fun c_1 => ?_)
  · refine lv_iconst (v := (-1)) hx hb dX0_rank_14 (by decide +kernel) ?_
    exact hret ((-1)) 15 ls _ _ dX0_rank_15 (rfl) hS (by simp [sRank, show rd = 0 by omega])
  · refine lv_aload_n hx hb dX0_rank_7 rfl (lv_at hl 0 rfl) ?_
    refine x0_get S hin hK hP rfl 9 (by decide) rfl (by decide +kernel) (v := .int (nI pv)) rfl dX0_rank_8 ?_
    refine lv_goto (tgt := 15) hx hb dX0_rank_11 (by decide) ?_
    exact hret (nI pv) 15 ls _ _ dX0_rank_15 (rfl) hS (by simp [sRank, show ¬ rd = 0 by omega])
set_option maxHeartbeats 4000000 in
set_option maxRecDepth 100000 in
theorem c_X0_rrefAt (l : Launch) (D : va_G) {h a1 a2 a3 a4 : Nat} {cA : ClassId} {mR nC : Nat} {fA fB fW fP : Nat → Int32} {rd pv pp : Nat} {pr : Int32} {P : Nat} {M : Mat} {po : Nat → Option Nat} (i j : Int32) (hm : mR ≤ 10) (hn : nC ≤ 10) (hV : 0 < mR → pr = nI P ∧ 2 ≤ P ∧ P < 2 ^ 31) (hrd : rd < 2) (hQ : rd ≠ 0 → 0 < mR ∧ PbQ P mR nC fW fP pv pp M po) : RdI l yX0_rrefAt wsX0_rrefAt ({ frames := 1, cells := 0, slots := 0, locals := 21 }) [.ref h, .int i, .int j] D (pbW h a1 a2 a3 a4 cA pr mR nC fA fB fW fP rd pv pp) [(cA, .int)] (fun r => r = sRref rd mR nC M i j) := by
  refine RdI.mk (cc := cX0_rrefAt) (maxL := 3) (rt := .int) (by decide) rfl (Nat.le_of_ble_eq_true rfl) ?_
  intro p e s mm args below meth c Q ls A S hK hP hA hS hl hret
  have hx := S.1
  have hb := S.2.1
  have hts := S.2.2.2.2
  have hown := S.2.2.2.1
  have hin : ∀ w ∈ wsX00, w ∈ wsX0_rrefAt := fun w h => List.mem_cons_of_mem _ (List.mem_append_right _ h)
  have hl : lv_has ls 3 [(0, .ref h), (1, .int i), (2, .int j)] := hl
  refine lv_aload_n hx hb dX0_rrefAt_0 rfl (lv_at hl 0 rfl) ?_
  refine x0_get S hin hK hP rfl 8 (by decide) rfl (by decide +kernel) (v := .int (nI rd)) rfl dX0_rrefAt_1 ?_
  refine nv_if_eq (tgt := 23) hx hb dX0_rrefAt_4 (by decide) (by omega) (fun c_1 => ?_) (fun c_1 => ?_)
  · refine lv_iconst (v := (-1)) hx hb dX0_rrefAt_23 (by decide +kernel) ?_
    exact hret ((-1)) 24 ls _ _ dX0_rrefAt_24 (rfl) hS (by simp [sRref, c_1])
  · have hrd0 : rd ≠ 0 := by omega
    obtain ⟨hm0, hM, hB, hfP, hpo, hpv, hpn, hpp⟩ := hQ hrd0
    obtain ⟨rfl, hP2, hPl⟩ := hV hm0
    refine lv_aload_n hx hb dX0_rrefAt_7 rfl (lv_at hl 0 rfl) ?_
    refine lv_iload_n hx hb dX0_rrefAt_8 rfl (lv_at hl 1 rfl) ?_
    refine rdv_i S (c_X0_isRow l D i hm) (cwV 1 hts gX0_rrefAt_X0_isRow rfl rfl rfl (by decide +kernel) ⟨Nat.le_of_ble_eq_true rfl, Nat.le_of_ble_eq_true rfl⟩) rfl hK hP (ci := 0) rfl rfl hl.1 (rest := []) rfl (Nat.le_of_ble_eq_true rfl) dX0_rrefAt_9 ⟨Nat.zero_le _, Nat.zero_le _⟩ hP hS hA (fun r_2 H locs er_2 hP hS => ?_)
    rcases er_2 with ⟨k1, hk1, rfl, rfl⟩ | ⟨nok1, rfl⟩
    · refine nv_if_eq (tgt := 23) hx hb dX0_rrefAt_12 (by decide) (by decide) (fun q => absurd q (by decide)) (fun _ => ?_)
      refine lv_aload_n hx hb dX0_rrefAt_15 rfl (lv_at hl 0 rfl) ?_
      refine lv_iload_n hx hb dX0_rrefAt_16 rfl (lv_at hl 2 rfl) ?_
      refine rdv_i S (c_X0_isColumn l D j hn) (cwV 1 hts gX0_rrefAt_X0_isColumn rfl rfl rfl (by decide +kernel) ⟨Nat.le_of_ble_eq_true rfl, Nat.le_of_ble_eq_true rfl⟩) rfl hK hP (ci := 0) rfl rfl hl.1 (rest := []) rfl (Nat.le_of_ble_eq_true rfl) dX0_rrefAt_17 ⟨Nat.zero_le _, Nat.zero_le _⟩ hP hS hA (fun r_4 H locs er_4 hP hS => ?_)
      rcases er_4 with ⟨k2, hk2, rfl, rfl⟩ | ⟨nok2, rfl⟩
      · refine nv_if_ne (tgt := 25) hx hb dX0_rrefAt_20 (by decide) (by decide) (fun _ => ?_) (fun q => absurd q (by decide))
        refine lv_aload_n hx hb dX0_rrefAt_25 rfl (lv_at hl 0 rfl) ?_
        refine x0_get S hin hK hP rfl 5 (by decide) rfl (by decide +kernel) (v := .ref a3) rfl dX0_rrefAt_26 ?_
        refine lv_iload_n hx hb dX0_rrefAt_29 rfl (lv_at hl 1 rfl) ?_
        refine lv_aload_n hx hb dX0_rrefAt_30 rfl (lv_at hl 0 rfl) ?_
        refine x0_get S hin hK hP rfl 6 (by decide) rfl (by decide +kernel) (v := .int (nI (nC + mR))) rfl dX0_rrefAt_31 ?_
        refine nv_imul hx hb dX0_rrefAt_34 ?_
        refine lv_iload_n hx hb dX0_rrefAt_35 rfl (lv_at hl 2 rfl) ?_
        refine nv_iadd hx hb dX0_rrefAt_36 ?_
        refine nv_iald hx hb hK hP 3 0 rfl rfl (v := nI (M k1 k2)) (ix_lt hk1 (by omega)) (bd3 hm hn) (by rw [hM k1 hk1 k2 (by omega), lm_lt hk2]) dX0_rrefAt_37 ?_
        exact hret (nI (M k1 k2)) 38 ls _ _ dX0_rrefAt_38 (rfl) hS (by simp [sRref, hrd0, inb_t hk1 (show mR < 2 ^ 31 by omega), ix_n (show k1 < 2 ^ 31 by omega), inb_t hk2 (show nC < 2 ^ 31 by omega), ix_n (show k2 < 2 ^ 31 by omega)])
      · refine nv_if_ne (tgt := 25) hx hb dX0_rrefAt_20 (by decide) (by decide) (fun q => absurd q (by decide)) (fun _ => ?_)
        refine lv_iconst (v := (-1)) hx hb dX0_rrefAt_23 (by decide +kernel) ?_
        exact hret ((-1)) 24 ls _ _ dX0_rrefAt_24 (rfl) hS (by simp [sRref, inb_f nok2 (show nC < 2 ^ 31 by omega)])
    · refine nv_if_eq (tgt := 23) hx hb dX0_rrefAt_12 (by decide) (by decide) (fun _ => ?_) (fun q => absurd q (by decide))
      refine lv_iconst (v := (-1)) hx hb dX0_rrefAt_23 (by decide +kernel) ?_
      exact hret ((-1)) 24 ls _ _ dX0_rrefAt_24 (rfl) hS (by simp [sRref, inb_f nok1 (show mR < 2 ^ 31 by omega)])
set_option maxHeartbeats 4000000 in
set_option maxRecDepth 100000 in
theorem c_X0_transformAt (l : Launch) (D : va_G) {h a1 a2 a3 a4 : Nat} {cA : ClassId} {mR nC : Nat} {fA fB fW fP : Nat → Int32} {rd pv pp : Nat} {pr : Int32} {P : Nat} {M : Mat} {po : Nat → Option Nat} (i j : Int32) (hm : mR ≤ 10) (hn : nC ≤ 10) (hV : 0 < mR → pr = nI P ∧ 2 ≤ P ∧ P < 2 ^ 31) (hrd : rd < 2) (hQ : rd ≠ 0 → 0 < mR ∧ PbQ P mR nC fW fP pv pp M po) : RdI l yX0_transformAt wsX0_transformAt ({ frames := 1, cells := 0, slots := 0, locals := 22 }) [.ref h, .int i, .int j] D (pbW h a1 a2 a3 a4 cA pr mR nC fA fB fW fP rd pv pp) [(cA, .int)] (fun r => r = sTr rd mR M i j) := by
  refine RdI.mk (cc := cX0_transformAt) (maxL := 3) (rt := .int) (by decide) rfl (Nat.le_of_ble_eq_true rfl) ?_
  intro p e s mm args below meth c Q ls A S hK hP hA hS hl hret
  have hx := S.1
  have hb := S.2.1
  have hts := S.2.2.2.2
  have hown := S.2.2.2.1
  have hin : ∀ w ∈ wsX00, w ∈ wsX0_transformAt := fun w h => List.mem_cons_of_mem _ (List.mem_append_right _ h)
  have hl : lv_has ls 3 [(0, .ref h), (1, .int i), (2, .int j)] := hl
  refine lv_aload_n hx hb dX0_transformAt_0 rfl (lv_at hl 0 rfl) ?_
  refine x0_get S hin hK hP rfl 8 (by decide) rfl (by decide +kernel) (v := .int (nI rd)) rfl dX0_transformAt_1 ?_
  refine nv_if_eq (tgt := 23) hx hb dX0_transformAt_4 (by decide) (by omega) (fun c_1 => ?_) (fun c_1 => ?_)
  · refine lv_iconst (v := (-1)) hx hb dX0_transformAt_23 (by decide +kernel) ?_
    exact hret ((-1)) 24 ls _ _ dX0_transformAt_24 (rfl) hS (by simp [sTr, c_1])
  · have hrd0 : rd ≠ 0 := by omega
    obtain ⟨hm0, hM, hB, hfP, hpo, hpv, hpn, hpp⟩ := hQ hrd0
    obtain ⟨rfl, hP2, hPl⟩ := hV hm0
    refine lv_aload_n hx hb dX0_transformAt_7 rfl (lv_at hl 0 rfl) ?_
    refine lv_iload_n hx hb dX0_transformAt_8 rfl (lv_at hl 1 rfl) ?_
    refine rdv_i S (c_X0_isRow l D i hm) (cwV 1 hts gX0_transformAt_X0_isRow rfl rfl rfl (by decide +kernel) ⟨Nat.le_of_ble_eq_true rfl, Nat.le_of_ble_eq_true rfl⟩) rfl hK hP (ci := 0) rfl rfl hl.1 (rest := []) rfl (Nat.le_of_ble_eq_true rfl) dX0_transformAt_9 ⟨Nat.zero_le _, Nat.zero_le _⟩ hP hS hA (fun r_2 H locs er_2 hP hS => ?_)
    rcases er_2 with ⟨k1, hk1, rfl, rfl⟩ | ⟨nok1, rfl⟩
    · refine nv_if_eq (tgt := 23) hx hb dX0_transformAt_12 (by decide) (by decide) (fun q => absurd q (by decide)) (fun _ => ?_)
      refine lv_aload_n hx hb dX0_transformAt_15 rfl (lv_at hl 0 rfl) ?_
      refine lv_iload_n hx hb dX0_transformAt_16 rfl (lv_at hl 2 rfl) ?_
      refine rdv_i S (c_X0_isRow l D j hm) (cwV 1 hts gX0_transformAt_X0_isRow rfl rfl rfl (by decide +kernel) ⟨Nat.le_of_ble_eq_true rfl, Nat.le_of_ble_eq_true rfl⟩) rfl hK hP (ci := 0) rfl rfl hl.1 (rest := []) rfl (Nat.le_of_ble_eq_true rfl) dX0_transformAt_17 ⟨Nat.zero_le _, Nat.zero_le _⟩ hP hS hA (fun r_4 H locs er_4 hP hS => ?_)
      rcases er_4 with ⟨k2, hk2, rfl, rfl⟩ | ⟨nok2, rfl⟩
      · refine nv_if_ne (tgt := 25) hx hb dX0_transformAt_20 (by decide) (by decide) (fun _ => ?_) (fun q => absurd q (by decide))
        refine lv_aload_n hx hb dX0_transformAt_25 rfl (lv_at hl 0 rfl) ?_
        refine lv_iload_n hx hb dX0_transformAt_26 rfl (lv_at hl 1 rfl) ?_
        refine lv_iload_n hx hb dX0_transformAt_27 rfl (lv_at hl 2 rfl) ?_
        refine rdv_i S (c_X0_transformNumber l D (M := lm nC M) k1 k2 hm hn hk1 hk2 hM) (cwV 2 hts gX0_transformAt_X0_transformNumber rfl rfl rfl (by decide +kernel) ⟨Nat.le_of_ble_eq_true rfl, Nat.le_of_ble_eq_true rfl⟩) rfl hK hP (ci := 0) rfl rfl hl.1 (rest := []) rfl (Nat.le_of_ble_eq_true rfl) dX0_transformAt_28 ⟨Nat.zero_le _, Nat.zero_le _⟩ hP hS hA (fun r_6 H locs er_6 hP hS => ?_)
        have er_6 : r_6 = nI (M k1 (10 + k2)) := by rw [er_6]; show nI (M k1 (lay nC (nC + k2))) = _; rw [lay_T]
        subst er_6
        exact hret (nI (M k1 (10 + k2))) 31 ls _ _ dX0_transformAt_31 (rfl) hS (by simp [sTr, hrd0, inb_t hk1 (show mR < 2 ^ 31 by omega), ix_n (show k1 < 2 ^ 31 by omega), inb_t hk2 (show mR < 2 ^ 31 by omega), ix_n (show k2 < 2 ^ 31 by omega)])
      · refine nv_if_ne (tgt := 25) hx hb dX0_transformAt_20 (by decide) (by decide) (fun q => absurd q (by decide)) (fun _ => ?_)
        refine lv_iconst (v := (-1)) hx hb dX0_transformAt_23 (by decide +kernel) ?_
        exact hret ((-1)) 24 ls _ _ dX0_transformAt_24 (rfl) hS (by simp [sTr, inb_f nok2 (show mR < 2 ^ 31 by omega)])
    · refine nv_if_eq (tgt := 23) hx hb dX0_transformAt_12 (by decide) (by decide) (fun _ => ?_) (fun q => absurd q (by decide))
      refine lv_iconst (v := (-1)) hx hb dX0_transformAt_23 (by decide +kernel) ?_
      exact hret ((-1)) 24 ls _ _ dX0_transformAt_24 (rfl) hS (by simp [sTr, inb_f nok1 (show mR < 2 ^ 31 by omega)])
set_option maxHeartbeats 4000000 in
set_option maxRecDepth 100000 in
theorem c_X0_det (l : Launch) (D : va_G) {h a1 a2 a3 a4 : Nat} {cA : ClassId} {mR nC : Nat} {fA fB fW fP : Nat → Int32} {rd pv pp : Nat} {pr : Int32} {P : Nat} {M : Mat} {po : Nat → Option Nat} (hm : mR ≤ 10) (hn : nC ≤ 10) (hV : 0 < mR → pr = nI P ∧ 2 ≤ P ∧ P < 2 ^ 31) (hrd : rd < 2) (hQ : rd ≠ 0 → 0 < mR ∧ PbQ P mR nC fW fP pv pp M po) : RdI l yX0_det wsX0_det ({ frames := 0, cells := 0, slots := 0, locals := 0 }) [.ref h] D (pbW h a1 a2 a3 a4 cA pr mR nC fA fB fW fP rd pv pp) [(cA, .int)] (fun r => r = sDet rd mR nC pv pp) := by
  refine RdI.mk (cc := cX0_det) (maxL := 1) (rt := .int) (by decide) rfl (Nat.le_of_ble_eq_true rfl) ?_
  intro p e s mm args below meth c Q ls A S hK hP hA hS hl hret
  have hx := S.1
  have hb := S.2.1
  have hts := S.2.2.2.2
  have hown := S.2.2.2.1
  have hin : ∀ w ∈ wsX00, w ∈ wsX0_det := fun w h => List.mem_cons_of_mem _ (List.mem_append_right _ h)
  have hl : lv_has ls 1 [(0, .ref h)] := hl
  refine lv_aload_n hx hb dX0_det_0 rfl (lv_at hl 0 rfl) ?_
  refine x0_get S hin hK hP rfl 8 (by decide) rfl (by decide +kernel) (v := .int (nI rd)) rfl dX0_det_1 ?_
  refine nv_if_eq (tgt := 18) hx hb dX0_det_4 (by decide) (by omega) (fun c_1 => ?_) (fun c_1 => ?_)
  · refine lv_iconst (v := (-1)) hx hb dX0_det_18 (by decide +kernel) ?_
    exact hret ((-1)) 19 ls _ _ dX0_det_19 (rfl) hS (by simp [sDet, c_1])
  · have hrd0 : rd ≠ 0 := by omega
    obtain ⟨hm0, hM, hB, hfP, hpo, hpv, hpn, hpp⟩ := hQ hrd0
    obtain ⟨rfl, hP2, hPl⟩ := hV hm0
    refine lv_aload_n hx hb dX0_det_7 rfl (lv_at hl 0 rfl) ?_
    refine x0_get S hin hK hP rfl 1 (by decide) rfl (by decide +kernel) (v := .int (nI mR)) rfl dX0_det_8 ?_
    refine lv_aload_n hx hb dX0_det_11 rfl (lv_at hl 0 rfl) ?_
    refine x0_get S hin hK hP rfl 2 (by decide) rfl (by decide +kernel) (v := .int (nI nC)) rfl dX0_det_12 ?_
    refine nv_icmp_eq (tgt := 20) hx hb dX0_det_15 (by decide) (by omega) (by omega) (fun c_2 => ?_) (fun c_2 => ?_)
    · refine lv_aload_n hx hb dX0_det_20 rfl (lv_at hl 0 rfl) ?_
      refine x0_get S hin hK hP rfl 9 (by decide) rfl (by decide +kernel) (v := .int (nI pv)) rfl dX0_det_21 ?_
      refine lv_aload_n hx hb dX0_det_24 rfl (lv_at hl 0 rfl) ?_
      refine x0_get S hin hK hP rfl 2 (by decide) rfl (by decide +kernel) (v := .int (nI nC)) rfl dX0_det_25 ?_
      refine nv_icmp_ge (tgt := 35) hx hb dX0_det_28 (by decide) (by omega) (by omega) (fun c_3 => ?_) (fun c_3 => ?_)
      · refine lv_aload_n hx hb dX0_det_35 rfl (lv_at hl 0 rfl) ?_
        refine x0_get S hin hK hP rfl 10 (by decide) rfl (by decide +kernel) (v := .long (lN pp)) rfl dX0_det_36 ?_
        refine nv_l2i hx hb dX0_det_39 ?_
        exact hret (nI pp) 40 ls _ _ dX0_det_40 (rfl) hS (by simp [sDet, hrd0, c_2, show ¬ pv < nC by omega])
      · refine lv_iconst (v := nI 0) hx hb dX0_det_31 (by decide +kernel) ?_
        refine lv_goto (tgt := 40) hx hb dX0_det_32 (by decide) ?_
        exact hret (nI 0) 40 ls _ _ dX0_det_40 (rfl) hS (by simp [sDet, hrd0, c_2, show pv < nC by omega])
    · refine lv_iconst (v := (-1)) hx hb dX0_det_18 (by decide +kernel) ?_
      exact hret ((-1)) 19 ls _ _ dX0_det_19 (rfl) hS (by simp [sDet, c_2])
set_option maxHeartbeats 4000000 in
set_option maxRecDepth 100000 in
theorem c_X0_inverseAt (l : Launch) (D : va_G) {h a1 a2 a3 a4 : Nat} {cA : ClassId} {mR nC : Nat} {fA fB fW fP : Nat → Int32} {rd pv pp : Nat} {pr : Int32} {P : Nat} {M : Mat} {po : Nat → Option Nat} (i j : Int32) (hm : mR ≤ 10) (hn : nC ≤ 10) (hV : 0 < mR → pr = nI P ∧ 2 ≤ P ∧ P < 2 ^ 31) (hrd : rd < 2) (hQ : rd ≠ 0 → 0 < mR ∧ PbQ P mR nC fW fP pv pp M po) (hpv9 : pv < 2 ^ 31) : RdI l yX0_inverseAt wsX0_inverseAt ({ frames := 1, cells := 0, slots := 0, locals := 22 }) [.ref h, .int i, .int j] D (pbW h a1 a2 a3 a4 cA pr mR nC fA fB fW fP rd pv pp) [(cA, .int)] (fun r => r = sInv rd mR nC pv M i j) := by
  refine RdI.mk (cc := cX0_inverseAt) (maxL := 3) (rt := .int) (by decide) rfl (Nat.le_of_ble_eq_true rfl) ?_
  intro p e s mm args below meth c Q ls A S hK hP hA hS hl hret
  have hx := S.1
  have hb := S.2.1
  have hts := S.2.2.2.2
  have hown := S.2.2.2.1
  have hin : ∀ w ∈ wsX00, w ∈ wsX0_inverseAt := fun w h => List.mem_cons_of_mem _ (List.mem_append_right _ h)
  have hl : lv_has ls 3 [(0, .ref h), (1, .int i), (2, .int j)] := hl
  refine lv_aload_n hx hb dX0_inverseAt_0 rfl (lv_at hl 0 rfl) ?_
  refine rdv_i S (c_X0_hasInverse l D hm hn (by omega) hpv9) (cwV 0 hts gX0_inverseAt_X0_hasInverse rfl rfl rfl (by decide +kernel) ⟨Nat.le_of_ble_eq_true rfl, Nat.le_of_ble_eq_true rfl⟩) rfl hK hP (ci := 0) rfl rfl hl.1 (rest := []) rfl (Nat.le_of_ble_eq_true rfl) dX0_inverseAt_1 ⟨Nat.zero_le _, Nat.zero_le _⟩ hP hS hA (fun r_1 H locs er_1 hP hS => ?_)
  by_cases hI : rd ≠ 0 ∧ mR = nC ∧ pv = nC
  · rw [if_pos hI] at er_1
    subst er_1
    have hrd0 : rd ≠ 0 := by omega
    obtain ⟨hm0, hM, hB, hfP, hpo, hpv, hpn, hpp⟩ := hQ hrd0
    obtain ⟨rfl, hP2, hPl⟩ := hV hm0
    refine nv_if_eq (tgt := 23) hx hb dX0_inverseAt_4 (by decide) (by decide) (fun q => absurd q (by decide)) (fun _ => ?_)
    refine lv_aload_n hx hb dX0_inverseAt_7 rfl (lv_at hl 0 rfl) ?_
    refine lv_iload_n hx hb dX0_inverseAt_8 rfl (lv_at hl 1 rfl) ?_
    refine rdv_i S (c_X0_isRow l D i hm) (cwV 1 hts gX0_inverseAt_X0_isRow rfl rfl rfl (by decide +kernel) ⟨Nat.le_of_ble_eq_true rfl, Nat.le_of_ble_eq_true rfl⟩) rfl hK hP (ci := 0) rfl rfl hl.1 (rest := []) rfl (Nat.le_of_ble_eq_true rfl) dX0_inverseAt_9 ⟨Nat.zero_le _, Nat.zero_le _⟩ hP hS hA (fun r_3 H locs er_3 hP hS => ?_)
    rcases er_3 with ⟨k1, hk1, rfl, rfl⟩ | ⟨nok1, rfl⟩
    · refine nv_if_eq (tgt := 23) hx hb dX0_inverseAt_12 (by decide) (by decide) (fun q => absurd q (by decide)) (fun _ => ?_)
      refine lv_aload_n hx hb dX0_inverseAt_15 rfl (lv_at hl 0 rfl) ?_
      refine lv_iload_n hx hb dX0_inverseAt_16 rfl (lv_at hl 2 rfl) ?_
      refine rdv_i S (c_X0_isRow l D j hm) (cwV 1 hts gX0_inverseAt_X0_isRow rfl rfl rfl (by decide +kernel) ⟨Nat.le_of_ble_eq_true rfl, Nat.le_of_ble_eq_true rfl⟩) rfl hK hP (ci := 0) rfl rfl hl.1 (rest := []) rfl (Nat.le_of_ble_eq_true rfl) dX0_inverseAt_17 ⟨Nat.zero_le _, Nat.zero_le _⟩ hP hS hA (fun r_5 H locs er_5 hP hS => ?_)
      rcases er_5 with ⟨k2, hk2, rfl, rfl⟩ | ⟨nok2, rfl⟩
      · refine nv_if_ne (tgt := 25) hx hb dX0_inverseAt_20 (by decide) (by decide) (fun _ => ?_) (fun q => absurd q (by decide))
        refine lv_aload_n hx hb dX0_inverseAt_25 rfl (lv_at hl 0 rfl) ?_
        refine lv_iload_n hx hb dX0_inverseAt_26 rfl (lv_at hl 1 rfl) ?_
        refine lv_iload_n hx hb dX0_inverseAt_27 rfl (lv_at hl 2 rfl) ?_
        refine rdv_i S (c_X0_transformNumber l D (M := lm nC M) k1 k2 hm hn hk1 hk2 hM) (cwV 2 hts gX0_inverseAt_X0_transformNumber rfl rfl rfl (by decide +kernel) ⟨Nat.le_of_ble_eq_true rfl, Nat.le_of_ble_eq_true rfl⟩) rfl hK hP (ci := 0) rfl rfl hl.1 (rest := []) rfl (Nat.le_of_ble_eq_true rfl) dX0_inverseAt_28 ⟨Nat.zero_le _, Nat.zero_le _⟩ hP hS hA (fun r_7 H locs er_7 hP hS => ?_)
        have er_7 : r_7 = nI (M k1 (10 + k2)) := by rw [er_7]; show nI (M k1 (lay nC (nC + k2))) = _; rw [lay_T]
        subst er_7
        exact hret (nI (M k1 (10 + k2))) 31 ls _ _ dX0_inverseAt_31 (rfl) hS (by
            unfold sInv
            rw [if_pos ⟨hI, inb_t hk1 (by omega), inb_t hk2 (by omega)⟩, ix_n (show k1 < 2 ^ 31 by omega), ix_n (show k2 < 2 ^ 31 by omega)])
      · refine nv_if_ne (tgt := 25) hx hb dX0_inverseAt_20 (by decide) (by decide) (fun q => absurd q (by decide)) (fun _ => ?_)
        refine lv_iconst (v := (-1)) hx hb dX0_inverseAt_23 (by decide +kernel) ?_
        exact hret ((-1)) 24 ls _ _ dX0_inverseAt_24 (rfl) hS (by
            unfold sInv
            rw [if_neg]
            simp [inb_f nok2 (show mR < 2 ^ 31 by omega)])
    · refine nv_if_eq (tgt := 23) hx hb dX0_inverseAt_12 (by decide) (by decide) (fun _ => ?_) (fun q => absurd q (by decide))
      refine lv_iconst (v := (-1)) hx hb dX0_inverseAt_23 (by decide +kernel) ?_
      exact hret ((-1)) 24 ls _ _ dX0_inverseAt_24 (rfl) hS (by
          unfold sInv
          rw [if_neg]
          simp [inb_f nok1 (show mR < 2 ^ 31 by omega)])
  · rw [if_neg hI] at er_1
    subst er_1
    refine nv_if_eq (tgt := 23) hx hb dX0_inverseAt_4 (by decide) (by decide) (fun _ => ?_) (fun q => absurd q (by decide))
    refine lv_iconst (v := (-1)) hx hb dX0_inverseAt_23 (by decide +kernel) ?_
    exact hret ((-1)) 24 ls _ _ dX0_inverseAt_24 (rfl) hS (by
        unfold sInv
        rw [if_neg]
        exact fun z => hI z.1)
set_option maxHeartbeats 4000000 in
set_option maxRecDepth 100000 in
theorem c_X0_solvable (l : Launch) (D : va_G) {h a1 a2 a3 a4 : Nat} {cA : ClassId} {mR nC : Nat} {fA fB fW fP : Nat → Int32} {rd pv pp : Nat} {pr : Int32} {P : Nat} {M : Mat} {po : Nat → Option Nat} {b : Nat → Nat} (hm : mR ≤ 10) (hn : nC ≤ 10) (hV : 0 < mR → pr = nI P ∧ 2 ≤ P ∧ P < 2 ^ 31) (hrd : rd < 2) (hQ : rd ≠ 0 → 0 < mR ∧ PbQ P mR nC fW fP pv pp M po) (hbb : 0 < mR → ∀ i, b i < P) (hb1 : ∀ i, i < mR → fB i = nI (b i)) : RdI l yX0_solvable wsX0_solvable ({ frames := 2, cells := 0, slots := 0, locals := 46 }) [.ref h] D (pbW h a1 a2 a3 a4 cA pr mR nC fA fB fW fP rd pv pp) [(cA, .int)] (fun r => r = sSlv rd P mR M b pv) := by
  refine RdI.mk (cc := cX0_solvable) (maxL := 2) (rt := .boolean) (by decide) rfl (Nat.le_of_ble_eq_true rfl) ?_
  intro p e s mm args below meth c Q ls A S hK hP hA hS hl hret
  have hx := S.1
  have hb := S.2.1
  have hts := S.2.2.2.2
  have hown := S.2.2.2.1
  have hin : ∀ w ∈ wsX00, w ∈ wsX0_solvable := fun w h => List.mem_cons_of_mem _ (List.mem_append_right _ h)
  have hl : lv_has ls 2 [(0, .ref h)] := hl
  refine lv_aload_n hx hb dX0_solvable_0 rfl (lv_at hl 0 rfl) ?_
  refine x0_get S hin hK hP rfl 8 (by decide) rfl (by decide +kernel) (v := .int (nI rd)) rfl dX0_solvable_1 ?_
  refine nv_if_ne (tgt := 9) hx hb dX0_solvable_4 (by decide) (by omega) (fun c_1 => ?_) (fun c_1 => ?_)
  · have hrd0 : rd ≠ 0 := by omega
    obtain ⟨hm0, hM, hB, hfP, hpo, hpv, hpn, hpp⟩ := hQ hrd0
    obtain ⟨rfl, hP2, hPl⟩ := hV hm0
    refine lv_aload_n hx hb dX0_solvable_9 rfl (lv_at hl 0 rfl) ?_
    refine x0_get S hin hK hP rfl 9 (by decide) rfl (by decide +kernel) (v := .int (nI pv)) rfl dX0_solvable_10 ?_
    refine lv_istore_n (lv' := [(1, .int (nI pv)), (0, .ref h)]) hx hb dX0_solvable_13 rfl hl (by decide) rfl (fun ls hl => ?_)
    have L : ∀ (nL : Nat) (i : Nat), (i ≤ mR) → (allz (fun row => chg P (fun k => M row (10 + k)) b mR) (mR - i) i = slv P mR M b pv) → (mR + 1 ≤ i + nL) → ∀ (ls : Array Slot) (H : Heap) (locs : List Loc), lv_has ls 2 [(0, .ref h), (1, .int (nI i))] → va_P D vwCl (pbW h a1 a2 a3 a4 cA (nI P) mR nC fA fB fW fP rd pv pp) H → va_S A s.heap H locs → W p l e ({ frames := 2, cells := 0, slots := 0, locals := 46 }) s mm args below meth c H locs 0 0 Q (F0 mm 14 ls []) := by
      intro nL
      induction nL with
      | zero => intro i hi hinv hfuel; exfalso; omega
      | succ nL ihL =>
        intro i hi hinv hfuel ls H locs hl hP hS
        refine lv_iload_n hx hb dX0_solvable_14 rfl (lv_at hl 1 rfl) ?_
        refine lv_aload_n hx hb dX0_solvable_15 rfl (lv_at hl 0 rfl) ?_
        refine x0_get S hin hK hP rfl 1 (by decide) rfl (by decide +kernel) (v := .int (nI mR)) rfl dX0_solvable_16 ?_
        refine nv_icmp_ge (tgt := 38) hx hb dX0_solvable_19 (by decide) (by omega) (by omega) (fun c_2 => ?_) (fun c_2 => ?_)
        · refine lv_iconst (v := nI 1) hx hb dX0_solvable_38 (by decide +kernel) ?_
          exact hret (nI 1) 39 ls _ _ dX0_solvable_39 (by decide +kernel) hS (by
              have e1 : slv P mR M b pv = true := by rw [← hinv]; exact allz_e c_2
              simp [sSlv, e1, hrd0])
        · refine lv_aload_n hx hb dX0_solvable_22 rfl (lv_at hl 0 rfl) ?_
          refine lv_iload_n hx hb dX0_solvable_23 rfl (lv_at hl 1 rfl) ?_
          refine rdv_i S (c_X0_changedRightSide l D (M := lm nC M) (b := b) i hP2 hPl hm hn (by omega) (fun a k => hB a (lay nC k)) hM (hbb hm0) hb1) (cwV 1 hts gX0_solvable_X0_changedRightSide rfl rfl rfl (by decide +kernel) ⟨Nat.le_of_ble_eq_true rfl, Nat.le_of_ble_eq_true rfl⟩) rfl hK hP (ci := 0) rfl rfl hl.1 (rest := []) rfl (Nat.le_of_ble_eq_true rfl) dX0_solvable_24 ⟨Nat.zero_le _, Nat.zero_le _⟩ hP hS hA (fun r_3 H locs er_3 hP hS => ?_)
          rw [chg_lm] at er_3
          subst er_3
          refine nv_if_eq (tgt := 32) hx hb dX0_solvable_27 (by decide) (Nat.lt_trans (chg_lt (show 0 < P by omega) _ _ _) hPl) (fun c_4 => ?_) (fun c_4 => ?_)
          · refine lv_iinc (v := nI (i + 1)) (lv' := [(1, .int (nI (i + 1))), (0, .ref h)]) hx hb dX0_solvable_32 hl (k := 1) rfl (nv_inc i 1) (by decide) rfl (fun ls hl => ?_)
            refine lv_goto (tgt := 14) hx hb dX0_solvable_35 (by decide) ?_
            exact ihL (i + 1) (by omega) (by rw [← hinv, allz_z c_2 c_4]) (by omega) ls _ _ (lv_sub hl [1, 0] rfl) hP hS
          · refine lv_iconst (v := nI 0) hx hb dX0_solvable_30 (by decide +kernel) ?_
            exact hret (nI 0) 31 ls _ _ dX0_solvable_31 (by decide +kernel) hS (by
                have e1 : slv P mR M b pv = false := by rw [← hinv]; exact allz_n c_2 (by show (chg P (fun k => M i (10 + k)) b mR) ≠ 0; omega)
                simp [sSlv, e1])
    exact L (mR + 1) pv hpv rfl (by omega) ls _ _ (lv_sub hl [1, 0] rfl) hP hS
  · refine lv_iconst (v := nI 0) hx hb dX0_solvable_7 (by decide +kernel) ?_
    exact hret (nI 0) 8 ls _ _ dX0_solvable_8 (by decide +kernel) hS (by simp [sSlv, c_1])
set_option maxHeartbeats 4000000 in
set_option maxRecDepth 100000 in
theorem c_X0_solution (l : Launch) (D : va_G) {h a1 a2 a3 a4 : Nat} {cA : ClassId} {mR nC : Nat} {fA fB fW fP : Nat → Int32} {rd pv pp : Nat} {pr : Int32} {P : Nat} {M : Mat} {po : Nat → Option Nat} {b : Nat → Nat} (j : Int32) (hm : mR ≤ 10) (hn : nC ≤ 10) (hV : 0 < mR → pr = nI P ∧ 2 ≤ P ∧ P < 2 ^ 31) (hrd : rd < 2) (hQ : rd ≠ 0 → 0 < mR ∧ PbQ P mR nC fW fP pv pp M po) (hbb : 0 < mR → ∀ i, b i < P) (hb1 : ∀ i, i < mR → fB i = nI (b i)) : RdI l yX0_solution wsX0_solution ({ frames := 3, cells := 0, slots := 0, locals := 67 }) [.ref h, .int j] D (pbW h a1 a2 a3 a4 cA pr mR nC fA fB fW fP rd pv pp) [(cA, .int)] (fun r => r = sSol rd P mR nC M b pv po j) := by
  refine RdI.mk (cc := cX0_solution) (maxL := 3) (rt := .int) (by decide) rfl (Nat.le_of_ble_eq_true rfl) ?_
  intro p e s mm args below meth c Q ls A S hK hP hA hS hl hret
  have hx := S.1
  have hb := S.2.1
  have hts := S.2.2.2.2
  have hown := S.2.2.2.1
  have hin : ∀ w ∈ wsX00, w ∈ wsX0_solution := fun w h => List.mem_cons_of_mem _ (List.mem_append_right _ h)
  have hl : lv_has ls 3 [(0, .ref h), (1, .int j)] := hl
  refine lv_aload_n hx hb dX0_solution_0 rfl (lv_at hl 0 rfl) ?_
  refine lv_iload_n hx hb dX0_solution_1 rfl (lv_at hl 1 rfl) ?_
  refine rdv_i S (c_X0_isColumn l D j hn) (cwV 1 hts gX0_solution_X0_isColumn rfl rfl rfl (by decide +kernel) ⟨Nat.le_of_ble_eq_true rfl, Nat.le_of_ble_eq_true rfl⟩) rfl hK hP (ci := 0) rfl rfl hl.1 (rest := []) rfl (Nat.le_of_ble_eq_true rfl) dX0_solution_2 ⟨Nat.zero_le _, Nat.zero_le _⟩ hP hS hA (fun r_1 H locs er_1 hP hS => ?_)
  rcases er_1 with ⟨k1, hk1, rfl, rfl⟩ | ⟨nok1, rfl⟩
  · refine nv_if_eq (tgt := 15) hx hb dX0_solution_5 (by decide) (by decide) (fun q => absurd q (by decide)) (fun _ => ?_)
    refine lv_aload_n hx hb dX0_solution_8 rfl (lv_at hl 0 rfl) ?_
    refine rdv_i S (c_X0_solvable l D (M := M) (po := po) (b := b) hm hn hV hrd hQ hbb hb1) (cwV 0 hts gX0_solution_X0_solvable rfl rfl rfl (by decide +kernel) ⟨Nat.le_of_ble_eq_true rfl, Nat.le_of_ble_eq_true rfl⟩) rfl hK hP (ci := 0) rfl rfl hl.1 (rest := []) rfl (Nat.le_of_ble_eq_true rfl) dX0_solution_9 ⟨Nat.zero_le _, Nat.zero_le _⟩ hP hS hA (fun r_3 H locs er_3 hP hS => ?_)
    by_cases hI : rd ≠ 0 ∧ slv P mR M b pv = true
    · unfold sSlv at er_3
      rw [if_pos hI] at er_3
      subst er_3
      have hrd0 : rd ≠ 0 := by omega
      obtain ⟨hm0, hM, hB, hfP, hpo, hpv, hpn, hpp⟩ := hQ hrd0
      obtain ⟨rfl, hP2, hPl⟩ := hV hm0
      refine nv_if_ne (tgt := 17) hx hb dX0_solution_12 (by decide) (by decide) (fun _ => ?_) (fun q => absurd q (by decide))
      refine lv_aload_n hx hb dX0_solution_17 rfl (lv_at hl 0 rfl) ?_
      refine x0_get S hin hK hP rfl 7 (by decide) rfl (by decide +kernel) (v := .ref a4) rfl dX0_solution_18 ?_
      refine lv_iload_n hx hb dX0_solution_21 rfl (lv_at hl 1 rfl) ?_
      refine nv_iald hx hb hK hP 4 0 rfl rfl (v := opt (po k1)) hk1 (by omega) (hfP k1 hk1) dX0_solution_22 ?_
      cases hpo1 : po k1 with
      | none =>
        rw [show opt (none : Option Nat) = -1 from rfl]
        refine lv_istore_n (lv' := [(2, .int (-1)), (0, .ref h), (1, .int (nI k1))]) hx hb dX0_solution_23 rfl hl (by decide) rfl (fun ls hl => ?_)
        refine lv_iload_n hx hb dX0_solution_24 rfl (lv_at hl 0 rfl) ?_
        refine lv_iconst (v := (-1)) hx hb dX0_solution_25 (by decide +kernel) ?_
        refine lv_icmp_ne (tgt := 33) hx hb dX0_solution_26 (by decide) (fun c_5 => ?_) (fun c_5 => ?_)
        · exact absurd rfl c_5
        · refine lv_iconst (v := nI 0) hx hb dX0_solution_29 (by decide +kernel) ?_
          refine lv_goto (tgt := 38) hx hb dX0_solution_30 (by decide) ?_
          exact hret (nI 0) 38 ls _ _ dX0_solution_38 (rfl) hS (by
              unfold sSol
              rw [if_pos ⟨inb_t hk1 (by omega), hI.1, hI.2⟩, ix_n (show k1 < 2 ^ 31 by omega), hpo1]
              rfl)
      | some pi =>
        rw [show opt (some pi) = nI pi from rfl]
        have hpi := hpo k1 pi hpo1
        refine lv_istore_n (lv' := [(2, .int (nI pi)), (0, .ref h), (1, .int (nI k1))]) hx hb dX0_solution_23 rfl hl (by decide) rfl (fun ls hl => ?_)
        refine lv_iload_n hx hb dX0_solution_24 rfl (lv_at hl 0 rfl) ?_
        refine lv_iconst (v := (-1)) hx hb dX0_solution_25 (by decide +kernel) ?_
        refine lv_icmp_ne (tgt := 33) hx hb dX0_solution_26 (by decide) (fun c_6 => ?_) (fun c_6 => ?_)
        · refine lv_aload_n hx hb dX0_solution_33 rfl (lv_at hl 1 rfl) ?_
          refine lv_iload_n hx hb dX0_solution_34 rfl (lv_at hl 0 rfl) ?_
          refine rdv_i S (c_X0_changedRightSide l D (M := lm nC M) (b := b) pi hP2 hPl hm hn hpi (fun a k => hB a (lay nC k)) hM (hbb hm0) hb1) (cwV 1 hts gX0_solution_X0_changedRightSide rfl rfl rfl (by decide +kernel) ⟨Nat.le_of_ble_eq_true rfl, Nat.le_of_ble_eq_true rfl⟩) rfl hK hP (ci := 0) rfl rfl hl.1 (rest := []) rfl (Nat.le_of_ble_eq_true rfl) dX0_solution_35 ⟨Nat.zero_le _, Nat.zero_le _⟩ hP hS hA (fun r_7 H locs er_7 hP hS => ?_)
          rw [chg_lm] at er_7
          subst er_7
          exact hret (nI (chg P (fun k => M pi (10 + k)) b mR)) 38 ls _ _ dX0_solution_38 (rfl) hS (by
              unfold sSol
              rw [if_pos ⟨inb_t hk1 (by omega), hI.1, hI.2⟩, ix_n (show k1 < 2 ^ 31 by omega), hpo1]
              rfl)
        · exact absurd c_6 (nI_m1 (by omega))
    · unfold sSlv at er_3
      rw [if_neg hI] at er_3
      subst er_3
      refine nv_if_ne (tgt := 17) hx hb dX0_solution_12 (by decide) (by decide) (fun q => absurd q (by decide)) (fun _ => ?_)
      refine lv_iconst (v := (-1)) hx hb dX0_solution_15 (by decide +kernel) ?_
      exact hret ((-1)) 16 ls _ _ dX0_solution_16 (rfl) hS (by
          unfold sSol
          rw [if_neg]
          exact fun z => hI ⟨z.2.1, z.2.2⟩)
  · refine nv_if_eq (tgt := 15) hx hb dX0_solution_5 (by decide) (by decide) (fun _ => ?_) (fun q => absurd q (by decide))
    refine lv_iconst (v := (-1)) hx hb dX0_solution_15 (by decide +kernel) ?_
    exact hret ((-1)) 16 ls _ _ dX0_solution_16 (rfl) hS (by
        unfold sSol
        rw [if_neg]
        simp [inb_f nok1 (show nC < 2 ^ 31 by omega)])
set_option maxHeartbeats 4000000 in
set_option maxRecDepth 100000 in
theorem c_X0_kernelDim (l : Launch) (D : va_G) {h a1 a2 a3 a4 : Nat} {cA : ClassId} {mR nC : Nat} {fA fB fW fP : Nat → Int32} {rd pv pp : Nat} {pr : Int32} {P : Nat} {M : Mat} {po : Nat → Option Nat} (hm : mR ≤ 10) (hn : nC ≤ 10) (hV : 0 < mR → pr = nI P ∧ 2 ≤ P ∧ P < 2 ^ 31) (hrd : rd < 2) (hQ : rd ≠ 0 → 0 < mR ∧ PbQ P mR nC fW fP pv pp M po) : RdI l yX0_kernelDim wsX0_kernelDim ({ frames := 0, cells := 0, slots := 0, locals := 0 }) [.ref h] D (pbW h a1 a2 a3 a4 cA pr mR nC fA fB fW fP rd pv pp) [(cA, .int)] (fun r => r = sKd rd nC pv) := by
  refine RdI.mk (cc := cX0_kernelDim) (maxL := 1) (rt := .int) (by decide) rfl (Nat.le_of_ble_eq_true rfl) ?_
  intro p e s mm args below meth c Q ls A S hK hP hA hS hl hret
  have hx := S.1
  have hb := S.2.1
  have hts := S.2.2.2.2
  have hown := S.2.2.2.1
  have hin : ∀ w ∈ wsX00, w ∈ wsX0_kernelDim := fun w h => List.mem_cons_of_mem _ (List.mem_append_right _ h)
  have hl : lv_has ls 1 [(0, .ref h)] := hl
  refine lv_aload_n hx hb dX0_kernelDim_0 rfl (lv_at hl 0 rfl) ?_
  refine x0_get S hin hK hP rfl 8 (by decide) rfl (by decide +kernel) (v := .int (nI rd)) rfl dX0_kernelDim_1 ?_
  refine nv_if_eq (tgt := 19) hx hb dX0_kernelDim_4 (by decide) (by omega) (fun c_1 => ?_) (fun c_1 => ?_)
  · refine lv_iconst (v := (-1)) hx hb dX0_kernelDim_19 (by decide +kernel) ?_
    exact hret ((-1)) 20 ls _ _ dX0_kernelDim_20 (rfl) hS (by simp [sKd, show rd = 0 by omega])
  · have hrd0 : rd ≠ 0 := by omega
    obtain ⟨hm0, hM, hB, hfP, hpo, hpv, hpn, hpp⟩ := hQ hrd0
    obtain ⟨rfl, hP2, hPl⟩ := hV hm0
    refine lv_aload_n hx hb dX0_kernelDim_7 rfl (lv_at hl 0 rfl) ?_
    refine x0_get S hin hK hP rfl 2 (by decide) rfl (by decide +kernel) (v := .int (nI nC)) rfl dX0_kernelDim_8 ?_
    refine lv_aload_n hx hb dX0_kernelDim_11 rfl (lv_at hl 0 rfl) ?_
    refine x0_get S hin hK hP rfl 9 (by decide) rfl (by decide +kernel) (v := .int (nI pv)) rfl dX0_kernelDim_12 ?_
    refine nv_isub hx hb (by omega) dX0_kernelDim_15 ?_
    refine lv_goto (tgt := 20) hx hb dX0_kernelDim_16 (by decide) ?_
    exact hret (nI (nC - pv)) 20 ls _ _ dX0_kernelDim_20 (rfl) hS (by simp [sKd, show ¬ rd = 0 by omega])
set_option maxHeartbeats 4000000 in
set_option maxRecDepth 100000 in
theorem c_X0_kernelAt (l : Launch) (D : va_G) {h a1 a2 a3 a4 : Nat} {cA : ClassId} {mR nC : Nat} {fA fB fW fP : Nat → Int32} {rd pv pp : Nat} {pr : Int32} {P : Nat} {M : Mat} {po : Nat → Option Nat} (k j : Int32) (hm : mR ≤ 10) (hn : nC ≤ 10) (hV : 0 < mR → pr = nI P ∧ 2 ≤ P ∧ P < 2 ^ 31) (hrd : rd < 2) (hQ : rd ≠ 0 → 0 < mR ∧ PbQ P mR nC fW fP pv pp M po) : RdI l yX0_kernelAt wsX0_kernelAt ({ frames := 1, cells := 0, slots := 0, locals := 23 }) [.ref h, .int k, .int j] D (pbW h a1 a2 a3 a4 cA pr mR nC fA fB fW fP rd pv pp) [(cA, .int)] (fun r => r = sKer rd P nC M po k j) := by
  refine RdI.mk (cc := cX0_kernelAt) (maxL := 5) (rt := .int) (by decide) rfl (Nat.le_of_ble_eq_true rfl) ?_
  intro p e s mm args below meth c Q ls A S hK hP hA hS hl hret
  have hx := S.1
  have hb := S.2.1
  have hts := S.2.2.2.2
  have hown := S.2.2.2.1
  have hin : ∀ w ∈ wsX00, w ∈ wsX0_kernelAt := fun w h => List.mem_cons_of_mem _ (List.mem_append_right _ h)
  have hl : lv_has ls 5 [(0, .ref h), (1, .int k), (2, .int j)] := hl
  refine lv_aload_n hx hb dX0_kernelAt_0 rfl (lv_at hl 0 rfl) ?_
  refine x0_get S hin hK hP rfl 8 (by decide) rfl (by decide +kernel) (v := .int (nI rd)) rfl dX0_kernelAt_1 ?_
  refine nv_if_eq (tgt := 15) hx hb dX0_kernelAt_4 (by decide) (by omega) (fun c_1 => ?_) (fun c_1 => ?_)
  · refine lv_iconst (v := (-1)) hx hb dX0_kernelAt_15 (by decide +kernel) ?_
    exact hret ((-1)) 16 ls _ _ dX0_kernelAt_16 (rfl) hS (by simp [sKer, c_1])
  · have hrd0 : rd ≠ 0 := by omega
    obtain ⟨hm0, hM, hB, hfP, hpo, hpv, hpn, hpp⟩ := hQ hrd0
    obtain ⟨rfl, hP2, hPl⟩ := hV hm0
    refine lv_aload_n hx hb dX0_kernelAt_7 rfl (lv_at hl 0 rfl) ?_
    refine lv_iload_n hx hb dX0_kernelAt_8 rfl (lv_at hl 2 rfl) ?_
    refine rdv_i S (c_X0_isColumn l D j hn) (cwV 1 hts gX0_kernelAt_X0_isColumn rfl rfl rfl (by decide +kernel) ⟨Nat.le_of_ble_eq_true rfl, Nat.le_of_ble_eq_true rfl⟩) rfl hK hP (ci := 0) rfl rfl hl.1 (rest := []) rfl (Nat.le_of_ble_eq_true rfl) dX0_kernelAt_9 ⟨Nat.zero_le _, Nat.zero_le _⟩ hP hS hA (fun r_2 H locs er_2 hP hS => ?_)
    rcases er_2 with ⟨k1, hk1, rfl, rfl⟩ | ⟨nok1, rfl⟩
    · refine nv_if_ne (tgt := 17) hx hb dX0_kernelAt_12 (by decide) (by decide) (fun _ => ?_) (fun q => absurd q (by decide))
      refine lv_aload_n hx hb dX0_kernelAt_17 rfl (lv_at hl 0 rfl) ?_
      refine lv_iload_n hx hb dX0_kernelAt_18 rfl (lv_at hl 1 rfl) ?_
      refine rdv_i S (c_X0_freeColumn l D (po := po) k hm hn hpo hfP) (cwV 1 hts gX0_kernelAt_X0_freeColumn rfl rfl rfl (by decide +kernel) ⟨Nat.le_of_ble_eq_true rfl, Nat.le_of_ble_eq_true rfl⟩) rfl hK hP (ci := 0) rfl rfl hl.1 (rest := []) rfl (Nat.le_of_ble_eq_true rfl) dX0_kernelAt_19 ⟨Nat.zero_le _, Nat.zero_le _⟩ hP hS hA (fun r_4 H locs er_4 hP hS => ?_)
      cases hkt : kth po k nC 0 with
      | none =>
        rw [hkt] at er_4
        have er_4 : r_4 = -1 := er_4
        subst er_4
        refine lv_istore_n (lv' := [(3, .int (-1)), (0, .ref h), (1, .int k), (2, .int (nI k1))]) hx hb dX0_kernelAt_22 rfl hl (by decide) rfl (fun ls hl => ?_)
        refine lv_iload_n hx hb dX0_kernelAt_23 rfl (lv_at hl 0 rfl) ?_
        refine lv_iconst (v := (-1)) hx hb dX0_kernelAt_24 (by decide +kernel) ?_
        refine lv_icmp_ne (tgt := 30) hx hb dX0_kernelAt_25 (by decide) (fun c_5 => ?_) (fun c_5 => ?_)
        · exact absurd rfl c_5
        · refine lv_iconst (v := (-1)) hx hb dX0_kernelAt_28 (by decide +kernel) ?_
          exact hret ((-1)) 29 ls _ _ dX0_kernelAt_29 (rfl) hS (by
              unfold sKer
              rw [if_pos ⟨hrd0, inb_t hk1 (by omega)⟩, hkt]
              rfl)
      | some fc =>
        rw [hkt] at er_4
        have er_4 : r_4 = nI fc := er_4
        have hfc := (kth_lt _ _ _ hkt).2.1
        subst er_4
        refine lv_istore_n (lv' := [(3, .int (nI fc)), (0, .ref h), (1, .int k), (2, .int (nI k1))]) hx hb dX0_kernelAt_22 rfl hl (by decide) rfl (fun ls hl => ?_)
        refine lv_iload_n hx hb dX0_kernelAt_23 rfl (lv_at hl 0 rfl) ?_
        refine lv_iconst (v := (-1)) hx hb dX0_kernelAt_24 (by decide +kernel) ?_
        refine lv_icmp_ne (tgt := 30) hx hb dX0_kernelAt_25 (by decide) (fun c_6 => ?_) (fun c_6 => ?_)
        · refine lv_aload_n hx hb dX0_kernelAt_30 rfl (lv_at hl 1 rfl) ?_
          refine x0_get S hin hK hP rfl 7 (by decide) rfl (by decide +kernel) (v := .ref a4) rfl dX0_kernelAt_31 ?_
          refine lv_iload_n hx hb dX0_kernelAt_34 rfl (lv_at hl 3 rfl) ?_
          refine nv_iald hx hb hK hP 4 0 rfl rfl (v := opt (po k1)) hk1 (by omega) (hfP k1 hk1) dX0_kernelAt_35 ?_
          cases hpo1 : po k1 with
          | none =>
            rw [show opt (none : Option Nat) = -1 from rfl]
            refine lv_istore (lv' := [(4, .int (-1)), (3, .int (nI fc)), (0, .ref h), (1, .int k), (2, .int (nI k1))]) hx hb dX0_kernelAt_36 hl (by decide) rfl (fun ls hl => ?_)
            refine lv_iload hx hb dX0_kernelAt_38 (lv_at hl 0 rfl) ?_
            refine lv_iconst (v := (-1)) hx hb dX0_kernelAt_40 (by decide +kernel) ?_
            refine lv_icmp_ne (tgt := 55) hx hb dX0_kernelAt_41 (by decide) (fun c_7 => ?_) (fun c_7 => ?_)
            · exact absurd rfl c_7
            · refine lv_iload_n hx hb dX0_kernelAt_44 rfl (lv_at hl 4 rfl) ?_
              refine lv_iload_n hx hb dX0_kernelAt_45 rfl (lv_at hl 1 rfl) ?_
              refine nv_icmp_ne (tgt := 53) hx hb dX0_kernelAt_46 (by decide) (by omega) (by omega) (fun c_8 => ?_) (fun c_8 => ?_)
              · refine lv_iconst (v := nI 0) hx hb dX0_kernelAt_53 (by decide +kernel) ?_
                exact hret (nI 0) 54 ls _ _ dX0_kernelAt_54 (rfl) hS (by
                    unfold sKer
                    rw [if_pos ⟨hrd0, inb_t hk1 (by omega)⟩, ix_n (show k1 < 2 ^ 31 by omega), hpo1, hkt]
                    show _ = if k1 = fc then nI 1 else nI 0
                    rw [if_neg c_8])
              · refine lv_iconst (v := nI 1) hx hb dX0_kernelAt_49 (by decide +kernel) ?_
                refine lv_goto (tgt := 54) hx hb dX0_kernelAt_50 (by decide) ?_
                exact hret (nI 1) 54 ls _ _ dX0_kernelAt_54 (rfl) hS (by
                    unfold sKer
                    rw [if_pos ⟨hrd0, inb_t hk1 (by omega)⟩, ix_n (show k1 < 2 ^ 31 by omega), hpo1, hkt]
                    show _ = if k1 = fc then nI 1 else nI 0
                    rw [if_pos c_8])
          | some pi =>
            rw [show opt (some pi) = nI pi from rfl]
            have hpi := hpo k1 pi hpo1
            refine lv_istore (lv' := [(4, .int (nI pi)), (3, .int (nI fc)), (0, .ref h), (1, .int k), (2, .int (nI k1))]) hx hb dX0_kernelAt_36 hl (by decide) rfl (fun ls hl => ?_)
            refine lv_iload hx hb dX0_kernelAt_38 (lv_at hl 0 rfl) ?_
            refine lv_iconst (v := (-1)) hx hb dX0_kernelAt_40 (by decide +kernel) ?_
            refine lv_icmp_ne (tgt := 55) hx hb dX0_kernelAt_41 (by decide) (fun c_9 => ?_) (fun c_9 => ?_)
            · refine lv_aload_n hx hb dX0_kernelAt_55 rfl (lv_at hl 2 rfl) ?_
              refine lv_aload_n hx hb dX0_kernelAt_56 rfl (lv_at hl 2 rfl) ?_
              refine x0_get S hin hK hP rfl 5 (by decide) rfl (by decide +kernel) (v := .ref a3) rfl dX0_kernelAt_57 ?_
              refine lv_iload hx hb dX0_kernelAt_60 (lv_at hl 0 rfl) ?_
              refine lv_aload_n hx hb dX0_kernelAt_62 rfl (lv_at hl 2 rfl) ?_
              refine x0_get S hin hK hP rfl 6 (by decide) rfl (by decide +kernel) (v := .int (nI (nC + mR))) rfl dX0_kernelAt_63 ?_
              refine nv_imul hx hb dX0_kernelAt_66 ?_
              refine lv_iload_n hx hb dX0_kernelAt_67 rfl (lv_at hl 1 rfl) ?_
              refine nv_iadd hx hb dX0_kernelAt_68 ?_
              refine nv_iald hx hb hK hP 3 0 rfl rfl (v := nI (M pi fc)) (ix_lt hpi (by omega)) (bd3 hm hn) (by rw [hM pi hpi fc (by omega), lm_lt (by omega)]) dX0_kernelAt_69 ?_
              refine nv_i2l hx hb (Nat.lt_trans (hB pi fc) hPl) dX0_kernelAt_70 ?_
              refine rdv_l S (c_X0_negative l D (M pi fc) hPl (hB pi fc)) (cwV 1 hts gX0_kernelAt_X0_negative rfl rfl rfl (by decide +kernel) ⟨Nat.le_of_ble_eq_true rfl, Nat.le_of_ble_eq_true rfl⟩) rfl hK hP (ci := 0) rfl rfl hl.1 (rest := []) rfl (Nat.le_of_ble_eq_true rfl) dX0_kernelAt_71 ⟨Nat.zero_le _, Nat.zero_le _⟩ hP hS hA (fun r_10 H locs er_10 hP hS => ?_)
              subst er_10
              refine nv_l2i hx hb dX0_kernelAt_74 ?_
              exact hret (nI (ng P (M pi fc))) 75 ls _ _ dX0_kernelAt_75 (rfl) hS (by
                  unfold sKer
                  rw [if_pos ⟨hrd0, inb_t hk1 (by omega)⟩, ix_n (show k1 < 2 ^ 31 by omega), hpo1, hkt]
                  rfl)
            · exact absurd c_9 (nI_m1 (by omega))
        · exact absurd c_6 (nI_m1 (by omega))
    · refine nv_if_ne (tgt := 17) hx hb dX0_kernelAt_12 (by decide) (by decide) (fun q => absurd q (by decide)) (fun _ => ?_)
      refine lv_iconst (v := (-1)) hx hb dX0_kernelAt_15 (by decide +kernel) ?_
      exact hret ((-1)) 16 ls _ _ dX0_kernelAt_16 (rfl) hS (by simp [sKer, inb_f nok1 (show nC < 2 ^ 31 by omega)])
end
section
/-! bits by numbers (nx_xor, pf_lI, pf_shr and g_and1's kin began as rows of BITS.to-paste) -/
theorem bq_s : ∀ n, n < 32 → ((nI n &&& 31).toBitVec.smod 32).toNat = n := by decide +kernel
theorem bq_l : ∀ n, n < 64 → (((nI n).toInt64 &&& 63).toBitVec.smod 64).toNat = n := by decide +kernel
theorem bq_xor (a b : Nat) : nI a ^^^ nI b = nI (a ^^^ b) := by
  apply Int32.toBitVec_inj.1
  show BitVec.ofNat 32 a ^^^ BitVec.ofNat 32 b = BitVec.ofNat 32 (a ^^^ b)
  apply BitVec.eq_of_getLsbD_eq
  intro i hi
  simp [hi]
theorem bq_shr {a d : Nat} {D : Int64} (hD : (D.toBitVec.smod 64).toNat = d) (h : a < 2 ^ 62) : lN a >>> D = lN (a / 2 ^ d) := by
  have hd : a / 2 ^ d ≤ a := Nat.div_le_self _ _
  apply Int64.toInt_inj.mp
  have e : (lN a >>> D).toInt = (lN a).toInt >>> d := by
    rw [← hD]
    exact BitVec.toInt_sshiftRight ..
  rw [e, Int.shiftRight_eq_div_pow, pk_lT (by omega), pk_lT (by omega)]
  rfl
theorem bq_and1 (a : Nat) : lN a &&& lN 1 = lN (a % 2) := by
  apply Int64.toBitVec_inj.1
  show BitVec.ofNat 64 a &&& BitVec.ofNat 64 1 = BitVec.ofNat 64 (a % 2)
  apply BitVec.eq_of_toNat_eq
  rw [BitVec.toNat_and]
  simp only [BitVec.toNat_ofNat]
  rw [show 1 % 2 ^ 64 = 2 ^ 1 - 1 by decide, Nat.and_two_pow_sub_one_eq_mod]
  omega
section BQ
variable {p : Program} {l : Launch} {e : Env} {R : Room} {s : State} {m : MethodId} {args : Array Value} {below : List Frame} {meth : Method} {c : Code} {H : Heap} {locs : List Loc} {cells slots : Nat} {Q : State → Prop} {cc : ByteArray} {pc : Nat} {ls : Array Slot} {rest : List Value}
theorem nv_ishl (hx : p.tables.exec = Jvm.exec) (hb : c.code = cc) {a k : Nat} (hk : k < 32) (h : a * 2 ^ k < 2 ^ 32) (hdg : decode cc pc = .ok (.ishl, 1))
    (kk : W p l e R s m args below meth c H locs cells slots Q (F0 m (pc + 1) ls (.int (nI (a * 2 ^ k)) :: rest))) : W p l e R s m args below meth c H locs cells slots Q (F0 m pc ls (.int (nI k) :: .int (nI a) :: rest)) := by
  refine lv_ishl hx hb hdg ?_
  rw [pk_shlN _ k (bq_s k hk) h]
  exact kk
theorem nv_ishr (hx : p.tables.exec = Jvm.exec) (hb : c.code = cc) {a k : Nat} (hk : k < 32) (h : a < 2 ^ 31) (hdg : decode cc pc = .ok (.ishr, 1))
    (kk : W p l e R s m args below meth c H locs cells slots Q (F0 m (pc + 1) ls (.int (nI (a / 2 ^ k)) :: rest))) : W p l e R s m args below meth c H locs cells slots Q (F0 m pc ls (.int (nI k) :: .int (nI a) :: rest)) := by
  refine lv_ishr hx hb hdg ?_
  rw [pk_shrN h _ k (bq_s k hk)]
  exact kk
theorem nv_ixor (hx : p.tables.exec = Jvm.exec) (hb : c.code = cc) {a b : Nat} (hdg : decode cc pc = .ok (.ixor, 1))
    (kk : W p l e R s m args below meth c H locs cells slots Q (F0 m (pc + 1) ls (.int (nI (a ^^^ b)) :: rest))) : W p l e R s m args below meth c H locs cells slots Q (F0 m pc ls (.int (nI b) :: .int (nI a) :: rest)) := by
  refine lv_ixor hx hb hdg ?_
  rw [bq_xor]
  exact kk
theorem nv_lshr (hx : p.tables.exec = Jvm.exec) (hb : c.code = cc) {a k : Nat} (hk : k < 64) (h : a < 2 ^ 62) (hdg : decode cc pc = .ok (.lshr, 1))
    (kk : W p l e R s m args below meth c H locs cells slots Q (F0 m (pc + 1) ls (.long (lN (a / 2 ^ k)) :: rest))) : W p l e R s m args below meth c H locs cells slots Q (F0 m pc ls (.int (nI k) :: .long (lN a) :: rest)) :=
  lv_lshr hx hb hdg (bq_shr (bq_l k hk) h) kk
theorem nv_land1 (hx : p.tables.exec = Jvm.exec) (hb : c.code = cc) {a : Nat} (hdg : decode cc pc = .ok (.land, 1))
    (kk : W p l e R s m args below meth c H locs cells slots Q (F0 m (pc + 1) ls (.long (lN (a % 2)) :: rest))) : W p l e R s m args below meth c H locs cells slots Q (F0 m pc ls (.long (lN 1) :: .long (lN a) :: rest)) := by
  refine lv_land hx hb hdg ?_
  rw [bq_and1]
  exact kk
end BQ
/-- a counter that goes down to -1: its number, one more -/
def dn (j : Nat) : Int32 := nI j + Int32.ofInt (-1)
theorem dn_s (k : Nat) : dn (k + 1) = nI k := pk_m1 k
theorem dn_lt {j : Nat} (hj : j ≤ 2 ^ 31) (h : dn j < 0) : j = 0 := by
  cases j with
  | zero => rfl
  | succ k =>
    rw [dn_s] at h
    exact absurd h (nI_pos (by omega))
theorem dn_ge {j : Nat} (h : ¬ dn j < 0) : ∃ k, j = k + 1 := by
  cases j with
  | zero => exact absurd (show dn 0 < 0 by decide +kernel) h
  | succ k => exact ⟨k, rfl⟩
/-! the reference's rows: 20 long numbers each -/
def Rq (m : Nat) (g : Nat → Int64) (M : Mat) : Prop := ∀ i, i < m → ∀ k, k < 20 → g (20 * i + k) = lN (M i k)
theorem Rq.up {m : Nat} {g : Nat → Int64} {M : Mat} (h : Rq m g M) {i k x : Nat} (hk : k < 20) : Rq m (vp_updL g (20 * i + k) (lN x)) (mu M i k x) := by
  intro a ha b hb
  unfold vp_updL mu
  by_cases q : 20 * a + b = 20 * i + k
  · obtain ⟨rfl, rfl⟩ : a = i ∧ b = k := by omega
    simp
  · rw [if_neg q, if_neg (fun z => q (by rw [z.1, z.2])), h a ha b hb]
theorem Rq.congr {m : Nat} {g : Nat → Int64} {M N : Mat} (h : Rq m g M) (e : ∀ i, i < m → ∀ k, k < 20 → M i k = N i k) : Rq m g N := fun i hi k hk => by rw [h i hi k hk, e i hi k hk]
theorem Rq.col0 {m : Nat} {g : Nat → Int64} {M N : Mat} (h : Rq m g N) : Rq m g (col2 0 M N) := h.congr (fun i _ k _ => by simp [col2])
theorem Rq.colw {m : Nat} {g : Nat → Int64} {M N : Mat} {j : Nat} (hj : 20 ≤ j) (h : Rq m g (col2 j M N)) : Rq m g M := h.congr (fun i _ k hk => by simp [col2, show k < j by omega])
theorem Rq.row0 {m : Nat} {g : Nat → Int64} {M N : Mat} (h : Rq m g N) : Rq m g (row2 0 M N) := h.congr (fun i _ k _ => by simp [row2])
theorem Rq.rowm {m : Nat} {g : Nat → Int64} {M N : Mat} {j : Nat} (hj : m ≤ j) (h : Rq m g (row2 j M N)) : Rq m g M := h.congr (fun i hi k _ => by simp [row2, show i < j by omega])
theorem sq_swp {m : Nat} {g : Nat → Int64} {M : Mat} {r s j : Nat} (hj : j < 20) (h : Rq m g (col2 j (swp M r s) M)) : Rq m (vp_updL (vp_updL g (20 * r + j) (lN (col2 j (swp M r s) M s j))) (20 * s + j) (lN (col2 j (swp M r s) M r j))) (col2 (j + 1) (swp M r s) M) := by
  refine ((h.up hj).up hj).congr ?_
  intro a _ b _
  simp only [mu, col2, swp]
  by_cases h1 : b = j
  · subst h1
    by_cases h2 : a = r
    · subst h2
      by_cases h3 : a = s
      · subst h3
        simp
      · simp [h3]
    · by_cases h3 : a = s
      · subst h3
        simp [h2]
      · simp [h2, h3]
  · by_cases h2 : b < j
    · simp [h1, h2, show b < j + 1 by omega]
    · simp [h1, h2, show ¬ b < j + 1 by omega]
theorem sq_scl {m P : Nat} {g : Nat → Int64} {M : Mat} {r fc j : Nat} (hj : j < 20) (h : Rq m g (col2 j (scl P M r fc) M)) : Rq m (vp_updL g (20 * r + j) (lN (col2 j (scl P M r fc) M r j * fc % P))) (col2 (j + 1) (scl P M r fc) M) := by
  refine (h.up hj).congr ?_
  intro a _ b _
  simp only [mu, col2, scl]
  by_cases h1 : b = j
  · subst h1
    by_cases h2 : a = r
    · subst h2
      simp
    · simp [h2]
  · by_cases h2 : b < j
    · simp [h1, h2, show b < j + 1 by omega]
    · simp [h1, h2, show ¬ b < j + 1 by omega]
theorem sq_tkr {m P : Nat} {f : Nat → Int64} {M : Mat} {r i0 g j : Nat} (hj : j < 20) (h : Rq m f (col2 j (tkr P M r i0 g) M)) : Rq m (vp_updL f (20 * i0 + j) (lN ((col2 j (tkr P M r i0 g) M i0 j + g * col2 j (tkr P M r i0 g) M r j) % P))) (col2 (j + 1) (tkr P M r i0 g) M) := by
  refine (h.up hj).congr ?_
  intro a _ b _
  simp only [mu, col2, tkr]
  by_cases h1 : b = j
  · subst h1
    by_cases h2 : a = i0
    · subst h2
      simp
    · simp [h2]
  · by_cases h2 : b < j
    · simp [h1, h2, show b < j + 1 by omega]
    · simp [h1, h2, show ¬ b < j + 1 by omega]
/-- one row more of the clearing; the pivot's own row is taken P - 0 times -/
theorem sq_clr {m P : Nat} {g : Nat → Int64} {M : Mat} {r c j t : Nat} (hb : bnd P M) (ht : t = if j = r then 0 else row2 j (clr P M r c) M j c) (h : Rq m g (tkr P (row2 j (clr P M r c) M) r j (P - t))) : Rq m g (row2 (j + 1) (clr P M r c) M) := by
  refine h.congr ?_
  intro a _ b _
  have e1 : row2 j (clr P M r c) M r b = M r b := by
    simp only [row2, clr]
    split <;> simp
  have e2 : row2 j (clr P M r c) M j c = M j c := by simp [row2]
  have e3 : row2 j (clr P M r c) M j b = M j b := by simp [row2]
  rw [e2] at ht
  simp only [tkr]
  by_cases h1 : a = j
  · subst h1
    rw [if_pos rfl, e1, e3]
    by_cases h2 : a = r
    · subst h2
      rw [if_pos rfl] at ht
      rw [ht, Nat.sub_zero, Nat.add_mul_mod_self_left, Nat.mod_eq_of_lt (hb _ _)]
      simp [row2, clr]
    · rw [if_neg h2] at ht
      rw [ht]
      simp [row2, clr, h2]
  · rw [if_neg h1]
    by_cases h2 : a < j
    · simp [row2, h2, show a < j + 1 by omega]
    · simp [row2, h2, show ¬ a < j + 1 by omega]
/-- the laying down, two places at a time -/
def Rqq (i j : Nat) (g : Nat → Int64) (M : Mat) : Prop := ∀ a b, b < 20 → (a < i ∨ (a = i ∧ (b < j ∨ (10 ≤ b ∧ b < 10 + j)))) → g (20 * a + b) = lN (M a b)
theorem Rqq.put {i j : Nat} {g : Nat → Int64} {M : Mat} (h : Rqq i j g M) (hj : j < 10) {q x y : Nat} (hq : q = 20 * i + (10 + j)) (hx : x = M i j) (hy : y = M i (10 + j)) : Rqq i (j + 1) (vp_updL (vp_updL g (20 * i + j) (lN x)) q (lN y)) M := by
  subst hq hx hy
  intro a b hb hab
  unfold vp_updL
  by_cases e : 20 * a + b = 20 * i + (10 + j)
  · obtain ⟨rfl, rfl⟩ : a = i ∧ b = 10 + j := by omega
    simp
  · rw [if_neg e]
    by_cases e2 : 20 * a + b = 20 * i + j
    · obtain ⟨rfl, rfl⟩ : a = i ∧ b = j := by omega
      simp
    · rw [if_neg e2]
      exact h a b hb (by omega)
theorem Rqq.next {i j : Nat} {g : Nat → Int64} {M : Mat} (hj : j = 10) (h : Rqq i j g M) : Rqq (i + 1) 0 g M := fun a b hb hab => h a b hb (by omega)
theorem Rqq.all {m : Nat} {g : Nat → Int64} {M : Mat} {i : Nat} (hi : m ≤ i) (h : Rqq i 0 g M) : Rq m g M := fun a ha b hb => h a b hb (Or.inl (by omega))
/-- the power by squares from the top -/
theorem pt_step {P x t k : Nat} : (x ^ (t / 2 ^ (k + 1)) % P) * (x ^ (t / 2 ^ (k + 1)) % P) % P = x ^ (2 * (t / 2 ^ (k + 1))) % P := by
  rw [← Nat.mul_mod, ← Nat.pow_add]
  congr 2
  omega
theorem pt_half {t k : Nat} : t / 2 ^ k = 2 * (t / 2 ^ (k + 1)) + t / 2 ^ k % 2 := by
  rw [Nat.pow_succ, ← Nat.div_div_eq_div_mul]
  omega
theorem pt_1 {P x t k : Nat} (h : t / 2 ^ k % 2 = 1) : (x ^ (2 * (t / 2 ^ (k + 1))) % P) * x % P = x ^ (t / 2 ^ k) % P := by
  have e : x ^ (t / 2 ^ k) = x ^ (2 * (t / 2 ^ (k + 1))) * x := by
    rw [← Nat.pow_succ]
    congr 1
    have := pt_half (t := t) (k := k)
    omega
  rw [e, Nat.mul_mod, Nat.mod_mod, ← Nat.mul_mod]
theorem pt_0 {P x t k : Nat} (h : ¬ t / 2 ^ k % 2 = 1) : x ^ (2 * (t / 2 ^ (k + 1))) % P = x ^ (t / 2 ^ k) % P := by
  congr 2
  have := pt_half (t := t) (k := k)
  omega
/-- what the reference's loop for primes knows -/
def AllUp (v d : Nat) : Prop := ∀ e, 2 ≤ e → e < d → v % e ≠ 0
theorem au_step {v d : Nat} (h : AllUp v d) (hne : v % d ≠ 0) : AllUp v (d + 1) := by
  intro e h1 h2
  rcases Nat.lt_or_ge e d with q | q
  · exact h e h1 q
  · rw [show e = d by omega]
    exact hne
theorem au_yes {v d : Nat} (hv2 : 2 ≤ v) (hv : v < 2 ^ 31) (h : AllUp v d) (hgt : v < d * d) : IsPr (nI v) (nI 1) := by
  refine Or.inl ⟨v, hv, ⟨hv2, fun e h1 h2 h3 => ?_⟩, rfl, rfl⟩
  refine h e h1 ?_ h3
  rcases Nat.lt_or_ge e d with q | q
  · exact q
  · have : d * d ≤ e * e := Nat.mul_le_mul q q
    omega
theorem au_le {i : Int32} (h : i ≤ nI 1) : IsPr i (nI 0) := pr_small (by
  rw [Int32.le_iff_toInt_le, nI_toInt (by decide)] at h
  rw [Int32.lt_iff_toInt_lt, nI_toInt (by decide)]
  omega)
theorem au_gt {i : Int32} (h : ¬ i ≤ nI 1) : ∃ v : Nat, 2 ≤ v ∧ v < 2 ^ 31 ∧ i = nI v := pr_ge (by
  rw [Int32.le_iff_toInt_le, nI_toInt (by decide)] at h
  rw [Int32.lt_iff_toInt_lt, nI_toInt (by decide)]
  omega)
/-- whether two places are there: the numbers and 1, or 0 -/
def Isin2 (m n : Nat) (i j : Int32) (V : Prop) (r : Int32) : Prop := (∃ k1 k2 : Nat, k1 < m ∧ k2 < n ∧ i = nI k1 ∧ j = nI k2 ∧ V ∧ r = nI 1) ∨ (¬ (inb m i = true ∧ inb n j = true) ∧ r = nI 0)
/-- the reference's fields when it is valid, when it is reduced -/
def MdV (pj : Int64) (mi ni : Int32) (P mR nC : Nat) : Prop := mi = nI mR ∧ ni = nI nC ∧ pj = lN P ∧ 2 ≤ P ∧ P < 2 ^ 31 ∧ 1 ≤ mR ∧ mR ≤ 10 ∧ 1 ≤ nC ∧ nC ≤ 10
def MdQ (P mR nC rk : Nat) (gR : Nat → Int64) (gP : Nat → Int32) (M : Mat) (pc : Nat → Nat) : Prop :=
  Rq mR gR M ∧ bnd P M ∧ rk ≤ mR ∧ rk ≤ nC ∧ (∀ i, i < rk → gP i = nI (pc i)) ∧ (∀ i, i < rk → pc i < nC) ∧ cnt (rowOf pc rk) nC + rk = nC
end
section
theorem rhs_no {pj : Int64} {mi ni i x : Int32} {vd P mR nC : Nat} (hV : vd ≠ 0 → MdV pj mi ni P mR nC) (hI : vd = 0 → mR = 0 ∧ nC = 0) (hno : ¬ (inb mR i = true ∧ inb nC (nI 0) = true)) : ¬ okRhs mR i x := by
  intro z
  by_cases hv : vd = 0
  · have z1 := z.1
    rw [(hI hv).1, inb_0] at z1
    exact absurd z1 (by decide)
  · obtain ⟨-, -, -, -, -, h1, h2, h3, h4⟩ := hV hv
    exact hno ⟨z.1, inb_t (by omega) (by omega)⟩
theorem gp_step {g : Nat → Int32} {pc : Nat → Nat} {v c : Nat} (h : ∀ a, a < v → g a = nI (pc a)) : ∀ a, a < v + 1 → upd g v (nI c) a = nI (if a = v then c else pc a) := by
  intro a ha
  unfold upd
  split
  · rfl
  · exact h a (by omega)
theorem le_of_nlt {x y : Int32} (h : ¬ x < y) : y ≤ x := by
  rw [Int32.lt_iff_toInt_lt] at h
  rw [Int32.le_iff_toInt_le]
  omega
theorem nle_of_lt {x y : Int32} (h : x < y) : ¬ y ≤ x := by
  rw [Int32.lt_iff_toInt_lt] at h
  rw [Int32.le_iff_toInt_le]
  omega
end
section
set_option maxHeartbeats 4000000 in
set_option maxRecDepth 100000 in
theorem c_X1_isPrime (l : Launch) (D : va_G)  (i : Int32)  : RdI l yX1_isPrime wsX1_isPrime ({ frames := 0, cells := 0, slots := 0, locals := 0 }) [.int i] D ([]) [] (fun r => IsPr i r) := by
  refine RdI.mk (cc := cX1_isPrime) (maxL := 4) (rt := .boolean) (by decide) rfl (Nat.le_of_ble_eq_true rfl) ?_
  intro p e s mm args below meth c Q ls A S hK hP hA hS hl hret
  have hx := S.1
  have hb := S.2.1
  have hts := S.2.2.2.2
  have hown := S.2.2.2.1
  have hl : lv_has ls 4 [(0, .int i)] := hl
  refine lv_iload_n hx hb dX1_isPrime_0 rfl (lv_at hl 0 rfl) ?_
  refine lv_iconst (v := nI 1) hx hb dX1_isPrime_1 (by decide +kernel) ?_
  refine lv_icmp_le (tgt := 9) hx hb dX1_isPrime_2 (by decide) (fun c_1 => ?_) (fun c_1 => ?_)
  · refine lv_iconst (v := nI 0) hx hb dX1_isPrime_9 (by decide +kernel) ?_
    refine lv_istore_n (lv' := [(1, .int (nI 0)), (0, .int i)]) hx hb dX1_isPrime_10 rfl hl (by decide) rfl (fun ls hl => ?_)
    refine lv_ldc2 (v := lN 2) hx hb hown (hts (.constantLong RX1 48 (2)) (by decide +kernel)) dX1_isPrime_11 ?_
    refine lv_lstore_n (lv' := [(2, .long (lN 2)), (1, .int (nI 0)), (0, .int i)]) hx hb dX1_isPrime_14 rfl hl (by decide) rfl (fun ls hl => ?_)
    refine lv_iload_n hx hb dX1_isPrime_15 rfl (lv_at hl 1 rfl) ?_
    refine nv_if_eq (tgt := 50) hx hb dX1_isPrime_16 (by decide) (by decide) (fun _ => ?_) (fun q => absurd q (by decide))
    refine lv_iload_n hx hb dX1_isPrime_50 rfl (lv_at hl 1 rfl) ?_
    exact hret (nI 0) 51 ls _ _ dX1_isPrime_51 (by decide +kernel) hS (au_le c_1)
  · obtain ⟨v, hv2, hvl, rfl⟩ := au_gt c_1
    refine lv_iconst (v := nI 1) hx hb dX1_isPrime_5 (by decide +kernel) ?_
    refine lv_goto (tgt := 10) hx hb dX1_isPrime_6 (by decide) ?_
    refine lv_istore_n (lv' := [(1, .int (nI 1)), (0, .int (nI v))]) hx hb dX1_isPrime_10 rfl hl (by decide) rfl (fun ls hl => ?_)
    refine lv_ldc2 (v := lN 2) hx hb hown (hts (.constantLong RX1 48 (2)) (by decide +kernel)) dX1_isPrime_11 ?_
    refine lv_lstore_n (lv' := [(2, .long (lN 2)), (1, .int (nI 1)), (0, .int (nI v))]) hx hb dX1_isPrime_14 rfl hl (by decide) rfl (fun ls hl => ?_)
    have L : ∀ (nL : Nat) (d : Nat), (2 ≤ d) → (d ≤ 46343) → (AllUp v d) → (46344 ≤ d + nL) → ∀ (ls : Array Slot) (H : Heap) (locs : List Loc), lv_has ls 4 [(0, .int (nI v)), (1, .int (nI 1)), (2, .long (lN d))] → va_P D vwCl ([]) H → va_S A s.heap H locs → W p l e ({ frames := 0, cells := 0, slots := 0, locals := 0 }) s mm args below meth c H locs 0 0 Q (F0 mm 15 ls []) := by
      intro nL
      induction nL with
      | zero => intro d hd1 hd2 hinv hfuel; exfalso; omega
      | succ nL ihL =>
        intro d hd1 hd2 hinv hfuel ls H locs hl hP hS
        refine lv_iload_n hx hb dX1_isPrime_15 rfl (lv_at hl 1 rfl) ?_
        refine nv_if_eq (tgt := 50) hx hb dX1_isPrime_16 (by decide) (by decide) (fun q => absurd q (by decide)) (fun _ => ?_)
        refine lv_lload_n hx hb dX1_isPrime_19 rfl (lv_at hl 2 rfl) ?_
        refine lv_lload_n hx hb dX1_isPrime_20 rfl (lv_at hl 2 rfl) ?_
        refine nv_lmul hx hb dX1_isPrime_21 ?_
        refine lv_iload_n hx hb dX1_isPrime_22 rfl (lv_at hl 0 rfl) ?_
        refine nv_i2l hx hb (by omega) dX1_isPrime_23 ?_
        refine nv_lcmp_gt (tgt := 50) hx hb dX1_isPrime_24 dX1_isPrime_25 (by decide) (mul_b (by omega) (by omega)) (by omega) (fun c_4 => ?_) (fun c_4 => ?_)
        · refine lv_iload_n hx hb dX1_isPrime_50 rfl (lv_at hl 1 rfl) ?_
          exact hret (nI 1) 51 ls _ _ dX1_isPrime_51 (by decide +kernel) hS (au_yes hv2 hvl hinv c_4)
        · have hd3 := sq_lt hvl c_4
          refine lv_iload_n hx hb dX1_isPrime_28 rfl (lv_at hl 0 rfl) ?_
          refine nv_i2l hx hb (by omega) dX1_isPrime_29 ?_
          refine lv_lload_n hx hb dX1_isPrime_30 rfl (lv_at hl 2 rfl) ?_
          refine nv_lrem hx hb (by omega) (by omega) (by omega) dX1_isPrime_31 ?_
          refine lv_lconst (v := lN 0) hx hb dX1_isPrime_32 rfl ?_
          refine nv_lcmp_eq (tgt := 41) hx hb dX1_isPrime_33 dX1_isPrime_34 (by decide) (Nat.lt_of_lt_of_le (Nat.mod_lt _ (by omega)) (show d ≤ 2 ^ 63 by omega)) (by omega) (fun c_5 => ?_) (fun c_5 => ?_)
          · refine lv_iconst (v := nI 0) hx hb dX1_isPrime_41 (by decide +kernel) ?_
            refine lv_istore_n (lv' := [(1, .int (nI 0)), (0, .int (nI v)), (2, .long (lN d))]) hx hb dX1_isPrime_42 rfl hl (by decide) rfl (fun ls hl => ?_)
            refine lv_lload_n hx hb dX1_isPrime_43 rfl (lv_at hl 2 rfl) ?_
            refine lv_lconst (v := lN 1) hx hb dX1_isPrime_44 rfl ?_
            refine nv_ladd hx hb dX1_isPrime_45 ?_
            refine lv_lstore_n (lv' := [(2, .long (lN (d + 1))), (1, .int (nI 0)), (0, .int (nI v))]) hx hb dX1_isPrime_46 rfl hl (by decide) rfl (fun ls hl => ?_)
            refine lv_goto (tgt := 15) hx hb dX1_isPrime_47 (by decide) ?_
            refine lv_iload_n hx hb dX1_isPrime_15 rfl (lv_at hl 1 rfl) ?_
            refine nv_if_eq (tgt := 50) hx hb dX1_isPrime_16 (by decide) (by decide) (fun _ => ?_) (fun q => absurd q (by decide))
            refine lv_iload_n hx hb dX1_isPrime_50 rfl (lv_at hl 1 rfl) ?_
            exact hret (nI 0) 51 ls _ _ dX1_isPrime_51 (by decide +kernel) hS (pr_not hvl (fun hp => hp.2 d (by omega) c_4 c_5))
          · refine lv_iconst (v := nI 1) hx hb dX1_isPrime_37 (by decide +kernel) ?_
            refine lv_goto (tgt := 42) hx hb dX1_isPrime_38 (by decide) ?_
            refine lv_istore_n (lv' := [(1, .int (nI 1)), (0, .int (nI v)), (2, .long (lN d))]) hx hb dX1_isPrime_42 rfl hl (by decide) rfl (fun ls hl => ?_)
            refine lv_lload_n hx hb dX1_isPrime_43 rfl (lv_at hl 2 rfl) ?_
            refine lv_lconst (v := lN 1) hx hb dX1_isPrime_44 rfl ?_
            refine nv_ladd hx hb dX1_isPrime_45 ?_
            refine lv_lstore_n (lv' := [(2, .long (lN (d + 1))), (1, .int (nI 1)), (0, .int (nI v))]) hx hb dX1_isPrime_46 rfl hl (by decide) rfl (fun ls hl => ?_)
            refine lv_goto (tgt := 15) hx hb dX1_isPrime_47 (by decide) ?_
            exact ihL (d + 1) (by omega) (by omega) (au_step hinv c_5) (by omega) ls _ _ (lv_sub hl [2, 1, 0] rfl) hP hS
    exact L 46344 2 (by omega) (by omega) (fun e h1 h2 => by omega) (by omega) ls _ _ (lv_sub hl [2, 1, 0] rfl) hP hS
set_option maxHeartbeats 4000000 in
set_option maxRecDepth 100000 in
theorem c_X1_isPlace (l : Launch) (D : va_G) {h b1 b2 b3 b4 b5 : Nat} {cJ cI : ClassId} {gA gB : Nat → Int64} {rd rk : Nat} {gR : Nat → Int64} {gP : Nat → Int32} {gS : Nat → Int64} {pj : Int64} {mi ni : Int32} {vd P mR nC : Nat} (i j : Int32) (hvd : vd < 2) (hV : vd ≠ 0 → MdV pj mi ni P mR nC) (hI : vd = 0 → mR = 0 ∧ nC = 0) : RdI l yX1_isPlace wsX1_isPlace ({ frames := 0, cells := 0, slots := 0, locals := 0 }) [.ref h, .int i, .int j] D (mdW h b1 b2 b3 b4 b5 cJ cI pj mi ni vd gA gB rd rk gR gP gS) [(cJ, .long), (cI, .int)] (fun r => Isin2 mR nC i j (vd ≠ 0) r) := by
  refine RdI.mk (cc := cX1_isPlace) (maxL := 3) (rt := .boolean) (by decide) rfl (Nat.le_of_ble_eq_true rfl) ?_
  intro p e s mm args below meth c Q ls A S hK hP hA hS hl hret
  have hx := S.1
  have hb := S.2.1
  have hts := S.2.2.2.2
  have hown := S.2.2.2.1
  have hin : ∀ w ∈ wsX10, w ∈ wsX1_isPlace := fun w h => List.mem_cons_of_mem _ (List.mem_append_right _ h)
  have hl : lv_has ls 3 [(0, .ref h), (1, .int i), (2, .int j)] := hl
  refine lv_aload_n hx hb dX1_isPlace_0 rfl (lv_at hl 0 rfl) ?_
  refine x1_get S hin hK hP rfl 4 (by decide) rfl (by decide +kernel) (v := .int (nI vd)) rfl dX1_isPlace_1 ?_
  refine nv_if_eq (tgt := 35) hx hb dX1_isPlace_4 (by decide) (by omega) (fun c_1 => ?_) (fun c_1 => ?_)
  · refine lv_iconst (v := nI 0) hx hb dX1_isPlace_35 (by decide +kernel) ?_
    exact hret (nI 0) 36 ls _ _ dX1_isPlace_36 (by decide +kernel) hS (Or.inr ⟨fun z => by rw [(hI c_1).1, inb_0] at z; exact absurd z.1 (by decide), rfl⟩)
  · have hV0 : vd ≠ 0 := by omega
    obtain ⟨rfl, rfl, rfl, hP2, hPl, hm1, hm, hn1, hn⟩ := hV hV0
    refine lv_iload_n hx hb dX1_isPlace_7 rfl (lv_at hl 1 rfl) ?_
    refine lv_if_lt (tgt := 35) hx hb dX1_isPlace_8 (by decide) (fun c_2 => ?_) (fun c_2 => ?_)
    · refine lv_iconst (v := nI 0) hx hb dX1_isPlace_35 (by decide +kernel) ?_
      exact hret (nI 0) 36 ls _ _ dX1_isPlace_36 (by decide +kernel) hS (Or.inr ⟨fun z => by rw [inb_f (out_row (by omega) (Or.inl c_2)) (by omega)] at z; exact absurd z.1 (by decide), rfl⟩)
    · refine lv_iload_n hx hb dX1_isPlace_11 rfl (lv_at hl 1 rfl) ?_
      refine lv_aload_n hx hb dX1_isPlace_12 rfl (lv_at hl 0 rfl) ?_
      refine x1_get S hin hK hP rfl 2 (by decide) rfl (by decide +kernel) (v := .int (nI mR)) rfl dX1_isPlace_13 ?_
      refine lv_icmp_ge (tgt := 35) hx hb dX1_isPlace_16 (by decide) (fun c_3 => ?_) (fun c_3 => ?_)
      · refine lv_iconst (v := nI 0) hx hb dX1_isPlace_35 (by decide +kernel) ?_
        exact hret (nI 0) 36 ls _ _ dX1_isPlace_36 (by decide +kernel) hS (Or.inr ⟨fun z => by rw [inb_f (out_row (by omega) (Or.inr c_3)) (by omega)] at z; exact absurd z.1 (by decide), rfl⟩)
      · obtain ⟨k1, hk1, rfl⟩ := in_row (i := i) (m := mR) (by omega) c_2 c_3
        refine lv_iload_n hx hb dX1_isPlace_19 rfl (lv_at hl 2 rfl) ?_
        refine lv_if_lt (tgt := 35) hx hb dX1_isPlace_20 (by decide) (fun c_4 => ?_) (fun c_4 => ?_)
        · refine lv_iconst (v := nI 0) hx hb dX1_isPlace_35 (by decide +kernel) ?_
          exact hret (nI 0) 36 ls _ _ dX1_isPlace_36 (by decide +kernel) hS (Or.inr ⟨fun z => by rw [inb_f (m := nC) (out_row (by omega) (Or.inl c_4)) (by omega)] at z; exact absurd z.2 (by decide), rfl⟩)
        · refine lv_iload_n hx hb dX1_isPlace_23 rfl (lv_at hl 2 rfl) ?_
          refine lv_aload_n hx hb dX1_isPlace_24 rfl (lv_at hl 0 rfl) ?_
          refine x1_get S hin hK hP rfl 3 (by decide) rfl (by decide +kernel) (v := .int (nI nC)) rfl dX1_isPlace_25 ?_
          refine lv_icmp_ge (tgt := 35) hx hb dX1_isPlace_28 (by decide) (fun c_5 => ?_) (fun c_5 => ?_)
          · refine lv_iconst (v := nI 0) hx hb dX1_isPlace_35 (by decide +kernel) ?_
            exact hret (nI 0) 36 ls _ _ dX1_isPlace_36 (by decide +kernel) hS (Or.inr ⟨fun z => by rw [inb_f (m := nC) (out_row (by omega) (Or.inr c_5)) (by omega)] at z; exact absurd z.2 (by decide), rfl⟩)
          · obtain ⟨k2, hk2, rfl⟩ := in_row (i := j) (m := nC) (by omega) c_4 c_5
            refine lv_iconst (v := nI 1) hx hb dX1_isPlace_31 (by decide +kernel) ?_
            refine lv_goto (tgt := 36) hx hb dX1_isPlace_32 (by decide) ?_
            exact hret (nI 1) 36 ls _ _ dX1_isPlace_36 (by decide +kernel) hS (Or.inl ⟨k1, k2, hk1, hk2, rfl, rfl, hV0, rfl⟩)
set_option maxHeartbeats 4000000 in
set_option maxRecDepth 100000 in
theorem c_X1_isSquare (l : Launch) (D : va_G) {h b1 b2 b3 b4 b5 : Nat} {cJ cI : ClassId} {gA gB : Nat → Int64} {rd rk : Nat} {gR : Nat → Int64} {gP : Nat → Int32} {gS : Nat → Int64} {pj : Int64} {mi ni : Int32} {vd P mR nC : Nat} (i j : Int32) (hvd : vd < 2) (hV : vd ≠ 0 → MdV pj mi ni P mR nC) (hI : vd = 0 → mR = 0 ∧ nC = 0) : RdI l yX1_isSquare wsX1_isSquare ({ frames := 0, cells := 0, slots := 0, locals := 0 }) [.ref h, .int i, .int j] D (mdW h b1 b2 b3 b4 b5 cJ cI pj mi ni vd gA gB rd rk gR gP gS) [(cJ, .long), (cI, .int)] (fun r => Isin2 mR mR i j (vd ≠ 0) r) := by
  refine RdI.mk (cc := cX1_isSquare) (maxL := 3) (rt := .boolean) (by decide) rfl (Nat.le_of_ble_eq_true rfl) ?_
  intro p e s mm args below meth c Q ls A S hK hP hA hS hl hret
  have hx := S.1
  have hb := S.2.1
  have hts := S.2.2.2.2
  have hown := S.2.2.2.1
  have hin : ∀ w ∈ wsX10, w ∈ wsX1_isSquare := fun w h => List.mem_cons_of_mem _ (List.mem_append_right _ h)
  have hl : lv_has ls 3 [(0, .ref h), (1, .int i), (2, .int j)] := hl
  refine lv_aload_n hx hb dX1_isSquare_0 rfl (lv_at hl 0 rfl) ?_
  refine x1_get S hin hK hP rfl 4 (by decide) rfl (by decide +kernel) (v := .int (nI vd)) rfl dX1_isSquare_1 ?_
  refine nv_if_eq (tgt := 35) hx hb dX1_isSquare_4 (by decide) (by omega) (fun c_1 => ?_) (fun c_1 => ?_)
  · refine lv_iconst (v := nI 0) hx hb dX1_isSquare_35 (by decide +kernel) ?_
    exact hret (nI 0) 36 ls _ _ dX1_isSquare_36 (by decide +kernel) hS (Or.inr ⟨fun z => by rw [(hI c_1).1, inb_0] at z; exact absurd z.1 (by decide), rfl⟩)
  · have hV0 : vd ≠ 0 := by omega
    obtain ⟨rfl, rfl, rfl, hP2, hPl, hm1, hm, hn1, hn⟩ := hV hV0
    refine lv_iload_n hx hb dX1_isSquare_7 rfl (lv_at hl 1 rfl) ?_
    refine lv_if_lt (tgt := 35) hx hb dX1_isSquare_8 (by decide) (fun c_2 => ?_) (fun c_2 => ?_)
    · refine lv_iconst (v := nI 0) hx hb dX1_isSquare_35 (by decide +kernel) ?_
      exact hret (nI 0) 36 ls _ _ dX1_isSquare_36 (by decide +kernel) hS (Or.inr ⟨fun z => by rw [inb_f (out_row (by omega) (Or.inl c_2)) (by omega)] at z; exact absurd z.1 (by decide), rfl⟩)
    · refine lv_iload_n hx hb dX1_isSquare_11 rfl (lv_at hl 1 rfl) ?_
      refine lv_aload_n hx hb dX1_isSquare_12 rfl (lv_at hl 0 rfl) ?_
      refine x1_get S hin hK hP rfl 2 (by decide) rfl (by decide +kernel) (v := .int (nI mR)) rfl dX1_isSquare_13 ?_
      refine lv_icmp_ge (tgt := 35) hx hb dX1_isSquare_16 (by decide) (fun c_3 => ?_) (fun c_3 => ?_)
      · refine lv_iconst (v := nI 0) hx hb dX1_isSquare_35 (by decide +kernel) ?_
        exact hret (nI 0) 36 ls _ _ dX1_isSquare_36 (by decide +kernel) hS (Or.inr ⟨fun z => by rw [inb_f (out_row (by omega) (Or.inr c_3)) (by omega)] at z; exact absurd z.1 (by decide), rfl⟩)
      · obtain ⟨k1, hk1, rfl⟩ := in_row (i := i) (m := mR) (by omega) c_2 c_3
        refine lv_iload_n hx hb dX1_isSquare_19 rfl (lv_at hl 2 rfl) ?_
        refine lv_if_lt (tgt := 35) hx hb dX1_isSquare_20 (by decide) (fun c_4 => ?_) (fun c_4 => ?_)
        · refine lv_iconst (v := nI 0) hx hb dX1_isSquare_35 (by decide +kernel) ?_
          exact hret (nI 0) 36 ls _ _ dX1_isSquare_36 (by decide +kernel) hS (Or.inr ⟨fun z => by rw [inb_f (m := mR) (out_row (by omega) (Or.inl c_4)) (by omega)] at z; exact absurd z.2 (by decide), rfl⟩)
        · refine lv_iload_n hx hb dX1_isSquare_23 rfl (lv_at hl 2 rfl) ?_
          refine lv_aload_n hx hb dX1_isSquare_24 rfl (lv_at hl 0 rfl) ?_
          refine x1_get S hin hK hP rfl 2 (by decide) rfl (by decide +kernel) (v := .int (nI mR)) rfl dX1_isSquare_25 ?_
          refine lv_icmp_ge (tgt := 35) hx hb dX1_isSquare_28 (by decide) (fun c_5 => ?_) (fun c_5 => ?_)
          · refine lv_iconst (v := nI 0) hx hb dX1_isSquare_35 (by decide +kernel) ?_
            exact hret (nI 0) 36 ls _ _ dX1_isSquare_36 (by decide +kernel) hS (Or.inr ⟨fun z => by rw [inb_f (m := mR) (out_row (by omega) (Or.inr c_5)) (by omega)] at z; exact absurd z.2 (by decide), rfl⟩)
          · obtain ⟨k2, hk2, rfl⟩ := in_row (i := j) (m := mR) (by omega) c_4 c_5
            refine lv_iconst (v := nI 1) hx hb dX1_isSquare_31 (by decide +kernel) ?_
            refine lv_goto (tgt := 36) hx hb dX1_isSquare_32 (by decide) ?_
            exact hret (nI 1) 36 ls _ _ dX1_isSquare_36 (by decide +kernel) hS (Or.inl ⟨k1, k2, hk1, hk2, rfl, rfl, hV0, rfl⟩)
set_option maxHeartbeats 4000000 in
set_option maxRecDepth 100000 in
theorem c_X1_get (l : Launch) (D : va_G) {h b1 b2 b3 b4 b5 : Nat} {cJ cI : ClassId} {gA gB : Nat → Int64} {rd rk : Nat} {gR : Nat → Int64} {gP : Nat → Int32} {gS : Nat → Int64} {pj : Int64} {mi ni : Int32} {vd P mR nC : Nat} {A0 : Mat} (i j : Int32) (hvd : vd < 2) (hV : vd ≠ 0 → MdV pj mi ni P mR nC) (hI : vd = 0 → mR = 0 ∧ nC = 0) (hA0 : ∀ a, a < mR → ∀ k, k < nC → gA (10 * a + k) = lN (A0 a k)) : WrI (U := Unit) l yX1_get wsX1_get ({ frames := 1, cells := 0, slots := 0, locals := 22 }) [.ref h, .int i, .int j] D (mdW h b1 b2 b3 b4 b5 cJ cI pj mi ni vd gA gB rd rk gR gP gS) [(cJ, .long), (cI, .int)] (fun r _ => r = sGet mR nC A0 i j) (fun _ => mdW h b1 b2 b3 b4 b5 cJ cI pj mi ni vd gA gB rd rk gR gP gS) := by
  refine WrI.mk (cc := cX1_get) (maxL := 3) (rt := .int) (by decide) rfl (Nat.le_of_ble_eq_true rfl) ?_
  intro p e s mm args below meth c Q ls A S hK hP hD hA hS hl hret
  have hx := S.1
  have hb := S.2.1
  have hts := S.2.2.2.2
  have hown := S.2.2.2.1
  have hin : ∀ w ∈ wsX10, w ∈ wsX1_get := fun w h => List.mem_cons_of_mem _ (List.mem_append_right _ h)
  have hl : lv_has ls 3 [(0, .ref h), (1, .int i), (2, .int j)] := hl
  refine lv_aload_n hx hb dX1_get_0 rfl (lv_at hl 0 rfl) ?_
  refine lv_iconst (v := nI 0) hx hb dX1_get_1 (by decide +kernel) ?_
  refine x1_put S hin hK hP hD hS rfl 0 (by decide) rfl (by decide +kernel) rfl (ty := .int) (v := .int (nI 0)) rfl rfl rfl (Nat.le_of_ble_eq_true rfl) dX1_get_2 (fun H locs hP hD hS => ?_)
  have hP : va_P D vwCl (mdW h b1 b2 b3 b4 b5 cJ cI pj mi ni vd gA gB rd rk gR gP gS) H := hP
  have hD : va_D A (mdW h b1 b2 b3 b4 b5 cJ cI pj mi ni vd gA gB rd rk gR gP gS) := hD
  refine lv_aload_n hx hb dX1_get_5 rfl (lv_at hl 0 rfl) ?_
  refine lv_iload_n hx hb dX1_get_6 rfl (lv_at hl 1 rfl) ?_
  refine lv_iload_n hx hb dX1_get_7 rfl (lv_at hl 2 rfl) ?_
  refine rdv_i S (c_X1_isPlace l D i j hvd hV hI) (cwV 2 hts gX1_get_X1_isPlace rfl rfl rfl (by decide +kernel) ⟨Nat.le_of_ble_eq_true rfl, Nat.le_of_ble_eq_true rfl⟩) rfl hK hP (ci := 1) rfl rfl hl.1 (rest := []) rfl (Nat.le_of_ble_eq_true rfl) dX1_get_8 ⟨Nat.zero_le _, Nat.zero_le _⟩ hP hS hA (fun r_1 H locs er_1 hP hS => ?_)
  rcases er_1 with ⟨k1, k2, hk1, hk2, rfl, rfl, hV0, rfl⟩ | ⟨hno, rfl⟩
  · obtain ⟨rfl, rfl, rfl, hP2, hPl, hm1, hm, hn1, hn⟩ := hV hV0
    refine nv_if_eq (tgt := 29) hx hb dX1_get_11 (by decide) (by decide) (fun q => absurd q (by decide)) (fun _ => ?_)
    refine lv_aload_n hx hb dX1_get_14 rfl (lv_at hl 0 rfl) ?_
    refine x1_get S hin hK hP rfl 5 (by decide) rfl (by decide +kernel) (v := .ref b1) rfl dX1_get_15 ?_
    refine lv_bipush (v := nI 10) hx hb dX1_get_18 (by decide +kernel) ?_
    refine lv_iload_n hx hb dX1_get_20 rfl (lv_at hl 1 rfl) ?_
    refine nv_imul hx hb dX1_get_21 ?_
    refine lv_iload_n hx hb dX1_get_22 rfl (lv_at hl 2 rfl) ?_
    refine nv_iadd hx hb dX1_get_23 ?_
    refine nv_lald hx hb hK hP 1 0 rfl rfl (v := lN (A0 k1 k2)) (by omega) (by decide) (hA0 k1 hk1 k2 hk2) dX1_get_24 ?_
    refine nv_l2i hx hb dX1_get_25 ?_
    refine lv_goto (tgt := 30) hx hb dX1_get_26 (by decide) ?_
    exact hret (nI (A0 k1 k2)) () 30 ls _ _ dX1_get_30 (rfl) hP hD hS (by simp [sGet, inb_t hk1 (show mR < 2 ^ 31 by omega), inb_t hk2 (show nC < 2 ^ 31 by omega), ix_n (show k1 < 2 ^ 31 by omega), ix_n (show k2 < 2 ^ 31 by omega)])
  · refine nv_if_eq (tgt := 29) hx hb dX1_get_11 (by decide) (by decide) (fun _ => ?_) (fun q => absurd q (by decide))
    refine lv_iconst (v := (-1)) hx hb dX1_get_29 (by decide +kernel) ?_
    exact hret ((-1)) () 30 ls _ _ dX1_get_30 (rfl) hP hD hS (by
        unfold sGet
        rw [if_neg hno])
set_option maxHeartbeats 4000000 in
set_option maxRecDepth 100000 in
theorem c_X1_set (l : Launch) (D : va_G) {h b1 b2 b3 b4 b5 : Nat} {cJ cI : ClassId} {gA gB : Nat → Int64} {rd rk : Nat} {gR : Nat → Int64} {gP : Nat → Int32} {gS : Nat → Int64} {pj : Int64} {mi ni : Int32} {vd P mR nC : Nat} {A0 : Mat} (i j x : Int32) (hvd : vd < 2) (hV : vd ≠ 0 → MdV pj mi ni P mR nC) (hI : vd = 0 → mR = 0 ∧ nC = 0) (hA0 : ∀ a, a < mR → ∀ k, k < nC → gA (10 * a + k) = lN (A0 a k)) : WrI (U := (Nat → Int64) × Nat) l yX1_set wsX1_set ({ frames := 1, cells := 0, slots := 0, locals := 22 }) [.ref h, .int i, .int j, .int x] D (mdW h b1 b2 b3 b4 b5 cJ cI pj mi ni vd gA gB rd rk gR gP gS) [(cJ, .long), (cI, .int)] (fun r u => (okSet mR nC i j x ∧ r = nI 1 ∧ (∀ a, a < mR → ∀ k, k < nC → u.1 (10 * a + k) = lN (mu A0 (ix i) (ix j) (ix x % P) a k)) ∧ u.2 = 0) ∨ (¬ okSet mR nC i j x ∧ r = nI 0 ∧ u = (gA, rd))) (fun u => mdW h b1 b2 b3 b4 b5 cJ cI pj mi ni vd u.1 gB u.2 rk gR gP gS) := by
  refine WrI.mk (cc := cX1_set) (maxL := 4) (rt := .boolean) (by decide) rfl (Nat.le_of_ble_eq_true rfl) ?_
  intro p e s mm args below meth c Q ls A S hK hP hD hA hS hl hret
  have hx := S.1
  have hb := S.2.1
  have hts := S.2.2.2.2
  have hown := S.2.2.2.1
  have hin : ∀ w ∈ wsX10, w ∈ wsX1_set := fun w h => List.mem_cons_of_mem _ (List.mem_append_right _ h)
  have hl : lv_has ls 4 [(0, .ref h), (1, .int i), (2, .int j), (3, .int x)] := hl
  refine lv_aload_n hx hb dX1_set_0 rfl (lv_at hl 0 rfl) ?_
  refine lv_iconst (v := nI 0) hx hb dX1_set_1 (by decide +kernel) ?_
  refine x1_put S hin hK hP hD hS rfl 0 (by decide) rfl (by decide +kernel) rfl (ty := .int) (v := .int (nI 0)) rfl rfl rfl (Nat.le_of_ble_eq_true rfl) dX1_set_2 (fun H locs hP hD hS => ?_)
  have hP : va_P D vwCl (mdW h b1 b2 b3 b4 b5 cJ cI pj mi ni vd gA gB rd rk gR gP gS) H := hP
  have hD : va_D A (mdW h b1 b2 b3 b4 b5 cJ cI pj mi ni vd gA gB rd rk gR gP gS) := hD
  refine lv_aload_n hx hb dX1_set_5 rfl (lv_at hl 0 rfl) ?_
  refine lv_iload_n hx hb dX1_set_6 rfl (lv_at hl 1 rfl) ?_
  refine lv_iload_n hx hb dX1_set_7 rfl (lv_at hl 2 rfl) ?_
  refine rdv_i S (c_X1_isPlace l D i j hvd hV hI) (cwV 2 hts gX1_set_X1_isPlace rfl rfl rfl (by decide +kernel) ⟨Nat.le_of_ble_eq_true rfl, Nat.le_of_ble_eq_true rfl⟩) rfl hK hP (ci := 1) rfl rfl hl.1 (rest := []) rfl (Nat.le_of_ble_eq_true rfl) dX1_set_8 ⟨Nat.zero_le _, Nat.zero_le _⟩ hP hS hA (fun r_1 H locs er_1 hP hS => ?_)
  rcases er_1 with ⟨k1, k2, hk1, hk2, rfl, rfl, hV0, rfl⟩ | ⟨hno, rfl⟩
  · obtain ⟨rfl, rfl, rfl, hP2, hPl, hm1, hm, hn1, hn⟩ := hV hV0
    refine nv_if_eq (tgt := 18) hx hb dX1_set_11 (by decide) (by decide) (fun q => absurd q (by decide)) (fun _ => ?_)
    refine lv_iload_n hx hb dX1_set_14 rfl (lv_at hl 3 rfl) ?_
    refine lv_if_ge (tgt := 20) hx hb dX1_set_15 (by decide) (fun c_3 => ?_) (fun c_3 => ?_)
    · obtain ⟨xv, hxv, rfl⟩ := nn_of c_3
      refine lv_aload_n hx hb dX1_set_20 rfl (lv_at hl 0 rfl) ?_
      refine x1_get S hin hK hP rfl 5 (by decide) rfl (by decide +kernel) (v := .ref b1) rfl dX1_set_21 ?_
      refine lv_bipush (v := nI 10) hx hb dX1_set_24 (by decide +kernel) ?_
      refine lv_iload_n hx hb dX1_set_26 rfl (lv_at hl 1 rfl) ?_
      refine nv_imul hx hb dX1_set_27 ?_
      refine lv_iload_n hx hb dX1_set_28 rfl (lv_at hl 2 rfl) ?_
      refine nv_iadd hx hb dX1_set_29 ?_
      refine lv_iload_n hx hb dX1_set_30 rfl (lv_at hl 3 rfl) ?_
      refine nv_i2l hx hb (by omega) dX1_set_31 ?_
      refine lv_aload_n hx hb dX1_set_32 rfl (lv_at hl 0 rfl) ?_
      refine x1_get S hin hK hP rfl 1 (by decide) rfl (by decide +kernel) (v := .long (lN P)) rfl dX1_set_33 ?_
      refine nv_lrem hx hb (by omega) (by omega) (by omega) dX1_set_36 ?_
      refine nv_last hx hb hK hP hD hS 1 0 rfl rfl (by omega) (by decide) dX1_set_37 (fun H locs hP hD hS => ?_)
      have hP : va_P D vwCl (mdW h b1 b2 b3 b4 b5 cJ cI (lN P) (nI mR) (nI nC) vd (vp_updL gA ((10 * k1) + k2) (lN (xv % P))) gB rd rk gR gP gS) H := hP
      have hD : va_D A (mdW h b1 b2 b3 b4 b5 cJ cI (lN P) (nI mR) (nI nC) vd (vp_updL gA ((10 * k1) + k2) (lN (xv % P))) gB rd rk gR gP gS) := hD
      refine lv_aload_n hx hb dX1_set_38 rfl (lv_at hl 0 rfl) ?_
      refine lv_iconst (v := nI 0) hx hb dX1_set_39 (by decide +kernel) ?_
      refine x1_put S hin hK hP hD hS rfl 7 (by decide) rfl (by decide +kernel) rfl (ty := .boolean) (v := .int (nI 0)) rfl (by decide +kernel) rfl (Nat.le_of_ble_eq_true rfl) dX1_set_40 (fun H locs hP hD hS => ?_)
      have hP : va_P D vwCl (mdW h b1 b2 b3 b4 b5 cJ cI (lN P) (nI mR) (nI nC) vd (vp_updL gA ((10 * k1) + k2) (lN (xv % P))) gB 0 rk gR gP gS) H := hP
      have hD : va_D A (mdW h b1 b2 b3 b4 b5 cJ cI (lN P) (nI mR) (nI nC) vd (vp_updL gA ((10 * k1) + k2) (lN (xv % P))) gB 0 rk gR gP gS) := hD
      refine lv_iconst (v := nI 1) hx hb dX1_set_43 (by decide +kernel) ?_
      exact hret (nI 1) (vp_updL gA ((10 * k1) + k2) (lN (xv % P)), 0) 44 ls _ _ dX1_set_44 (by decide +kernel) hP hD hS (by
          refine Or.inl ⟨⟨inb_t hk1 (by omega), inb_t hk2 (by omega), nn_t hxv⟩, rfl, ?_, rfl⟩
          rw [ix_n (show k1 < 2 ^ 31 by omega), ix_n (show k2 < 2 ^ 31 by omega), ix_n hxv]
          intro a ha k hk
          show vp_updL gA (10 * k1 + k2) (lN (xv % P)) (10 * a + k) = _
          unfold vp_updL mu
          by_cases q : 10 * a + k = 10 * k1 + k2
          · obtain ⟨rfl, rfl⟩ : a = k1 ∧ k = k2 := by omega
            simp
          · rw [if_neg q, if_neg (fun z => q (by rw [z.1, z.2])), hA0 a ha k hk])
    · refine lv_iconst (v := nI 0) hx hb dX1_set_18 (by decide +kernel) ?_
      exact hret (nI 0) (gA, rd) 19 ls _ _ dX1_set_19 (by decide +kernel) hP hD hS (Or.inr ⟨by simp [okSet, nn_f c_3], rfl, rfl⟩)
  · refine nv_if_eq (tgt := 18) hx hb dX1_set_11 (by decide) (by decide) (fun _ => ?_) (fun q => absurd q (by decide))
    refine lv_iconst (v := nI 0) hx hb dX1_set_18 (by decide +kernel) ?_
    exact hret (nI 0) (gA, rd) 19 ls _ _ dX1_set_19 (by decide +kernel) hP hD hS (Or.inr ⟨fun z => hno ⟨z.1, z.2.1⟩, rfl, rfl⟩)
set_option maxHeartbeats 4000000 in
set_option maxRecDepth 100000 in
theorem c_X1_setRhs (l : Launch) (D : va_G) {h b1 b2 b3 b4 b5 : Nat} {cJ cI : ClassId} {gA gB : Nat → Int64} {rd rk : Nat} {gR : Nat → Int64} {gP : Nat → Int32} {gS : Nat → Int64} {pj : Int64} {mi ni : Int32} {vd P mR nC : Nat} {b : Nat → Nat} (i x : Int32) (hvd : vd < 2) (hV : vd ≠ 0 → MdV pj mi ni P mR nC) (hI : vd = 0 → mR = 0 ∧ nC = 0) (hb1 : ∀ a, a < mR → gB a = lN (b a)) : WrI (U := Nat → Int64) l yX1_setRhs wsX1_setRhs ({ frames := 1, cells := 0, slots := 0, locals := 22 }) [.ref h, .int i, .int x] D (mdW h b1 b2 b3 b4 b5 cJ cI pj mi ni vd gA gB rd rk gR gP gS) [(cJ, .long), (cI, .int)] (fun r u => (okRhs mR i x ∧ r = nI 1 ∧ ∀ a, a < mR → u a = lN (nb b (ix i) (ix x % P) a)) ∨ (¬ okRhs mR i x ∧ r = nI 0 ∧ u = gB)) (fun u => mdW h b1 b2 b3 b4 b5 cJ cI pj mi ni vd gA u rd rk gR gP gS) := by
  refine WrI.mk (cc := cX1_setRhs) (maxL := 3) (rt := .boolean) (by decide) rfl (Nat.le_of_ble_eq_true rfl) ?_
  intro p e s mm args below meth c Q ls A S hK hP hD hA hS hl hret
  have hx := S.1
  have hb := S.2.1
  have hts := S.2.2.2.2
  have hown := S.2.2.2.1
  have hin : ∀ w ∈ wsX10, w ∈ wsX1_setRhs := fun w h => List.mem_cons_of_mem _ (List.mem_append_right _ h)
  have hl : lv_has ls 3 [(0, .ref h), (1, .int i), (2, .int x)] := hl
  refine lv_aload_n hx hb dX1_setRhs_0 rfl (lv_at hl 0 rfl) ?_
  refine lv_iconst (v := nI 0) hx hb dX1_setRhs_1 (by decide +kernel) ?_
  refine x1_put S hin hK hP hD hS rfl 0 (by decide) rfl (by decide +kernel) rfl (ty := .int) (v := .int (nI 0)) rfl rfl rfl (Nat.le_of_ble_eq_true rfl) dX1_setRhs_2 (fun H locs hP hD hS => ?_)
  have hP : va_P D vwCl (mdW h b1 b2 b3 b4 b5 cJ cI pj mi ni vd gA gB rd rk gR gP gS) H := hP
  have hD : va_D A (mdW h b1 b2 b3 b4 b5 cJ cI pj mi ni vd gA gB rd rk gR gP gS) := hD
  refine lv_aload_n hx hb dX1_setRhs_5 rfl (lv_at hl 0 rfl) ?_
  refine lv_iload_n hx hb dX1_setRhs_6 rfl (lv_at hl 1 rfl) ?_
  refine lv_iconst (v := nI 0) hx hb dX1_setRhs_7 (by decide +kernel) ?_
  refine rdv_i S (c_X1_isPlace l D i (nI 0) hvd hV hI) (cwV 2 hts gX1_setRhs_X1_isPlace rfl rfl rfl (by decide +kernel) ⟨Nat.le_of_ble_eq_true rfl, Nat.le_of_ble_eq_true rfl⟩) rfl hK hP (ci := 1) rfl rfl hl.1 (rest := []) rfl (Nat.le_of_ble_eq_true rfl) dX1_setRhs_8 ⟨Nat.zero_le _, Nat.zero_le _⟩ hP hS hA (fun r_1 H locs er_1 hP hS => ?_)
  rcases er_1 with ⟨k1, k2, hk1, hk2, rfl, hj0, hV0, rfl⟩ | ⟨hno, rfl⟩
  · obtain ⟨rfl, rfl, rfl, hP2, hPl, hm1, hm, hn1, hn⟩ := hV hV0
    refine nv_if_eq (tgt := 18) hx hb dX1_setRhs_11 (by decide) (by decide) (fun q => absurd q (by decide)) (fun _ => ?_)
    refine lv_iload_n hx hb dX1_setRhs_14 rfl (lv_at hl 2 rfl) ?_
    refine lv_if_ge (tgt := 20) hx hb dX1_setRhs_15 (by decide) (fun c_3 => ?_) (fun c_3 => ?_)
    · obtain ⟨xv, hxv, rfl⟩ := nn_of c_3
      refine lv_aload_n hx hb dX1_setRhs_20 rfl (lv_at hl 0 rfl) ?_
      refine x1_get S hin hK hP rfl 6 (by decide) rfl (by decide +kernel) (v := .ref b2) rfl dX1_setRhs_21 ?_
      refine lv_iload_n hx hb dX1_setRhs_24 rfl (lv_at hl 1 rfl) ?_
      refine lv_iload_n hx hb dX1_setRhs_25 rfl (lv_at hl 2 rfl) ?_
      refine nv_i2l hx hb (by omega) dX1_setRhs_26 ?_
      refine lv_aload_n hx hb dX1_setRhs_27 rfl (lv_at hl 0 rfl) ?_
      refine x1_get S hin hK hP rfl 1 (by decide) rfl (by decide +kernel) (v := .long (lN P)) rfl dX1_setRhs_28 ?_
      refine nv_lrem hx hb (by omega) (by omega) (by omega) dX1_setRhs_31 ?_
      refine nv_last hx hb hK hP hD hS 2 0 rfl rfl (by omega) (by decide) dX1_setRhs_32 (fun H locs hP hD hS => ?_)
      have hP : va_P D vwCl (mdW h b1 b2 b3 b4 b5 cJ cI (lN P) (nI mR) (nI nC) vd gA (vp_updL gB k1 (lN (xv % P))) rd rk gR gP gS) H := hP
      have hD : va_D A (mdW h b1 b2 b3 b4 b5 cJ cI (lN P) (nI mR) (nI nC) vd gA (vp_updL gB k1 (lN (xv % P))) rd rk gR gP gS) := hD
      refine lv_iconst (v := nI 1) hx hb dX1_setRhs_33 (by decide +kernel) ?_
      exact hret (nI 1) (vp_updL gB k1 (lN (xv % P))) 34 ls _ _ dX1_setRhs_34 (by decide +kernel) hP hD hS (by
          refine Or.inl ⟨⟨inb_t hk1 (by omega), nn_t hxv⟩, rfl, ?_⟩
          rw [ix_n (show k1 < 2 ^ 31 by omega), ix_n hxv]
          intro a ha
          unfold vp_updL nb
          split
          · rfl
          · exact hb1 a ha)
    · refine lv_iconst (v := nI 0) hx hb dX1_setRhs_18 (by decide +kernel) ?_
      exact hret (nI 0) gB 19 ls _ _ dX1_setRhs_19 (by decide +kernel) hP hD hS (Or.inr ⟨by simp [okRhs, nn_f c_3], rfl, rfl⟩)
  · refine nv_if_eq (tgt := 18) hx hb dX1_setRhs_11 (by decide) (by decide) (fun _ => ?_) (fun q => absurd q (by decide))
    refine lv_iconst (v := nI 0) hx hb dX1_setRhs_18 (by decide +kernel) ?_
    exact hret (nI 0) gB 19 ls _ _ dX1_setRhs_19 (by decide +kernel) hP hD hS (Or.inr ⟨rhs_no hV hI hno, rfl, rfl⟩)
set_option maxHeartbeats 4000000 in
set_option maxRecDepth 100000 in
theorem c_X1_power (l : Launch) (D : va_G) {h b1 b2 b3 b4 b5 : Nat} {cJ cI : ClassId} {gA gB : Nat → Int64} {rd rk : Nat} {gR : Nat → Int64} {gP : Nat → Int32} {gS : Nat → Int64} {vd P mR nC : Nat} (x tm : Nat) (hP2 : 2 ≤ P) (hPl : P < 2 ^ 31) (hx1 : x < P) (htm : tm < 2 ^ 31) : RdL l yX1_power wsX1_power ({ frames := 0, cells := 0, slots := 0, locals := 0 }) [.ref h, .long (lN x), .long (lN tm)] D (mdW h b1 b2 b3 b4 b5 cJ cI (lN P) (nI mR) (nI nC) vd gA gB rd rk gR gP gS) [(cJ, .long), (cI, .int)] (fun r => r = lN (x ^ tm % P)) := by
  refine RdL.mk (cc := cX1_power) (maxL := 8) (by decide) rfl (Nat.le_of_ble_eq_true rfl) ?_
  intro p e s mm args below meth c Q ls A S hK hP hA hS hl hret
  have hx := S.1
  have hb := S.2.1
  have hts := S.2.2.2.2
  have hown := S.2.2.2.1
  have hin : ∀ w ∈ wsX10, w ∈ wsX1_power := fun w h => List.mem_cons_of_mem _ (List.mem_append_right _ h)
  have hl : lv_has ls 8 [(0, .ref h), (1, .long (lN x)), (3, .long (lN tm))] := hl
  refine lv_lconst (v := lN 1) hx hb dX1_power_0 rfl ?_
  refine lv_aload_n hx hb dX1_power_1 rfl (lv_at hl 0 rfl) ?_
  refine x1_get S hin hK hP rfl 1 (by decide) rfl (by decide +kernel) (v := .long (lN P)) rfl dX1_power_2 ?_
  refine nv_lrem hx hb (by decide) (by omega) (by omega) dX1_power_5 ?_
  refine lv_lstore (lv' := [(5, .long (lN (1 % P))), (0, .ref h), (1, .long (lN x)), (3, .long (lN tm))]) hx hb dX1_power_6 hl (by decide) rfl (fun ls hl => ?_)
  refine lv_bipush (v := nI 30) hx hb dX1_power_8 (by decide +kernel) ?_
  refine lv_istore (lv' := [(7, .int (nI 30)), (5, .long (lN (1 % P))), (0, .ref h), (1, .long (lN x)), (3, .long (lN tm))]) hx hb dX1_power_10 hl (by decide) rfl (fun ls hl => ?_)
  have L : ∀ (nL : Nat) (j : Nat), (j ≤ 31) → (j < nL) → ∀ (ls : Array Slot) (H : Heap) (locs : List Loc), lv_has ls 8 [(0, .ref h), (1, .long (lN x)), (3, .long (lN tm)), (5, .long (lN (x ^ (tm / 2 ^ j) % P))), (7, .int (dn j))] → va_P D vwCl (mdW h b1 b2 b3 b4 b5 cJ cI (lN P) (nI mR) (nI nC) vd gA gB rd rk gR gP gS) H → va_S A s.heap H locs → W p l e ({ frames := 0, cells := 0, slots := 0, locals := 0 }) s mm args below meth c H locs 0 0 Q (F0 mm 12 ls []) := by
    intro nL
    induction nL with
    | zero => intro j hj hfuel; exfalso; omega
    | succ nL ihL =>
      intro j hj hfuel ls H locs hl hP hS
      refine lv_iload hx hb dX1_power_12 (lv_at hl 4 rfl) ?_
      refine lv_if_lt (tgt := 62) hx hb dX1_power_14 (by decide) (fun c_1 => ?_) (fun c_1 => ?_)
      · have hj0 := dn_lt (by omega) c_1
        subst hj0
        refine lv_lload hx hb dX1_power_62 (lv_at hl 3 rfl) ?_
        exact hret (lN (x ^ (tm / 2 ^ 0) % P)) 64 ls _ _ dX1_power_64 hS (by rw [Nat.pow_zero, Nat.div_one])
      · obtain ⟨k, rfl⟩ := dn_ge c_1
        rw [dn_s k] at hl
        have hpl := Nat.mod_lt (x ^ (tm / 2 ^ (k + 1))) (show 0 < P by omega)
        refine lv_lload hx hb dX1_power_17 (lv_at hl 3 rfl) ?_
        refine lv_lload hx hb dX1_power_19 (lv_at hl 3 rfl) ?_
        refine nv_lmul hx hb dX1_power_21 ?_
        refine lv_aload_n hx hb dX1_power_22 rfl (lv_at hl 0 rfl) ?_
        refine x1_get S hin hK hP rfl 1 (by decide) rfl (by decide +kernel) (v := .long (lN P)) rfl dX1_power_23 ?_
        refine nv_lrem hx hb (mul_b (by omega) (by omega)) (by omega) (by omega) dX1_power_26 ?_
        rw [pt_step]
        have hpl2 := Nat.mod_lt (x ^ (2 * (tm / 2 ^ (k + 1)))) (show 0 < P by omega)
        refine lv_lstore (lv' := [(5, .long (lN (x ^ (2 * (tm / 2 ^ (k + 1))) % P))), (0, .ref h), (1, .long (lN x)), (3, .long (lN tm)), (7, .int (nI k))]) hx hb dX1_power_27 hl (by decide) rfl (fun ls hl => ?_)
        refine lv_lload_n hx hb dX1_power_29 rfl (lv_at hl 3 rfl) ?_
        refine lv_iload hx hb dX1_power_30 (lv_at hl 4 rfl) ?_
        refine nv_lshr hx hb (by omega) (by omega) dX1_power_32 ?_
        refine lv_lconst (v := lN 1) hx hb dX1_power_33 rfl ?_
        refine nv_land1 hx hb dX1_power_34 ?_
        refine lv_lconst (v := lN 1) hx hb dX1_power_35 rfl ?_
        refine nv_lcmp_ne (tgt := 52) hx hb dX1_power_36 dX1_power_37 (by decide) (by omega) (by decide) (fun c_2 => ?_) (fun c_2 => ?_)
        · refine lv_lload hx hb dX1_power_52 (lv_at hl 0 rfl) ?_
          rw [pt_0 c_2]
          refine lv_lstore (lv' := [(5, .long (lN (x ^ (tm / 2 ^ k) % P))), (0, .ref h), (1, .long (lN x)), (3, .long (lN tm)), (7, .int (nI k))]) hx hb dX1_power_54 hl (by decide) rfl (fun ls hl => ?_)
          refine lv_iinc (v := dn k) (lv' := [(7, .int (dn k)), (5, .long (lN (x ^ (tm / 2 ^ k) % P))), (0, .ref h), (1, .long (lN x)), (3, .long (lN tm))]) hx hb dX1_power_56 hl (k := 4) rfl rfl (by decide) rfl (fun ls hl => ?_)
          refine lv_goto (tgt := 12) hx hb dX1_power_59 (by decide) ?_
          exact ihL k (by omega) (by omega) ls _ _ (lv_sub hl [2, 3, 4, 1, 0] rfl) hP hS
        · refine lv_lload hx hb dX1_power_40 (lv_at hl 0 rfl) ?_
          refine lv_lload_n hx hb dX1_power_42 rfl (lv_at hl 2 rfl) ?_
          refine nv_lmul hx hb dX1_power_43 ?_
          refine lv_aload_n hx hb dX1_power_44 rfl (lv_at hl 1 rfl) ?_
          refine x1_get S hin hK hP rfl 1 (by decide) rfl (by decide +kernel) (v := .long (lN P)) rfl dX1_power_45 ?_
          refine nv_lrem hx hb (mul_b (by omega) (by omega)) (by omega) (by omega) dX1_power_48 ?_
          refine lv_goto (tgt := 54) hx hb dX1_power_49 (by decide) ?_
          rw [pt_1 c_2]
          refine lv_lstore (lv' := [(5, .long (lN (x ^ (tm / 2 ^ k) % P))), (0, .ref h), (1, .long (lN x)), (3, .long (lN tm)), (7, .int (nI k))]) hx hb dX1_power_54 hl (by decide) rfl (fun ls hl => ?_)
          refine lv_iinc (v := dn k) (lv' := [(7, .int (dn k)), (5, .long (lN (x ^ (tm / 2 ^ k) % P))), (0, .ref h), (1, .long (lN x)), (3, .long (lN tm))]) hx hb dX1_power_56 hl (k := 4) rfl rfl (by decide) rfl (fun ls hl => ?_)
          refine lv_goto (tgt := 12) hx hb dX1_power_59 (by decide) ?_
          exact ihL k (by omega) (by omega) ls _ _ (lv_sub hl [2, 3, 4, 1, 0] rfl) hP hS
  have e31 : 1 % P = x ^ (tm / 2 ^ 31) % P := by rw [Nat.div_eq_of_lt htm, Nat.pow_zero]
  rw [e31] at hl
  have hl : lv_has ls 8 [(7, .int (dn 31)), (5, .long (lN (x ^ (tm / 2 ^ 31) % P))), (0, .ref h), (1, .long (lN x)), (3, .long (lN tm))] := hl
  exact L 32 31 (by omega) (by omega) ls _ _ (lv_sub hl [2, 3, 4, 1, 0] rfl) hP hS
set_option maxHeartbeats 4000000 in
set_option maxRecDepth 100000 in
theorem c_X1_swap (l : Launch) (D : va_G) {h b1 b2 b3 b4 b5 : Nat} {cJ cI : ClassId} {gA gB : Nat → Int64} {rd rk : Nat} {gR : Nat → Int64} {gP : Nat → Int32} {gS : Nat → Int64} {vd P mR nC : Nat} {M : Mat} (o1 o2 : Nat) (hm : mR ≤ 10) (h1 : o1 < mR) (h2 : o2 < mR) (hM : Rq mR gR M) : WrV (U := Nat → Int64) l yX1_swap wsX1_swap ({ frames := 0, cells := 0, slots := 0, locals := 0 }) [.ref h, .int (nI o1), .int (nI o2)] D (mdW h b1 b2 b3 b4 b5 cJ cI (lN P) (nI mR) (nI nC) vd gA gB rd rk gR gP gS) [(cJ, .long), (cI, .int)] (fun u => Rq mR u (swp M o1 o2)) (fun u => mdW h b1 b2 b3 b4 b5 cJ cI (lN P) (nI mR) (nI nC) vd gA gB rd rk u gP gS) := by
  refine WrV.mk (cc := cX1_swap) (maxL := 6) (by decide) rfl (Nat.le_of_ble_eq_true rfl) ?_
  intro p e s mm args below meth c Q ls A S hK hP hD hA hS hl hret
  have hx := S.1
  have hb := S.2.1
  have hts := S.2.2.2.2
  have hown := S.2.2.2.1
  have hin : ∀ w ∈ wsX10, w ∈ wsX1_swap := fun w h => List.mem_cons_of_mem _ (List.mem_append_right _ h)
  have hl : lv_has ls 6 [(0, .ref h), (1, .int (nI o1)), (2, .int (nI o2))] := hl
  refine lv_iconst (v := nI 0) hx hb dX1_swap_0 (by decide +kernel) ?_
  refine lv_istore_n (lv' := [(3, .int (nI 0)), (0, .ref h), (1, .int (nI o1)), (2, .int (nI o2))]) hx hb dX1_swap_1 rfl hl (by decide) rfl (fun ls hl => ?_)
  have L : ∀ (nL : Nat) (f : Nat → Int64) (i : Nat), (i ≤ 20) → (Rq mR f (col2 i (swp M o1 o2) M)) → (21 ≤ i + nL) → ∀ (ls : Array Slot) (H : Heap) (locs : List Loc), lv_has ls 6 [(0, .ref h), (1, .int (nI o1)), (2, .int (nI o2)), (3, .int (nI i))] → va_P D vwCl (mdW h b1 b2 b3 b4 b5 cJ cI (lN P) (nI mR) (nI nC) vd gA gB rd rk f gP gS) H → va_D A (mdW h b1 b2 b3 b4 b5 cJ cI (lN P) (nI mR) (nI nC) vd gA gB rd rk f gP gS) → va_S A s.heap H locs → W p l e ({ frames := 0, cells := 0, slots := 0, locals := 0 }) s mm args below meth c H locs 0 0 Q (F0 mm 2 ls []) := by
    intro nL
    induction nL with
    | zero => intro f i hi hinv hfuel; exfalso; omega
    | succ nL ihL =>
      intro f i hi hinv hfuel ls H locs hl hP hD hS
      refine lv_iload_n hx hb dX1_swap_2 rfl (lv_at hl 3 rfl) ?_
      refine lv_bipush (v := nI 20) hx hb dX1_swap_3 (by decide +kernel) ?_
      refine nv_icmp_ge (tgt := 62) hx hb dX1_swap_5 (by decide) (by omega) (by omega) (fun c_1 => ?_) (fun c_1 => ?_)
      · exact hret f 62 ls _ _ dX1_swap_62 hP hD hS (hinv.colw c_1)
      · refine lv_aload_n hx hb dX1_swap_8 rfl (lv_at hl 0 rfl) ?_
        refine x1_get S hin hK hP rfl 9 (by decide) rfl (by decide +kernel) (v := .ref b3) rfl dX1_swap_9 ?_
        refine lv_bipush (v := nI 20) hx hb dX1_swap_12 (by decide +kernel) ?_
        refine lv_iload_n hx hb dX1_swap_14 rfl (lv_at hl 1 rfl) ?_
        refine nv_imul hx hb dX1_swap_15 ?_
        refine lv_iload_n hx hb dX1_swap_16 rfl (lv_at hl 3 rfl) ?_
        refine nv_iadd hx hb dX1_swap_17 ?_
        refine nv_lald hx hb hK hP 3 0 rfl rfl (v := lN (col2 i (swp M o1 o2) M o1 i)) (by omega) (by decide) (hinv o1 h1 i (by omega)) dX1_swap_18 ?_
        refine lv_lstore (lv' := [(4, .long (lN (col2 i (swp M o1 o2) M o1 i))), (0, .ref h), (1, .int (nI o1)), (2, .int (nI o2)), (3, .int (nI i))]) hx hb dX1_swap_19 hl (by decide) rfl (fun ls hl => ?_)
        refine lv_aload_n hx hb dX1_swap_21 rfl (lv_at hl 1 rfl) ?_
        refine x1_get S hin hK hP rfl 9 (by decide) rfl (by decide +kernel) (v := .ref b3) rfl dX1_swap_22 ?_
        refine lv_bipush (v := nI 20) hx hb dX1_swap_25 (by decide +kernel) ?_
        refine lv_iload_n hx hb dX1_swap_27 rfl (lv_at hl 2 rfl) ?_
        refine nv_imul hx hb dX1_swap_28 ?_
        refine lv_iload_n hx hb dX1_swap_29 rfl (lv_at hl 4 rfl) ?_
        refine nv_iadd hx hb dX1_swap_30 ?_
        refine lv_aload_n hx hb dX1_swap_31 rfl (lv_at hl 1 rfl) ?_
        refine x1_get S hin hK hP rfl 9 (by decide) rfl (by decide +kernel) (v := .ref b3) rfl dX1_swap_32 ?_
        refine lv_bipush (v := nI 20) hx hb dX1_swap_35 (by decide +kernel) ?_
        refine lv_iload_n hx hb dX1_swap_37 rfl (lv_at hl 3 rfl) ?_
        refine nv_imul hx hb dX1_swap_38 ?_
        refine lv_iload_n hx hb dX1_swap_39 rfl (lv_at hl 4 rfl) ?_
        refine nv_iadd hx hb dX1_swap_40 ?_
        refine nv_lald hx hb hK hP 3 0 rfl rfl (v := lN (col2 i (swp M o1 o2) M o2 i)) (by omega) (by decide) (hinv o2 h2 i (by omega)) dX1_swap_41 ?_
        refine nv_last hx hb hK hP hD hS 3 0 rfl rfl (by omega) (by decide) dX1_swap_42 (fun H locs hP hD hS => ?_)
        have hP : va_P D vwCl (mdW h b1 b2 b3 b4 b5 cJ cI (lN P) (nI mR) (nI nC) vd gA gB rd rk (vp_updL f ((20 * o1) + i) (lN (col2 i (swp M o1 o2) M o2 i))) gP gS) H := hP
        have hD : va_D A (mdW h b1 b2 b3 b4 b5 cJ cI (lN P) (nI mR) (nI nC) vd gA gB rd rk (vp_updL f ((20 * o1) + i) (lN (col2 i (swp M o1 o2) M o2 i))) gP gS) := hD
        refine lv_aload_n hx hb dX1_swap_43 rfl (lv_at hl 1 rfl) ?_
        refine x1_get S hin hK hP rfl 9 (by decide) rfl (by decide +kernel) (v := .ref b3) rfl dX1_swap_44 ?_
        refine lv_bipush (v := nI 20) hx hb dX1_swap_47 (by decide +kernel) ?_
        refine lv_iload_n hx hb dX1_swap_49 rfl (lv_at hl 3 rfl) ?_
        refine nv_imul hx hb dX1_swap_50 ?_
        refine lv_iload_n hx hb dX1_swap_51 rfl (lv_at hl 4 rfl) ?_
        refine nv_iadd hx hb dX1_swap_52 ?_
        refine lv_lload hx hb dX1_swap_53 (lv_at hl 0 rfl) ?_
        refine nv_last hx hb hK hP hD hS 3 0 rfl rfl (by omega) (by decide) dX1_swap_55 (fun H locs hP hD hS => ?_)
        have hP : va_P D vwCl (mdW h b1 b2 b3 b4 b5 cJ cI (lN P) (nI mR) (nI nC) vd gA gB rd rk (vp_updL (vp_updL f ((20 * o1) + i) (lN (col2 i (swp M o1 o2) M o2 i))) ((20 * o2) + i) (lN (col2 i (swp M o1 o2) M o1 i))) gP gS) H := hP
        have hD : va_D A (mdW h b1 b2 b3 b4 b5 cJ cI (lN P) (nI mR) (nI nC) vd gA gB rd rk (vp_updL (vp_updL f ((20 * o1) + i) (lN (col2 i (swp M o1 o2) M o2 i))) ((20 * o2) + i) (lN (col2 i (swp M o1 o2) M o1 i))) gP gS) := hD
        refine lv_iinc (v := nI (i + 1)) (lv' := [(3, .int (nI (i + 1))), (4, .long (lN (col2 i (swp M o1 o2) M o1 i))), (0, .ref h), (1, .int (nI o1)), (2, .int (nI o2))]) hx hb dX1_swap_56 hl (k := 4) rfl (nv_inc i 1) (by decide) rfl (fun ls hl => ?_)
        refine lv_goto (tgt := 2) hx hb dX1_swap_59 (by decide) ?_
        exact ihL (vp_updL (vp_updL f ((20 * o1) + i) (lN (col2 i (swp M o1 o2) M o2 i))) ((20 * o2) + i) (lN (col2 i (swp M o1 o2) M o1 i))) (i + 1) (by omega) (sq_swp c_1 hinv) (by omega) ls _ _ (lv_sub hl [2, 3, 4, 0] rfl) hP hD hS
  exact L 21 gR 0 (by omega) hM.col0 (by omega) ls _ _ (lv_sub hl [1, 2, 3, 0] rfl) hP hD hS
set_option maxHeartbeats 4000000 in
set_option maxRecDepth 100000 in
theorem c_X1_firstWith (l : Launch) (D : va_G) {h b1 b2 b3 b4 b5 : Nat} {cJ cI : ClassId} {gA gB : Nat → Int64} {rd rk : Nat} {gR : Nat → Int64} {gP : Nat → Int32} {gS : Nat → Int64} {vd P mR nC : Nat} {M : Mat} (cc : Nat) (hP2 : 2 ≤ P) (hPl : P < 2 ^ 31) (hm : mR ≤ 10) (hn : nC ≤ 10) (hcc : cc < nC) (hrk : rk ≤ mR) (hB : bnd P M) (hM : Rq mR gR M) : RdI l yX1_firstWith wsX1_firstWith ({ frames := 0, cells := 0, slots := 0, locals := 0 }) [.ref h, .int (nI cc)] D (mdW h b1 b2 b3 b4 b5 cJ cI (lN P) (nI mR) (nI nC) vd gA gB rd rk gR gP gS) [(cJ, .long), (cI, .int)] (fun r => r = nI (fnd M cc (mR - rk) rk)) := by
  refine RdI.mk (cc := cX1_firstWith) (maxL := 3) (rt := .int) (by decide) rfl (Nat.le_of_ble_eq_true rfl) ?_
  intro p e s mm args below meth c Q ls A S hK hP hA hS hl hret
  have hx := S.1
  have hb := S.2.1
  have hts := S.2.2.2.2
  have hown := S.2.2.2.1
  have hin : ∀ w ∈ wsX10, w ∈ wsX1_firstWith := fun w h => List.mem_cons_of_mem _ (List.mem_append_right _ h)
  have hl : lv_has ls 3 [(0, .ref h), (1, .int (nI cc))] := hl
  refine lv_aload_n hx hb dX1_firstWith_0 rfl (lv_at hl 0 rfl) ?_
  refine x1_get S hin hK hP rfl 8 (by decide) rfl (by decide +kernel) (v := .int (nI rk)) rfl dX1_firstWith_1 ?_
  refine lv_istore_n (lv' := [(2, .int (nI rk)), (0, .ref h), (1, .int (nI cc))]) hx hb dX1_firstWith_4 rfl hl (by decide) rfl (fun ls hl => ?_)
  have L : ∀ (nL : Nat) (i : Nat), (i ≤ mR) → (fnd M cc (mR - i) i = fnd M cc (mR - rk) rk) → (mR + 1 ≤ i + nL) → ∀ (ls : Array Slot) (H : Heap) (locs : List Loc), lv_has ls 3 [(0, .ref h), (1, .int (nI cc)), (2, .int (nI i))] → va_P D vwCl (mdW h b1 b2 b3 b4 b5 cJ cI (lN P) (nI mR) (nI nC) vd gA gB rd rk gR gP gS) H → va_S A s.heap H locs → W p l e ({ frames := 0, cells := 0, slots := 0, locals := 0 }) s mm args below meth c H locs 0 0 Q (F0 mm 5 ls []) := by
    intro nL
    induction nL with
    | zero => intro i hi hinv hfuel; exfalso; omega
    | succ nL ihL =>
      intro i hi hinv hfuel ls H locs hl hP hS
      refine lv_iload_n hx hb dX1_firstWith_5 rfl (lv_at hl 2 rfl) ?_
      refine lv_aload_n hx hb dX1_firstWith_6 rfl (lv_at hl 0 rfl) ?_
      refine x1_get S hin hK hP rfl 2 (by decide) rfl (by decide +kernel) (v := .int (nI mR)) rfl dX1_firstWith_7 ?_
      refine nv_icmp_ge (tgt := 35) hx hb dX1_firstWith_10 (by decide) (by omega) (by omega) (fun c_1 => ?_) (fun c_1 => ?_)
      · refine lv_iload_n hx hb dX1_firstWith_35 rfl (lv_at hl 2 rfl) ?_
        exact hret (nI i) 36 ls _ _ dX1_firstWith_36 (rfl) hS (by rw [← hinv, fnd_e c_1])
      · refine lv_aload_n hx hb dX1_firstWith_13 rfl (lv_at hl 0 rfl) ?_
        refine x1_get S hin hK hP rfl 9 (by decide) rfl (by decide +kernel) (v := .ref b3) rfl dX1_firstWith_14 ?_
        refine lv_bipush (v := nI 20) hx hb dX1_firstWith_17 (by decide +kernel) ?_
        refine lv_iload_n hx hb dX1_firstWith_19 rfl (lv_at hl 2 rfl) ?_
        refine nv_imul hx hb dX1_firstWith_20 ?_
        refine lv_iload_n hx hb dX1_firstWith_21 rfl (lv_at hl 1 rfl) ?_
        refine nv_iadd hx hb dX1_firstWith_22 ?_
        refine nv_lald hx hb hK hP 3 0 rfl rfl (v := lN (M i cc)) (by omega) (by decide) (hM i (by omega) cc (by omega)) dX1_firstWith_23 ?_
        refine lv_lconst (v := lN 0) hx hb dX1_firstWith_24 rfl ?_
        refine nv_lcmp_ne (tgt := 35) hx hb dX1_firstWith_25 dX1_firstWith_26 (by decide) (Nat.lt_trans (hB i cc) (by omega)) (by decide) (fun c_2 => ?_) (fun c_2 => ?_)
        · refine lv_iload_n hx hb dX1_firstWith_35 rfl (lv_at hl 2 rfl) ?_
          exact hret (nI i) 36 ls _ _ dX1_firstWith_36 (rfl) hS (by rw [← hinv, fnd_n c_1 c_2])
        · refine lv_iinc (v := nI (i + 1)) (lv' := [(2, .int (nI (i + 1))), (0, .ref h), (1, .int (nI cc))]) hx hb dX1_firstWith_29 hl (k := 2) rfl (nv_inc i 1) (by decide) rfl (fun ls hl => ?_)
          refine lv_goto (tgt := 5) hx hb dX1_firstWith_32 (by decide) ?_
          exact ihL (i + 1) (by omega) (by rw [← hinv, fnd_z (by omega) c_2]) (by omega) ls _ _ (lv_sub hl [1, 2, 0] rfl) hP hS
  exact L (mR + 1) rk hrk rfl (by omega) ls _ _ (lv_sub hl [1, 2, 0] rfl) hP hS
set_option maxHeartbeats 4000000 in
set_option maxRecDepth 100000 in
theorem c_X1_clear (l : Launch) (D : va_G) {h b1 b2 b3 b4 b5 : Nat} {cJ cI : ClassId} {gA gB : Nat → Int64} {rd rk : Nat} {gR : Nat → Int64} {gP : Nat → Int32} {gS : Nat → Int64} {vd P mR nC : Nat} {M : Mat} (cc : Nat) (hP2 : 2 ≤ P) (hPl : P < 2 ^ 31) (hm : mR ≤ 10) (hn : nC ≤ 10) (hcc : cc < nC) (hrk : rk < mR) (hB : bnd P M) (hM : Rq mR gR M) : WrV (U := Nat → Int64) l yX1_clear wsX1_clear ({ frames := 1, cells := 0, slots := 0, locals := 27 }) [.ref h, .int (nI cc)] D (mdW h b1 b2 b3 b4 b5 cJ cI (lN P) (nI mR) (nI nC) vd gA gB rd rk gR gP gS) [(cJ, .long), (cI, .int)] (fun u => Rq mR u (clr P (scl P M rk (M rk cc ^ (P - 2) % P)) rk cc)) (fun u => mdW h b1 b2 b3 b4 b5 cJ cI (lN P) (nI mR) (nI nC) vd gA gB rd rk u gP gS) := by
  refine WrV.mk (cc := cX1_clear) (maxL := 8) (by decide) rfl (Nat.le_of_ble_eq_true rfl) ?_
  intro p e s mm args below meth c Q ls A S hK hP hD hA hS hl hret
  have hx := S.1
  have hb := S.2.1
  have hts := S.2.2.2.2
  have hown := S.2.2.2.1
  have hin : ∀ w ∈ wsX10, w ∈ wsX1_clear := fun w h => List.mem_cons_of_mem _ (List.mem_append_right _ h)
  have hl : lv_has ls 8 [(0, .ref h), (1, .int (nI cc))] := hl
  refine lv_aload_n hx hb dX1_clear_0 rfl (lv_at hl 0 rfl) ?_
  refine lv_aload_n hx hb dX1_clear_1 rfl (lv_at hl 0 rfl) ?_
  refine x1_get S hin hK hP rfl 9 (by decide) rfl (by decide +kernel) (v := .ref b3) rfl dX1_clear_2 ?_
  refine lv_bipush (v := nI 20) hx hb dX1_clear_5 (by decide +kernel) ?_
  refine lv_aload_n hx hb dX1_clear_7 rfl (lv_at hl 0 rfl) ?_
  refine x1_get S hin hK hP rfl 8 (by decide) rfl (by decide +kernel) (v := .int (nI rk)) rfl dX1_clear_8 ?_
  refine nv_imul hx hb dX1_clear_11 ?_
  refine lv_iload_n hx hb dX1_clear_12 rfl (lv_at hl 1 rfl) ?_
  refine nv_iadd hx hb dX1_clear_13 ?_
  refine nv_lald hx hb hK hP 3 0 rfl rfl (v := lN (M rk cc)) (by omega) (by decide) (hM rk hrk cc (by omega)) dX1_clear_14 ?_
  refine lv_aload_n hx hb dX1_clear_15 rfl (lv_at hl 0 rfl) ?_
  refine x1_get S hin hK hP rfl 1 (by decide) rfl (by decide +kernel) (v := .long (lN P)) rfl dX1_clear_16 ?_
  refine lv_ldc2 (v := lN 2) hx hb hown (hts (.constantLong RX1 48 (2)) (by decide +kernel)) dX1_clear_19 ?_
  refine nv_lsub hx hb (by omega) dX1_clear_22 ?_
  refine rdv_l S (c_X1_power l D (M rk cc) (P - 2) hP2 hPl (hB rk cc) (by omega)) (cwV 2 hts gX1_clear_X1_power rfl rfl rfl (by decide +kernel) ⟨Nat.le_of_ble_eq_true rfl, Nat.le_of_ble_eq_true rfl⟩) rfl hK hP (ci := 1) rfl rfl hl.1 (rest := []) rfl (Nat.le_of_ble_eq_true rfl) dX1_clear_23 ⟨Nat.zero_le _, Nat.zero_le _⟩ hP hS hA (fun r_1 H locs er_1 hP hS => ?_)
  subst er_1
  have hY := Nat.mod_lt (M rk cc ^ (P - 2)) (show 0 < P by omega)
  generalize hYe : M rk cc ^ (P - 2) % P = Y at hY hret ⊢
  refine lv_lstore_n (lv' := [(2, .long (lN Y)), (0, .ref h), (1, .int (nI cc))]) hx hb dX1_clear_26 rfl hl (by decide) rfl (fun ls hl => ?_)
  refine lv_iconst (v := nI 0) hx hb dX1_clear_27 (by decide +kernel) ?_
  refine lv_istore (lv' := [(4, .int (nI 0)), (2, .long (lN Y)), (0, .ref h), (1, .int (nI cc))]) hx hb dX1_clear_28 hl (by decide) rfl (fun ls hl => ?_)
  have L : ∀ (nL : Nat) (f : Nat → Int64) (i : Nat), (i ≤ 20) → (Rq mR f (col2 i (scl P M rk Y) M)) → (21 ≤ i + nL) → ∀ (ls : Array Slot) (H : Heap) (locs : List Loc), lv_has ls 8 [(0, .ref h), (1, .int (nI cc)), (2, .long (lN Y)), (4, .int (nI i))] → va_P D vwCl (mdW h b1 b2 b3 b4 b5 cJ cI (lN P) (nI mR) (nI nC) vd gA gB rd rk f gP gS) H → va_D A (mdW h b1 b2 b3 b4 b5 cJ cI (lN P) (nI mR) (nI nC) vd gA gB rd rk f gP gS) → va_S A s.heap H locs → W p l e ({ frames := 1, cells := 0, slots := 0, locals := 27 }) s mm args below meth c H locs 0 0 Q (F0 mm 30 ls []) := by
    intro nL
    induction nL with
    | zero => intro f i hi hinv hfuel; exfalso; omega
    | succ nL ihL =>
      intro f i hi hinv hfuel ls H locs hl hP hD hS
      refine lv_iload hx hb dX1_clear_30 (lv_at hl 3 rfl) ?_
      refine lv_bipush (v := nI 20) hx hb dX1_clear_32 (by decide +kernel) ?_
      refine nv_icmp_ge (tgt := 80) hx hb dX1_clear_34 (by decide) (by omega) (by omega) (fun c_2 => ?_) (fun c_2 => ?_)
      · have hr2 := hinv.colw c_2
        have hB2 := bn_scl (show 0 < P by omega) hB rk Y
        generalize hM2 : scl P M rk Y = M2 at hr2 hB2 hret
        refine lv_iconst (v := nI 0) hx hb dX1_clear_80 (by decide +kernel) ?_
        refine lv_istore (lv' := [(4, .int (nI 0)), (0, .ref h), (1, .int (nI cc)), (2, .long (lN Y))]) hx hb dX1_clear_81 hl (by decide) rfl (fun ls hl => ?_)
        have L2 : ∀ (nL2 : Nat) (f1 : Nat → Int64) (i : Nat), (i ≤ mR) → (Rq mR f1 (row2 i (clr P M2 rk cc) M2)) → (mR + 1 ≤ i + nL2) → ∀ (ls : Array Slot) (H : Heap) (locs : List Loc), lv_has ls 8 [(0, .ref h), (1, .int (nI cc)), (2, .long (lN Y)), (4, .int (nI i))] → va_P D vwCl (mdW h b1 b2 b3 b4 b5 cJ cI (lN P) (nI mR) (nI nC) vd gA gB rd rk f1 gP gS) H → va_D A (mdW h b1 b2 b3 b4 b5 cJ cI (lN P) (nI mR) (nI nC) vd gA gB rd rk f1 gP gS) → va_S A s.heap H locs → W p l e ({ frames := 1, cells := 0, slots := 0, locals := 27 }) s mm args below meth c H locs 0 0 Q (F0 mm 83 ls []) := by
          intro nL2
          induction nL2 with
          | zero => intro f1 i hi2 hinv2 hfuel; exfalso; omega
          | succ nL2 ihL2 =>
            intro f1 i hi2 hinv2 hfuel ls H locs hl hP hD hS
            refine lv_iload hx hb dX1_clear_83 (lv_at hl 3 rfl) ?_
            refine lv_aload_n hx hb dX1_clear_85 rfl (lv_at hl 0 rfl) ?_
            refine x1_get S hin hK hP rfl 2 (by decide) rfl (by decide +kernel) (v := .int (nI mR)) rfl dX1_clear_86 ?_
            refine nv_icmp_ge (tgt := 196) hx hb dX1_clear_89 (by decide) (by omega) (by omega) (fun c_3 => ?_) (fun c_3 => ?_)
            · exact hret f1 196 ls _ _ dX1_clear_196 hP hD hS (hinv2.rowm c_3)
            · have hBi := bn_row2 (bn_clr (show 0 < P by omega) hB2 rk cc) hB2 i
              obtain ⟨Mi, hMi⟩ : ∃ z : Mat, z = row2 i (clr P M2 rk cc) M2 := ⟨_, rfl⟩
              rw [← hMi] at hinv2 hBi
              refine lv_iload hx hb dX1_clear_92 (lv_at hl 3 rfl) ?_
              refine lv_aload_n hx hb dX1_clear_94 rfl (lv_at hl 0 rfl) ?_
              refine x1_get S hin hK hP rfl 8 (by decide) rfl (by decide +kernel) (v := .int (nI rk)) rfl dX1_clear_95 ?_
              refine nv_icmp_ne (tgt := 105) hx hb dX1_clear_98 (by decide) (by omega) (by omega) (fun c_4 => ?_) (fun c_4 => ?_)
              · refine lv_aload_n hx hb dX1_clear_105 rfl (lv_at hl 0 rfl) ?_
                refine x1_get S hin hK hP rfl 9 (by decide) rfl (by decide +kernel) (v := .ref b3) rfl dX1_clear_106 ?_
                refine lv_bipush (v := nI 20) hx hb dX1_clear_109 (by decide +kernel) ?_
                refine lv_iload hx hb dX1_clear_111 (lv_at hl 3 rfl) ?_
                refine nv_imul hx hb dX1_clear_113 ?_
                refine lv_iload_n hx hb dX1_clear_114 rfl (lv_at hl 1 rfl) ?_
                refine nv_iadd hx hb dX1_clear_115 ?_
                refine nv_lald hx hb hK hP 3 0 rfl rfl (v := lN (Mi i cc)) (by omega) (by decide) (hinv2 i (by omega) cc (by omega)) dX1_clear_116 ?_
                have ht : Mi i cc = if i = rk then 0 else Mi i cc := by rw [if_neg c_4]
                have htP : Mi i cc < P := by first | omega | exact hBi i cc
                refine lv_lstore (lv' := [(5, .long (lN (Mi i cc))), (0, .ref h), (1, .int (nI cc)), (2, .long (lN Y)), (4, .int (nI i))]) hx hb dX1_clear_117 hl (by decide) rfl (fun ls hl => ?_)
                refine lv_iconst (v := nI 0) hx hb dX1_clear_119 (by decide +kernel) ?_
                refine lv_istore (lv' := [(7, .int (nI 0)), (5, .long (lN (Mi i cc))), (0, .ref h), (1, .int (nI cc)), (2, .long (lN Y)), (4, .int (nI i))]) hx hb dX1_clear_120 hl (by decide) rfl (fun ls hl => ?_)
                have L3 : ∀ (nL3 : Nat) (f2 : Nat → Int64) (k : Nat), (k ≤ 20) → (Rq mR f2 (col2 k (tkr P Mi rk i (P - (Mi i cc))) Mi)) → (21 ≤ k + nL3) → ∀ (ls : Array Slot) (H : Heap) (locs : List Loc), lv_has ls 8 [(0, .ref h), (1, .int (nI cc)), (2, .long (lN Y)), (4, .int (nI i)), (5, .long (lN (Mi i cc))), (7, .int (nI k))] → va_P D vwCl (mdW h b1 b2 b3 b4 b5 cJ cI (lN P) (nI mR) (nI nC) vd gA gB rd rk f2 gP gS) H → va_D A (mdW h b1 b2 b3 b4 b5 cJ cI (lN P) (nI mR) (nI nC) vd gA gB rd rk f2 gP gS) → va_S A s.heap H locs → W p l e ({ frames := 1, cells := 0, slots := 0, locals := 27 }) s mm args below meth c H locs 0 0 Q (F0 mm 122 ls []) := by
                  intro nL3
                  induction nL3 with
                  | zero => intro f2 k hk3 hinv3 hfuel; exfalso; omega
                  | succ nL3 ihL3 =>
                    intro f2 k hk3 hinv3 hfuel ls H locs hl hP hD hS
                    refine lv_iload hx hb dX1_clear_122 (lv_at hl 5 rfl) ?_
                    refine lv_bipush (v := nI 20) hx hb dX1_clear_124 (by decide +kernel) ?_
                    refine nv_icmp_ge (tgt := 190) hx hb dX1_clear_126 (by decide) (by omega) (by omega) (fun c_5 => ?_) (fun c_5 => ?_)
                    · have hr3 := hinv3.colw c_5
                      rw [hMi] at hr3 ht
                      refine lv_iinc (v := nI (i + 1)) (lv' := [(4, .int (nI (i + 1))), (0, .ref h), (1, .int (nI cc)), (2, .long (lN Y)), (5, .long (lN (Mi i cc))), (7, .int (nI k))]) hx hb dX1_clear_190 hl (k := 3) rfl (nv_inc i 1) (by decide) rfl (fun ls hl => ?_)
                      refine lv_goto (tgt := 83) hx hb dX1_clear_193 (by decide) ?_
                      exact ihL2 f2 (i + 1) (by omega) (sq_clr hB2 ht hr3) (by omega) ls _ _ (lv_sub hl [1, 2, 3, 0] rfl) hP hD hS
                    · have hbk : ∀ a b, col2 k (tkr P Mi rk i (P - (Mi i cc))) Mi a b < P := bn_col2 (bn_tkr (by omega) hBi rk i _) hBi k
                      have hb1 := hbk i k
                      have hb2 := hbk rk k
                      refine lv_aload_n hx hb dX1_clear_129 rfl (lv_at hl 0 rfl) ?_
                      refine x1_get S hin hK hP rfl 9 (by decide) rfl (by decide +kernel) (v := .ref b3) rfl dX1_clear_130 ?_
                      refine lv_bipush (v := nI 20) hx hb dX1_clear_133 (by decide +kernel) ?_
                      refine lv_iload hx hb dX1_clear_135 (lv_at hl 3 rfl) ?_
                      refine nv_imul hx hb dX1_clear_137 ?_
                      refine lv_iload hx hb dX1_clear_138 (lv_at hl 5 rfl) ?_
                      refine nv_iadd hx hb dX1_clear_140 ?_
                      refine lv_aload_n hx hb dX1_clear_141 rfl (lv_at hl 0 rfl) ?_
                      refine x1_get S hin hK hP rfl 9 (by decide) rfl (by decide +kernel) (v := .ref b3) rfl dX1_clear_142 ?_
                      refine lv_bipush (v := nI 20) hx hb dX1_clear_145 (by decide +kernel) ?_
                      refine lv_iload hx hb dX1_clear_147 (lv_at hl 3 rfl) ?_
                      refine nv_imul hx hb dX1_clear_149 ?_
                      refine lv_iload hx hb dX1_clear_150 (lv_at hl 5 rfl) ?_
                      refine nv_iadd hx hb dX1_clear_152 ?_
                      refine nv_lald hx hb hK hP 3 0 rfl rfl (v := lN (col2 k (tkr P Mi rk i (P - (Mi i cc))) Mi i k)) (by omega) (by decide) (hinv3 i (by omega) k (by omega)) dX1_clear_153 ?_
                      refine lv_aload_n hx hb dX1_clear_154 rfl (lv_at hl 0 rfl) ?_
                      refine x1_get S hin hK hP rfl 1 (by decide) rfl (by decide +kernel) (v := .long (lN P)) rfl dX1_clear_155 ?_
                      refine lv_lload hx hb dX1_clear_158 (lv_at hl 4 rfl) ?_
                      refine nv_lsub hx hb (by omega) dX1_clear_160 ?_
                      refine lv_aload_n hx hb dX1_clear_161 rfl (lv_at hl 0 rfl) ?_
                      refine x1_get S hin hK hP rfl 9 (by decide) rfl (by decide +kernel) (v := .ref b3) rfl dX1_clear_162 ?_
                      refine lv_bipush (v := nI 20) hx hb dX1_clear_165 (by decide +kernel) ?_
                      refine lv_aload_n hx hb dX1_clear_167 rfl (lv_at hl 0 rfl) ?_
                      refine x1_get S hin hK hP rfl 8 (by decide) rfl (by decide +kernel) (v := .int (nI rk)) rfl dX1_clear_168 ?_
                      refine nv_imul hx hb dX1_clear_171 ?_
                      refine lv_iload hx hb dX1_clear_172 (lv_at hl 5 rfl) ?_
                      refine nv_iadd hx hb dX1_clear_174 ?_
                      refine nv_lald hx hb hK hP 3 0 rfl rfl (v := lN (col2 k (tkr P Mi rk i (P - (Mi i cc))) Mi rk k)) (by omega) (by decide) (hinv3 rk hrk k (by omega)) dX1_clear_175 ?_
                      refine nv_lmul hx hb dX1_clear_176 ?_
                      refine nv_ladd hx hb dX1_clear_177 ?_
                      refine lv_aload_n hx hb dX1_clear_178 rfl (lv_at hl 0 rfl) ?_
                      refine x1_get S hin hK hP rfl 1 (by decide) rfl (by decide +kernel) (v := .long (lN P)) rfl dX1_clear_179 ?_
                      refine nv_lrem hx hb (mul_b2 (by omega) (by omega) (by omega)) (by omega) (by omega) dX1_clear_182 ?_
                      refine nv_last hx hb hK hP hD hS 3 0 rfl rfl (by omega) (by decide) dX1_clear_183 (fun H locs hP hD hS => ?_)
                      have hP : va_P D vwCl (mdW h b1 b2 b3 b4 b5 cJ cI (lN P) (nI mR) (nI nC) vd gA gB rd rk (vp_updL f2 ((20 * i) + k) (lN (((col2 k (tkr P Mi rk i (P - (Mi i cc))) Mi i k) + ((P - (Mi i cc)) * (col2 k (tkr P Mi rk i (P - (Mi i cc))) Mi rk k))) % P))) gP gS) H := hP
                      have hD : va_D A (mdW h b1 b2 b3 b4 b5 cJ cI (lN P) (nI mR) (nI nC) vd gA gB rd rk (vp_updL f2 ((20 * i) + k) (lN (((col2 k (tkr P Mi rk i (P - (Mi i cc))) Mi i k) + ((P - (Mi i cc)) * (col2 k (tkr P Mi rk i (P - (Mi i cc))) Mi rk k))) % P))) gP gS) := hD
                      refine lv_iinc (v := nI (k + 1)) (lv' := [(7, .int (nI (k + 1))), (0, .ref h), (1, .int (nI cc)), (2, .long (lN Y)), (4, .int (nI i)), (5, .long (lN (Mi i cc)))]) hx hb dX1_clear_184 hl (k := 5) rfl (nv_inc k 1) (by decide) rfl (fun ls hl => ?_)
                      refine lv_goto (tgt := 122) hx hb dX1_clear_187 (by decide) ?_
                      exact ihL3 (vp_updL f2 ((20 * i) + k) (lN (((col2 k (tkr P Mi rk i (P - (Mi i cc))) Mi i k) + ((P - (Mi i cc)) * (col2 k (tkr P Mi rk i (P - (Mi i cc))) Mi rk k))) % P))) (k + 1) (by omega) (sq_tkr c_5 hinv3) (by omega) ls _ _ (lv_sub hl [1, 2, 3, 4, 5, 0] rfl) hP hD hS
                exact L3 21 f1 0 (by omega) hinv2.col0 (by omega) ls _ _ (lv_sub hl [2, 3, 4, 5, 1, 0] rfl) hP hD hS
              · refine lv_lconst (v := lN 0) hx hb dX1_clear_101 rfl ?_
                refine lv_goto (tgt := 117) hx hb dX1_clear_102 (by decide) ?_
                have ht : 0 = if i = rk then 0 else Mi i cc := by rw [if_pos c_4]
                have htP : 0 < P := by first | omega | exact hBi i cc
                refine lv_lstore (lv' := [(5, .long (lN 0)), (0, .ref h), (1, .int (nI cc)), (2, .long (lN Y)), (4, .int (nI i))]) hx hb dX1_clear_117 hl (by decide) rfl (fun ls hl => ?_)
                refine lv_iconst (v := nI 0) hx hb dX1_clear_119 (by decide +kernel) ?_
                refine lv_istore (lv' := [(7, .int (nI 0)), (5, .long (lN 0)), (0, .ref h), (1, .int (nI cc)), (2, .long (lN Y)), (4, .int (nI i))]) hx hb dX1_clear_120 hl (by decide) rfl (fun ls hl => ?_)
                have L3 : ∀ (nL3 : Nat) (f2 : Nat → Int64) (k : Nat), (k ≤ 20) → (Rq mR f2 (col2 k (tkr P Mi rk i (P - 0)) Mi)) → (21 ≤ k + nL3) → ∀ (ls : Array Slot) (H : Heap) (locs : List Loc), lv_has ls 8 [(0, .ref h), (1, .int (nI cc)), (2, .long (lN Y)), (4, .int (nI i)), (5, .long (lN 0)), (7, .int (nI k))] → va_P D vwCl (mdW h b1 b2 b3 b4 b5 cJ cI (lN P) (nI mR) (nI nC) vd gA gB rd rk f2 gP gS) H → va_D A (mdW h b1 b2 b3 b4 b5 cJ cI (lN P) (nI mR) (nI nC) vd gA gB rd rk f2 gP gS) → va_S A s.heap H locs → W p l e ({ frames := 1, cells := 0, slots := 0, locals := 27 }) s mm args below meth c H locs 0 0 Q (F0 mm 122 ls []) := by
                  intro nL3
                  induction nL3 with
                  | zero => intro f2 k hk3 hinv3 hfuel; exfalso; omega
                  | succ nL3 ihL3 =>
                    intro f2 k hk3 hinv3 hfuel ls H locs hl hP hD hS
                    refine lv_iload hx hb dX1_clear_122 (lv_at hl 5 rfl) ?_
                    refine lv_bipush (v := nI 20) hx hb dX1_clear_124 (by decide +kernel) ?_
                    refine nv_icmp_ge (tgt := 190) hx hb dX1_clear_126 (by decide) (by omega) (by omega) (fun c_6 => ?_) (fun c_6 => ?_)
                    · have hr3 := hinv3.colw c_6
                      rw [hMi] at hr3 ht
                      refine lv_iinc (v := nI (i + 1)) (lv' := [(4, .int (nI (i + 1))), (0, .ref h), (1, .int (nI cc)), (2, .long (lN Y)), (5, .long (lN 0)), (7, .int (nI k))]) hx hb dX1_clear_190 hl (k := 3) rfl (nv_inc i 1) (by decide) rfl (fun ls hl => ?_)
                      refine lv_goto (tgt := 83) hx hb dX1_clear_193 (by decide) ?_
                      exact ihL2 f2 (i + 1) (by omega) (sq_clr hB2 ht hr3) (by omega) ls _ _ (lv_sub hl [1, 2, 3, 0] rfl) hP hD hS
                    · have hbk : ∀ a b, col2 k (tkr P Mi rk i (P - 0)) Mi a b < P := bn_col2 (bn_tkr (by omega) hBi rk i _) hBi k
                      have hb1 := hbk i k
                      have hb2 := hbk rk k
                      refine lv_aload_n hx hb dX1_clear_129 rfl (lv_at hl 0 rfl) ?_
                      refine x1_get S hin hK hP rfl 9 (by decide) rfl (by decide +kernel) (v := .ref b3) rfl dX1_clear_130 ?_
                      refine lv_bipush (v := nI 20) hx hb dX1_clear_133 (by decide +kernel) ?_
                      refine lv_iload hx hb dX1_clear_135 (lv_at hl 3 rfl) ?_
                      refine nv_imul hx hb dX1_clear_137 ?_
                      refine lv_iload hx hb dX1_clear_138 (lv_at hl 5 rfl) ?_
                      refine nv_iadd hx hb dX1_clear_140 ?_
                      refine lv_aload_n hx hb dX1_clear_141 rfl (lv_at hl 0 rfl) ?_
                      refine x1_get S hin hK hP rfl 9 (by decide) rfl (by decide +kernel) (v := .ref b3) rfl dX1_clear_142 ?_
                      refine lv_bipush (v := nI 20) hx hb dX1_clear_145 (by decide +kernel) ?_
                      refine lv_iload hx hb dX1_clear_147 (lv_at hl 3 rfl) ?_
                      refine nv_imul hx hb dX1_clear_149 ?_
                      refine lv_iload hx hb dX1_clear_150 (lv_at hl 5 rfl) ?_
                      refine nv_iadd hx hb dX1_clear_152 ?_
                      refine nv_lald hx hb hK hP 3 0 rfl rfl (v := lN (col2 k (tkr P Mi rk i (P - 0)) Mi i k)) (by omega) (by decide) (hinv3 i (by omega) k (by omega)) dX1_clear_153 ?_
                      refine lv_aload_n hx hb dX1_clear_154 rfl (lv_at hl 0 rfl) ?_
                      refine x1_get S hin hK hP rfl 1 (by decide) rfl (by decide +kernel) (v := .long (lN P)) rfl dX1_clear_155 ?_
                      refine lv_lload hx hb dX1_clear_158 (lv_at hl 4 rfl) ?_
                      refine nv_lsub hx hb (by omega) dX1_clear_160 ?_
                      refine lv_aload_n hx hb dX1_clear_161 rfl (lv_at hl 0 rfl) ?_
                      refine x1_get S hin hK hP rfl 9 (by decide) rfl (by decide +kernel) (v := .ref b3) rfl dX1_clear_162 ?_
                      refine lv_bipush (v := nI 20) hx hb dX1_clear_165 (by decide +kernel) ?_
                      refine lv_aload_n hx hb dX1_clear_167 rfl (lv_at hl 0 rfl) ?_
                      refine x1_get S hin hK hP rfl 8 (by decide) rfl (by decide +kernel) (v := .int (nI rk)) rfl dX1_clear_168 ?_
                      refine nv_imul hx hb dX1_clear_171 ?_
                      refine lv_iload hx hb dX1_clear_172 (lv_at hl 5 rfl) ?_
                      refine nv_iadd hx hb dX1_clear_174 ?_
                      refine nv_lald hx hb hK hP 3 0 rfl rfl (v := lN (col2 k (tkr P Mi rk i (P - 0)) Mi rk k)) (by omega) (by decide) (hinv3 rk hrk k (by omega)) dX1_clear_175 ?_
                      refine nv_lmul hx hb dX1_clear_176 ?_
                      refine nv_ladd hx hb dX1_clear_177 ?_
                      refine lv_aload_n hx hb dX1_clear_178 rfl (lv_at hl 0 rfl) ?_
                      refine x1_get S hin hK hP rfl 1 (by decide) rfl (by decide +kernel) (v := .long (lN P)) rfl dX1_clear_179 ?_
                      refine nv_lrem hx hb (mul_b2 (by omega) (by omega) (by omega)) (by omega) (by omega) dX1_clear_182 ?_
                      refine nv_last hx hb hK hP hD hS 3 0 rfl rfl (by omega) (by decide) dX1_clear_183 (fun H locs hP hD hS => ?_)
                      have hP : va_P D vwCl (mdW h b1 b2 b3 b4 b5 cJ cI (lN P) (nI mR) (nI nC) vd gA gB rd rk (vp_updL f2 ((20 * i) + k) (lN (((col2 k (tkr P Mi rk i (P - 0)) Mi i k) + ((P - 0) * (col2 k (tkr P Mi rk i (P - 0)) Mi rk k))) % P))) gP gS) H := hP
                      have hD : va_D A (mdW h b1 b2 b3 b4 b5 cJ cI (lN P) (nI mR) (nI nC) vd gA gB rd rk (vp_updL f2 ((20 * i) + k) (lN (((col2 k (tkr P Mi rk i (P - 0)) Mi i k) + ((P - 0) * (col2 k (tkr P Mi rk i (P - 0)) Mi rk k))) % P))) gP gS) := hD
                      refine lv_iinc (v := nI (k + 1)) (lv' := [(7, .int (nI (k + 1))), (0, .ref h), (1, .int (nI cc)), (2, .long (lN Y)), (4, .int (nI i)), (5, .long (lN 0))]) hx hb dX1_clear_184 hl (k := 5) rfl (nv_inc k 1) (by decide) rfl (fun ls hl => ?_)
                      refine lv_goto (tgt := 122) hx hb dX1_clear_187 (by decide) ?_
                      exact ihL3 (vp_updL f2 ((20 * i) + k) (lN (((col2 k (tkr P Mi rk i (P - 0)) Mi i k) + ((P - 0) * (col2 k (tkr P Mi rk i (P - 0)) Mi rk k))) % P))) (k + 1) (by omega) (sq_tkr c_6 hinv3) (by omega) ls _ _ (lv_sub hl [1, 2, 3, 4, 5, 0] rfl) hP hD hS
                exact L3 21 f1 0 (by omega) hinv2.col0 (by omega) ls _ _ (lv_sub hl [2, 3, 4, 5, 1, 0] rfl) hP hD hS
        exact L2 (mR + 1) f 0 (by omega) (Rq.row0 hr2) (by omega) ls _ _ (lv_sub hl [1, 2, 3, 0] rfl) hP hD hS
      · have hbi : col2 i (scl P M rk Y) M rk i < P := bn_col2 (bn_scl (by omega) hB rk Y) hB i rk i
        refine lv_aload_n hx hb dX1_clear_37 rfl (lv_at hl 0 rfl) ?_
        refine x1_get S hin hK hP rfl 9 (by decide) rfl (by decide +kernel) (v := .ref b3) rfl dX1_clear_38 ?_
        refine lv_bipush (v := nI 20) hx hb dX1_clear_41 (by decide +kernel) ?_
        refine lv_aload_n hx hb dX1_clear_43 rfl (lv_at hl 0 rfl) ?_
        refine x1_get S hin hK hP rfl 8 (by decide) rfl (by decide +kernel) (v := .int (nI rk)) rfl dX1_clear_44 ?_
        refine nv_imul hx hb dX1_clear_47 ?_
        refine lv_iload hx hb dX1_clear_48 (lv_at hl 3 rfl) ?_
        refine nv_iadd hx hb dX1_clear_50 ?_
        refine lv_aload_n hx hb dX1_clear_51 rfl (lv_at hl 0 rfl) ?_
        refine x1_get S hin hK hP rfl 9 (by decide) rfl (by decide +kernel) (v := .ref b3) rfl dX1_clear_52 ?_
        refine lv_bipush (v := nI 20) hx hb dX1_clear_55 (by decide +kernel) ?_
        refine lv_aload_n hx hb dX1_clear_57 rfl (lv_at hl 0 rfl) ?_
        refine x1_get S hin hK hP rfl 8 (by decide) rfl (by decide +kernel) (v := .int (nI rk)) rfl dX1_clear_58 ?_
        refine nv_imul hx hb dX1_clear_61 ?_
        refine lv_iload hx hb dX1_clear_62 (lv_at hl 3 rfl) ?_
        refine nv_iadd hx hb dX1_clear_64 ?_
        refine nv_lald hx hb hK hP 3 0 rfl rfl (v := lN (col2 i (scl P M rk Y) M rk i)) (by omega) (by decide) (hinv rk hrk i (by omega)) dX1_clear_65 ?_
        refine lv_lload_n hx hb dX1_clear_66 rfl (lv_at hl 2 rfl) ?_
        refine nv_lmul hx hb dX1_clear_67 ?_
        refine lv_aload_n hx hb dX1_clear_68 rfl (lv_at hl 0 rfl) ?_
        refine x1_get S hin hK hP rfl 1 (by decide) rfl (by decide +kernel) (v := .long (lN P)) rfl dX1_clear_69 ?_
        refine nv_lrem hx hb (mul_b (by omega) (by omega)) (by omega) (by omega) dX1_clear_72 ?_
        refine nv_last hx hb hK hP hD hS 3 0 rfl rfl (by omega) (by decide) dX1_clear_73 (fun H locs hP hD hS => ?_)
        have hP : va_P D vwCl (mdW h b1 b2 b3 b4 b5 cJ cI (lN P) (nI mR) (nI nC) vd gA gB rd rk (vp_updL f ((20 * rk) + i) (lN (((col2 i (scl P M rk Y) M rk i) * Y) % P))) gP gS) H := hP
        have hD : va_D A (mdW h b1 b2 b3 b4 b5 cJ cI (lN P) (nI mR) (nI nC) vd gA gB rd rk (vp_updL f ((20 * rk) + i) (lN (((col2 i (scl P M rk Y) M rk i) * Y) % P))) gP gS) := hD
        refine lv_iinc (v := nI (i + 1)) (lv' := [(4, .int (nI (i + 1))), (0, .ref h), (1, .int (nI cc)), (2, .long (lN Y))]) hx hb dX1_clear_74 hl (k := 3) rfl (nv_inc i 1) (by decide) rfl (fun ls hl => ?_)
        refine lv_goto (tgt := 30) hx hb dX1_clear_77 (by decide) ?_
        exact ihL (vp_updL f ((20 * rk) + i) (lN (((col2 i (scl P M rk Y) M rk i) * Y) % P))) (i + 1) (by omega) (sq_scl c_2 hinv) (by omega) ls _ _ (lv_sub hl [1, 2, 3, 0] rfl) hP hD hS
  exact L 21 gR 0 (by omega) hM.col0 (by omega) ls _ _ (lv_sub hl [2, 3, 1, 0] rfl) hP hD hS
end
section
theorem cnt_mono (po : Nat → Option Nat) {i j : Nat} (h : i ≤ j) : cnt po i ≤ cnt po j := by
  induction j with
  | zero => rw [show i = 0 by omega]; exact Nat.le_refl _
  | succ j ih =>
    rcases Nat.lt_or_ge j i with q | q
    · rw [show i = j + 1 by omega]
      exact Nat.le_refl _
    · have := ih q
      simp only [cnt]
      omega
theorem cnt_free {po : Nat → Option Nat} {i j : Nat} (h : i < j) (hi : po i = none) : cnt po i < cnt po j := by
  have h1 := cnt_mono po (show i + 1 ≤ j from h)
  have h2 : cnt po (i + 1) = cnt po i + 1 := by simp [cnt, hi]
  omega
theorem kth_none {po : Nat → Option Nat} {k : Int32} {n : Nat} (h : ∀ c, c < cnt po n → k ≠ nI c) : kth po k n 0 = none := by
  cases e : kth po k n 0 with
  | none => rfl
  | some f =>
    obtain ⟨-, h2, h3, h4⟩ := kth_lt _ _ _ e
    exact absurd h4.symm (h _ (cnt_free (by omega) h3))
theorem kth_some {po : Nat → Option Nat} {kk n : Nat} (h : kk < cnt po n) : ∀ d j, d = n - j → j ≤ n → cnt po j ≤ kk → ∃ f, kth po (nI kk) d j = some f := by
  intro d
  induction d with
  | zero =>
    intro j hd hj hc
    have := cnt_mono po (show n ≤ j by omega)
    omega
  | succ d ih =>
    intro j hd hj hc
    simp only [kth]
    by_cases q : po j = none ∧ nI (cnt po j) = nI kk
    · exact ⟨j, if_pos q⟩
    · rw [if_neg q]
      refine ih (j + 1) (by omega) (by omega) ?_
      simp only [cnt]
      split
      · rename_i hn
        rcases Nat.lt_or_ge (cnt po j) kk with z | z
        · omega
        · exact absurd ⟨hn, by rw [show cnt po j = kk by omega]⟩ q
      · omega
theorem sKer_no {rd P n : Nat} {M : Mat} {po : Nat → Option Nat} {k j : Int32} (h : kth po k n 0 = none) : sKer rd P n M po k j = -1 := by
  unfold sKer
  split
  · rw [h]
    rfl
  · rfl
theorem ng_mod {P x : Nat} (h : x < P) : (P - x) % P = ng P x := by
  unfold ng
  split
  · rename_i e
    subst e
    simp
  · exact Nat.mod_eq_of_lt (by omega)
/-- what the reduction keeps of its pivots -/
def pcOk (c : Nat) (q : RS) : Prop := (∀ i, i < q.2.1 → q.2.2.2 i < c) ∧ cnt (rowOf q.2.2.2 q.2.1) c + q.2.1 = c
theorem rowOf_none {pc : Nat → Nat} {r j : Nat} (h : ∀ i, i < r → pc i ≠ j) : rowOf pc r j = none := by
  induction r with
  | zero => rfl
  | succ r ih =>
    simp only [rowOf]
    rw [if_neg (h r (by omega)), ih (fun i hi => h i (by omega))]
theorem cnt_ext {po pq : Nat → Option Nat} {c : Nat} (h : ∀ j, j < c → po j = pq j) : cnt po c = cnt pq c := by
  induction c with
  | zero => rfl
  | succ c ih =>
    simp only [cnt]
    rw [h c (by omega), ih (fun j hj => h j (by omega))]
theorem pcOk_step {P m c : Nat} {q : RS} (h : pcOk c q) (hm : q.2.1 < m ∨ True) : pcOk (c + 1) (redS P m c q) := by
  obtain ⟨M, r, d, pc⟩ := q
  obtain ⟨h1, h2⟩ := h
  dsimp only at h1 h2
  by_cases hc : r < m ∧ fnd M c (m - r) r < m
  · rw [redS_yes hc.1 rfl hc.2]
    refine ⟨fun i hi => ?_, ?_⟩
    · show (if i = r then c else pc i) < c + 1
      split
      · omega
      · have : i < r + 1 := hi
        have := h1 i (by omega)
        omega
    · show cnt (rowOf (fun i => if i = r then c else pc i) (r + 1)) (c + 1) + (r + 1) = c + 1
      have e1 : cnt (rowOf (fun i => if i = r then c else pc i) (r + 1)) c = cnt (rowOf pc r) c := by
        refine cnt_ext (fun j hj => ?_)
        simp only [rowOf, if_pos]
        rw [if_neg (by omega)]
        exact rowOf_ext (fun i hi => if_neg (by omega)) j
      have e2 : rowOf (fun i => if i = r then c else pc i) (r + 1) c = some r := by simp [rowOf]
      simp only [cnt]
      rw [e1, e2]
      simp
      omega
  · rw [redS_no (q := (M, r, d, pc)) hc]
    refine ⟨fun i hi => Nat.lt_succ_of_lt (h1 i hi), ?_⟩
    have e2 : rowOf pc r c = none := rowOf_none (fun i hi => by have := h1 i hi; omega)
    show cnt (rowOf pc r) (c + 1) + r = c + 1
    simp only [cnt]
    rw [e2]
    simp
    omega
theorem pcOk_all {P m : Nat} {q0 : RS} (h : q0.2.1 = 0) : ∀ c, pcOk c (redN P m q0 c) := by
  intro c
  induction c with
  | zero =>
    refine ⟨fun i hi => ?_, ?_⟩
    · have : i < q0.2.1 := hi
      omega
    · show 0 + q0.2.1 = 0
      omega
  | succ c ih => exact pcOk_step ih (Or.inr trivial)
end
section
set_option maxHeartbeats 4000000 in
set_option maxRecDepth 100000 in
theorem c_X1_reduce0 (l : Launch) (D : va_G) {h b1 b2 b3 b4 b5 : Nat} {cJ cI : ClassId} {gA gB : Nat → Int64} {rd rk : Nat} {gR : Nat → Int64} {gP : Nat → Int32} {gS : Nat → Int64} {pj : Int64} {mi ni : Int32} {vd P mR nC : Nat} (hvd0 : vd = 0) : WrI (U := Unit) l yX1_reduce wsX1_reduce ({ frames := 0, cells := 0, slots := 0, locals := 0 }) [.ref h] D (mdW h b1 b2 b3 b4 b5 cJ cI pj mi ni vd gA gB rd rk gR gP gS) [(cJ, .long), (cI, .int)] (fun r _ => r = -1) (fun _ => mdW h b1 b2 b3 b4 b5 cJ cI pj mi ni vd gA gB rd rk gR gP gS) := by
  refine WrI.mk (cc := cX1_reduce) (maxL := 3) (rt := .int) (by decide) rfl (Nat.le_of_ble_eq_true rfl) ?_
  intro p e s mm args below meth c Q ls A S hK hP hD hA hS hl hret
  have hx := S.1
  have hb := S.2.1
  have hts := S.2.2.2.2
  have hown := S.2.2.2.1
  have hin : ∀ w ∈ wsX10, w ∈ wsX1_reduce := fun w h => List.mem_cons_of_mem _ (List.mem_append_right _ h)
  have hl : lv_has ls 3 [(0, .ref h)] := hl
  refine lv_aload_n hx hb dX1_reduce_0 rfl (lv_at hl 0 rfl) ?_
  refine lv_iconst (v := nI 0) hx hb dX1_reduce_1 (by decide +kernel) ?_
  refine x1_put S hin hK hP hD hS rfl 0 (by decide) rfl (by decide +kernel) rfl (ty := .int) (v := .int (nI 0)) rfl rfl rfl (Nat.le_of_ble_eq_true rfl) dX1_reduce_2 (fun H locs hP hD hS => ?_)
  have hP : va_P D vwCl (mdW h b1 b2 b3 b4 b5 cJ cI pj mi ni vd gA gB rd rk gR gP gS) H := hP
  have hD : va_D A (mdW h b1 b2 b3 b4 b5 cJ cI pj mi ni vd gA gB rd rk gR gP gS) := hD
  refine lv_aload_n hx hb dX1_reduce_5 rfl (lv_at hl 0 rfl) ?_
  refine x1_get S hin hK hP rfl 4 (by decide) rfl (by decide +kernel) (v := .int (nI vd)) rfl dX1_reduce_6 ?_
  refine nv_if_ne (tgt := 14) hx hb dX1_reduce_9 (by decide) (by omega) (fun c_1 => ?_) (fun c_1 => ?_)
  · exact absurd hvd0 (by omega)
  · refine lv_iconst (v := (-1)) hx hb dX1_reduce_12 (by decide +kernel) ?_
    exact hret ((-1)) () 13 ls _ _ dX1_reduce_13 (rfl) hP hD hS (rfl)
set_option maxHeartbeats 4000000 in
set_option maxRecDepth 100000 in
theorem c_X1_reduce (l : Launch) (D : va_G) {h b1 b2 b3 b4 b5 : Nat} {cJ cI : ClassId} {gA gB : Nat → Int64} {rd rk : Nat} {gR : Nat → Int64} {gP : Nat → Int32} {gS : Nat → Int64} {vd P mR nC : Nat} {A0 : Mat} (hP2 : 2 ≤ P) (hPl : P < 2 ^ 31) (hm : mR ≤ 10) (hn : nC ≤ 10) (hvd0 : vd ≠ 0) (hvd : vd < 2) (hAb : bnd P A0) (hA0 : ∀ a, a < mR → ∀ k, k < nC → gA (10 * a + k) = lN (A0 a k)) : WrI (U := (Nat → Int64) × (Nat → Int32) × Nat) l yX1_reduce wsX1_reduce ({ frames := 2, cells := 0, slots := 0, locals := 54 }) [.ref h] D (mdW h b1 b2 b3 b4 b5 cJ cI (lN P) (nI mR) (nI nC) vd gA gB rd rk gR gP gS) [(cJ, .long), (cI, .int)] (fun r u => r = nI (redN P mR (q00 nC A0) nC).2.1 ∧ Rq mR u.1 (redN P mR (q00 nC A0) nC).1 ∧ (∀ i, i < (redN P mR (q00 nC A0) nC).2.1 → u.2.1 i = nI ((redN P mR (q00 nC A0) nC).2.2.2 i)) ∧ u.2.2 = (redN P mR (q00 nC A0) nC).2.1) (fun u => mdW h b1 b2 b3 b4 b5 cJ cI (lN P) (nI mR) (nI nC) vd gA gB 1 u.2.2 u.1 u.2.1 gS) := by
  refine WrI.mk (cc := cX1_reduce) (maxL := 3) (rt := .int) (by decide) rfl (Nat.le_of_ble_eq_true rfl) ?_
  intro p e s mm args below meth c Q ls A S hK hP hD hA hS hl hret
  have hx := S.1
  have hb := S.2.1
  have hts := S.2.2.2.2
  have hown := S.2.2.2.1
  have hin : ∀ w ∈ wsX10, w ∈ wsX1_reduce := fun w h => List.mem_cons_of_mem _ (List.mem_append_right _ h)
  have hl : lv_has ls 3 [(0, .ref h)] := hl
  refine lv_aload_n hx hb dX1_reduce_0 rfl (lv_at hl 0 rfl) ?_
  refine lv_iconst (v := nI 0) hx hb dX1_reduce_1 (by decide +kernel) ?_
  refine x1_put S hin hK hP hD hS rfl 0 (by decide) rfl (by decide +kernel) rfl (ty := .int) (v := .int (nI 0)) rfl rfl rfl (Nat.le_of_ble_eq_true rfl) dX1_reduce_2 (fun H locs hP hD hS => ?_)
  have hP : va_P D vwCl (mdW h b1 b2 b3 b4 b5 cJ cI (lN P) (nI mR) (nI nC) vd gA gB rd rk gR gP gS) H := hP
  have hD : va_D A (mdW h b1 b2 b3 b4 b5 cJ cI (lN P) (nI mR) (nI nC) vd gA gB rd rk gR gP gS) := hD
  refine lv_aload_n hx hb dX1_reduce_5 rfl (lv_at hl 0 rfl) ?_
  refine x1_get S hin hK hP rfl 4 (by decide) rfl (by decide +kernel) (v := .int (nI vd)) rfl dX1_reduce_6 ?_
  refine nv_if_ne (tgt := 14) hx hb dX1_reduce_9 (by decide) (by omega) (fun c_1 => ?_) (fun c_1 => ?_)
  · refine lv_iconst (v := nI 0) hx hb dX1_reduce_14 (by decide +kernel) ?_
    refine lv_istore_n (lv' := [(1, .int (nI 0)), (0, .ref h)]) hx hb dX1_reduce_15 rfl hl (by decide) rfl (fun ls hl => ?_)
    have L1 : ∀ (nL1 : Nat) (f : Nat → Int64) (i : Nat), (i ≤ mR) → (Rqq i 0 f (G0 nC A0)) → (mR + 1 ≤ i + nL1) → ∀ (ls : Array Slot) (H : Heap) (locs : List Loc), lv_has ls 3 [(0, .ref h), (1, .int (nI i))] → va_P D vwCl (mdW h b1 b2 b3 b4 b5 cJ cI (lN P) (nI mR) (nI nC) vd gA gB rd rk f gP gS) H → va_D A (mdW h b1 b2 b3 b4 b5 cJ cI (lN P) (nI mR) (nI nC) vd gA gB rd rk f gP gS) → va_S A s.heap H locs → W p l e ({ frames := 2, cells := 0, slots := 0, locals := 54 }) s mm args below meth c H locs 0 0 Q (F0 mm 16 ls []) := by
      intro nL1
      induction nL1 with
      | zero => intro f i hi hinv hfuel; exfalso; omega
      | succ nL1 ihL1 =>
        intro f i hi hinv hfuel ls H locs hl hP hD hS
        refine lv_iload_n hx hb dX1_reduce_16 rfl (lv_at hl 1 rfl) ?_
        refine lv_aload_n hx hb dX1_reduce_17 rfl (lv_at hl 0 rfl) ?_
        refine x1_get S hin hK hP rfl 2 (by decide) rfl (by decide +kernel) (v := .int (nI mR)) rfl dX1_reduce_18 ?_
        refine nv_icmp_ge (tgt := 102) hx hb dX1_reduce_21 (by decide) (by omega) (by omega) (fun c_2 => ?_) (fun c_2 => ?_)
        · have hall := hinv.all c_2
          refine lv_aload_n hx hb dX1_reduce_102 rfl (lv_at hl 0 rfl) ?_
          refine lv_iconst (v := nI 0) hx hb dX1_reduce_103 (by decide +kernel) ?_
          refine x1_put S hin hK hP hD hS rfl 8 (by decide) rfl (by decide +kernel) rfl (ty := .int) (v := .int (nI 0)) rfl rfl rfl (Nat.le_of_ble_eq_true rfl) dX1_reduce_104 (fun H locs hP hD hS => ?_)
          have hP : va_P D vwCl (mdW h b1 b2 b3 b4 b5 cJ cI (lN P) (nI mR) (nI nC) vd gA gB rd 0 f gP gS) H := hP
          have hD : va_D A (mdW h b1 b2 b3 b4 b5 cJ cI (lN P) (nI mR) (nI nC) vd gA gB rd 0 f gP gS) := hD
          refine lv_iconst (v := nI 0) hx hb dX1_reduce_107 (by decide +kernel) ?_
          refine lv_istore_n (lv' := [(1, .int (nI 0)), (0, .ref h)]) hx hb dX1_reduce_108 rfl hl (by decide) rfl (fun ls hl => ?_)
          have L : ∀ (nL : Nat) (f : Nat → Int64) (g : Nat → Int32) (v : Nat) (i : Nat), (i ≤ nC) → (Rq mR f (redN P mR (q00 nC A0) i).1) → (∀ a, a < v → g a = nI ((redN P mR (q00 nC A0) i).2.2.2 a)) → (v = (redN P mR (q00 nC A0) i).2.1) → (nC + 1 ≤ i + nL) → ∀ (ls : Array Slot) (H : Heap) (locs : List Loc), lv_has ls 3 [(0, .ref h), (1, .int (nI i))] → va_P D vwCl (mdW h b1 b2 b3 b4 b5 cJ cI (lN P) (nI mR) (nI nC) vd gA gB rd v f g gS) H → va_D A (mdW h b1 b2 b3 b4 b5 cJ cI (lN P) (nI mR) (nI nC) vd gA gB rd v f g gS) → va_S A s.heap H locs → W p l e ({ frames := 2, cells := 0, slots := 0, locals := 54 }) s mm args below meth c H locs 0 0 Q (F0 mm 109 ls []) := by
            intro nL
            induction nL with
            | zero => intro f g v i hi hinv hg hv hfuel; exfalso; omega
            | succ nL ihL =>
              intro f g v i hi hinv hg hv hfuel ls H locs hl hP hD hS
              refine lv_iload_n hx hb dX1_reduce_109 rfl (lv_at hl 1 rfl) ?_
              refine lv_aload_n hx hb dX1_reduce_110 rfl (lv_at hl 0 rfl) ?_
              refine x1_get S hin hK hP rfl 3 (by decide) rfl (by decide +kernel) (v := .int (nI nC)) rfl dX1_reduce_111 ?_
              refine nv_icmp_ge (tgt := 182) hx hb dX1_reduce_114 (by decide) (by omega) (by omega) (fun c_3 => ?_) (fun c_3 => ?_)
              · have e7 : i = nC := by omega
                rw [e7] at hinv hg hv
                refine lv_aload_n hx hb dX1_reduce_182 rfl (lv_at hl 0 rfl) ?_
                refine lv_iconst (v := nI 1) hx hb dX1_reduce_183 (by decide +kernel) ?_
                refine x1_put S hin hK hP hD hS rfl 7 (by decide) rfl (by decide +kernel) rfl (ty := .boolean) (v := .int (nI 1)) rfl (by decide +kernel) rfl (Nat.le_of_ble_eq_true rfl) dX1_reduce_184 (fun H locs hP hD hS => ?_)
                have hP : va_P D vwCl (mdW h b1 b2 b3 b4 b5 cJ cI (lN P) (nI mR) (nI nC) vd gA gB 1 v f g gS) H := hP
                have hD : va_D A (mdW h b1 b2 b3 b4 b5 cJ cI (lN P) (nI mR) (nI nC) vd gA gB 1 v f g gS) := hD
                refine lv_aload_n hx hb dX1_reduce_187 rfl (lv_at hl 0 rfl) ?_
                refine x1_get S hin hK hP rfl 8 (by decide) rfl (by decide +kernel) (v := .int (nI v)) rfl dX1_reduce_188 ?_
                exact hret (nI v) (f, g, v) 191 ls _ _ dX1_reduce_191 (rfl) hP hD hS (⟨by rw [hv], hinv, by rw [← hv]; exact hg, hv⟩)
              · refine lv_aload_n hx hb dX1_reduce_117 rfl (lv_at hl 0 rfl) ?_
                refine x1_get S hin hK hP rfl 8 (by decide) rfl (by decide +kernel) (v := .int (nI v)) rfl dX1_reduce_118 ?_
                refine lv_aload_n hx hb dX1_reduce_121 rfl (lv_at hl 0 rfl) ?_
                refine x1_get S hin hK hP rfl 2 (by decide) rfl (by decide +kernel) (v := .int (nI mR)) rfl dX1_reduce_122 ?_
                refine nv_icmp_ge (tgt := 182) hx hb dX1_reduce_125 (by decide) (by have h8 := (redN_ok (P := P) (m := mR) (q0 := q00 nC A0) (by omega) (Nat.zero_le _) (bn_G0 hP2 hAb) (show 1 < P by omega) i).1; omega) (by omega) (fun c_4 => ?_) (fun c_4 => ?_)
                · have e7 := redN_stop (P := P) (m := mR) (q0 := q00 nC A0) (c := i) (by omega) (nC - i)
                  rw [show i + (nC - i) = nC by omega] at e7
                  rw [← e7] at hinv hg hv
                  refine lv_aload_n hx hb dX1_reduce_182 rfl (lv_at hl 0 rfl) ?_
                  refine lv_iconst (v := nI 1) hx hb dX1_reduce_183 (by decide +kernel) ?_
                  refine x1_put S hin hK hP hD hS rfl 7 (by decide) rfl (by decide +kernel) rfl (ty := .boolean) (v := .int (nI 1)) rfl (by decide +kernel) rfl (Nat.le_of_ble_eq_true rfl) dX1_reduce_184 (fun H locs hP hD hS => ?_)
                  have hP : va_P D vwCl (mdW h b1 b2 b3 b4 b5 cJ cI (lN P) (nI mR) (nI nC) vd gA gB 1 v f g gS) H := hP
                  have hD : va_D A (mdW h b1 b2 b3 b4 b5 cJ cI (lN P) (nI mR) (nI nC) vd gA gB 1 v f g gS) := hD
                  refine lv_aload_n hx hb dX1_reduce_187 rfl (lv_at hl 0 rfl) ?_
                  refine x1_get S hin hK hP rfl 8 (by decide) rfl (by decide +kernel) (v := .int (nI v)) rfl dX1_reduce_188 ?_
                  exact hret (nI v) (f, g, v) 191 ls _ _ dX1_reduce_191 (rfl) hP hD hS (⟨by rw [hv], hinv, by rw [← hv]; exact hg, hv⟩)
                · refine lv_aload_n hx hb dX1_reduce_128 rfl (lv_at hl 0 rfl) ?_
                  refine lv_iload_n hx hb dX1_reduce_129 rfl (lv_at hl 1 rfl) ?_
                  obtain ⟨hok1, hok2, hok3⟩ := redN_ok (P := P) (m := mR) (q0 := q00 nC A0) (by omega) (Nat.zero_le _) (bn_G0 hP2 hAb) (show 1 < P by omega) i
                  refine rdv_i S (c_X1_firstWith l D (M := (redN P mR (q00 nC A0) i).1) i hP2 hPl hm hn c_3 (by omega) hok2 hinv) (cwV 1 hts gX1_reduce_X1_firstWith rfl rfl rfl (by decide +kernel) ⟨Nat.le_of_ble_eq_true rfl, Nat.le_of_ble_eq_true rfl⟩) rfl hK hP (ci := 1) rfl rfl hl.1 (rest := []) rfl (Nat.le_of_ble_eq_true rfl) dX1_reduce_130 ⟨Nat.zero_le _, Nat.zero_le _⟩ hP hS hA (fun r_5 H locs er_5 hP hS => ?_)
                  have hFle := fnd_le (redN P mR (q00 nC A0) i).1 i (mR - v) v
                  generalize hF : fnd (redN P mR (q00 nC A0) i).1 i (mR - v) v = F at er_5 hFle
                  subst er_5
                  refine lv_istore_n (lv' := [(2, .int (nI F)), (0, .ref h), (1, .int (nI i))]) hx hb dX1_reduce_133 rfl hl (by decide) rfl (fun ls hl => ?_)
                  refine lv_iload_n hx hb dX1_reduce_134 rfl (lv_at hl 0 rfl) ?_
                  refine lv_aload_n hx hb dX1_reduce_135 rfl (lv_at hl 1 rfl) ?_
                  refine x1_get S hin hK hP rfl 2 (by decide) rfl (by decide +kernel) (v := .int (nI mR)) rfl dX1_reduce_136 ?_
                  refine nv_icmp_ge (tgt := 176) hx hb dX1_reduce_139 (by decide) (by omega) (by omega) (fun c_6 => ?_) (fun c_6 => ?_)
                  · have e8 : redN P mR (q00 nC A0) (i + 1) = redN P mR (q00 nC A0) i := redS_no (fun z => by have z2 := z.2; rw [← hv, hF] at z2; omega)
                    refine lv_iinc (v := nI (i + 1)) (lv' := [(1, .int (nI (i + 1))), (2, .int (nI F)), (0, .ref h)]) hx hb dX1_reduce_176 hl (k := 2) rfl (nv_inc i 1) (by decide) rfl (fun ls hl => ?_)
                    refine lv_goto (tgt := 109) hx hb dX1_reduce_179 (by decide) ?_
                    exact ihL f g v (i + 1) (by omega) (by rw [e8]; exact hinv) (by rw [e8]; exact hg) (by rw [e8]; exact hv) (by omega) ls _ _ (lv_sub hl [2, 0] rfl) hP hD hS
                  · refine lv_aload_n hx hb dX1_reduce_142 rfl (lv_at hl 1 rfl) ?_
                    refine lv_iload_n hx hb dX1_reduce_143 rfl (lv_at hl 0 rfl) ?_
                    refine lv_aload_n hx hb dX1_reduce_144 rfl (lv_at hl 1 rfl) ?_
                    refine x1_get S hin hK hP rfl 8 (by decide) rfl (by decide +kernel) (v := .int (nI v)) rfl dX1_reduce_145 ?_
                    refine wrv_v S (c_X1_swap l D (M := (redN P mR (q00 nC A0) i).1) F v hm c_6 (by omega) hinv) (cwV 2 hts gX1_reduce_X1_swap rfl rfl rfl (by decide +kernel) ⟨Nat.le_of_ble_eq_true rfl, Nat.le_of_ble_eq_true rfl⟩) rfl hK (ci := 1) rfl rfl hl.1 (rest := []) rfl (Nat.le_of_ble_eq_true rfl) dX1_reduce_148 ⟨Nat.zero_le _, Nat.zero_le _⟩ hP hD hS hA (fun u1 H locs eu1 hP hD hS => ?_)
                    have hP : va_P D vwCl (mdW h b1 b2 b3 b4 b5 cJ cI (lN P) (nI mR) (nI nC) vd gA gB rd v u1 g gS) H := hP
                    have hD : va_D A (mdW h b1 b2 b3 b4 b5 cJ cI (lN P) (nI mR) (nI nC) vd gA gB rd v u1 g gS) := hD
                    refine lv_aload_n hx hb dX1_reduce_151 rfl (lv_at hl 1 rfl) ?_
                    refine lv_iload_n hx hb dX1_reduce_152 rfl (lv_at hl 2 rfl) ?_
                    refine wrv_v S (c_X1_clear l D (M := swp (redN P mR (q00 nC A0) i).1 F v) i hP2 hPl hm hn c_3 (by omega) (bn_swp hok2 F v) eu1) (cwV 1 hts gX1_reduce_X1_clear rfl rfl rfl (by decide +kernel) ⟨Nat.le_of_ble_eq_true rfl, Nat.le_of_ble_eq_true rfl⟩) rfl hK (ci := 1) rfl rfl hl.1 (rest := []) rfl (Nat.le_of_ble_eq_true rfl) dX1_reduce_153 ⟨Nat.zero_le _, Nat.zero_le _⟩ hP hD hS hA (fun u2 H locs eu2 hP hD hS => ?_)
                    have hP : va_P D vwCl (mdW h b1 b2 b3 b4 b5 cJ cI (lN P) (nI mR) (nI nC) vd gA gB rd v u2 g gS) H := hP
                    have hD : va_D A (mdW h b1 b2 b3 b4 b5 cJ cI (lN P) (nI mR) (nI nC) vd gA gB rd v u2 g gS) := hD
                    refine lv_aload_n hx hb dX1_reduce_156 rfl (lv_at hl 1 rfl) ?_
                    refine x1_get S hin hK hP rfl 10 (by decide) rfl (by decide +kernel) (v := .ref b4) rfl dX1_reduce_157 ?_
                    refine lv_aload_n hx hb dX1_reduce_160 rfl (lv_at hl 1 rfl) ?_
                    refine x1_get S hin hK hP rfl 8 (by decide) rfl (by decide +kernel) (v := .int (nI v)) rfl dX1_reduce_161 ?_
                    refine lv_iload_n hx hb dX1_reduce_164 rfl (lv_at hl 2 rfl) ?_
                    refine nv_iast hx hb hK hP hD hS 4 1 rfl rfl (by omega) (by decide) dX1_reduce_165 (fun H locs hP hD hS => ?_)
                    have hP : va_P D vwCl (mdW h b1 b2 b3 b4 b5 cJ cI (lN P) (nI mR) (nI nC) vd gA gB rd v u2 (upd g v (nI i)) gS) H := hP
                    have hD : va_D A (mdW h b1 b2 b3 b4 b5 cJ cI (lN P) (nI mR) (nI nC) vd gA gB rd v u2 (upd g v (nI i)) gS) := hD
                    refine lv_aload_n hx hb dX1_reduce_166 rfl (lv_at hl 1 rfl) ?_
                    refine lv_dup hx hb dX1_reduce_167 rfl ?_
                    refine x1_get S hin hK hP rfl 8 (by decide) rfl (by decide +kernel) (v := .int (nI v)) rfl dX1_reduce_168 ?_
                    refine lv_iconst (v := nI 1) hx hb dX1_reduce_171 (by decide +kernel) ?_
                    refine nv_iadd hx hb dX1_reduce_172 ?_
                    refine x1_put S hin hK hP hD hS rfl 8 (by decide) rfl (by decide +kernel) rfl (ty := .int) (v := .int (nI (v + 1))) rfl rfl rfl (Nat.le_of_ble_eq_true rfl) dX1_reduce_173 (fun H locs hP hD hS => ?_)
                    have hP : va_P D vwCl (mdW h b1 b2 b3 b4 b5 cJ cI (lN P) (nI mR) (nI nC) vd gA gB rd (v + 1) u2 (upd g v (nI i)) gS) H := hP
                    have hD : va_D A (mdW h b1 b2 b3 b4 b5 cJ cI (lN P) (nI mR) (nI nC) vd gA gB rd (v + 1) u2 (upd g v (nI i)) gS) := hD
                    refine lv_iinc (v := nI (i + 1)) (lv' := [(1, .int (nI (i + 1))), (2, .int (nI F)), (0, .ref h)]) hx hb dX1_reduce_176 hl (k := 2) rfl (nv_inc i 1) (by decide) rfl (fun ls hl => ?_)
                    refine lv_goto (tgt := 109) hx hb dX1_reduce_179 (by decide) ?_
                    have e7 : redN P mR (q00 nC A0) i = ((redN P mR (q00 nC A0) i).1, v, (redN P mR (q00 nC A0) i).2.2.1, (redN P mR (q00 nC A0) i).2.2.2) := by rw [hv]
                    have e8 : redN P mR (q00 nC A0) (i + 1) = _ := (congrArg (redS P mR i) e7).trans (redS_yes (by omega) hF c_6)
                    exact ihL u2 (upd g v (nI i)) (v + 1) (i + 1) (by omega) (by rw [e8]; exact eu2) (by rw [e8]; exact gp_step hg) (by rw [e8]) (by omega) ls _ _ (lv_sub hl [2, 0] rfl) hP hD hS
          exact L (nC + 1) f gP 0 0 (by omega) hall (fun a ha => absurd ha (Nat.not_lt_zero a)) rfl (by omega) ls _ _ (lv_sub hl [1, 0] rfl) hP hD hS
        · refine lv_iconst (v := nI 0) hx hb dX1_reduce_24 (by decide +kernel) ?_
          refine lv_istore_n (lv' := [(2, .int (nI 0)), (0, .ref h), (1, .int (nI i))]) hx hb dX1_reduce_25 rfl hl (by decide) rfl (fun ls hl => ?_)
          have L0 : ∀ (nL0 : Nat) (f : Nat → Int64) (j : Nat), (j ≤ 10) → (Rqq i j f (G0 nC A0)) → (11 ≤ j + nL0) → ∀ (ls : Array Slot) (H : Heap) (locs : List Loc), lv_has ls 3 [(0, .ref h), (1, .int (nI i)), (2, .int (nI j))] → va_P D vwCl (mdW h b1 b2 b3 b4 b5 cJ cI (lN P) (nI mR) (nI nC) vd gA gB rd rk f gP gS) H → va_D A (mdW h b1 b2 b3 b4 b5 cJ cI (lN P) (nI mR) (nI nC) vd gA gB rd rk f gP gS) → va_S A s.heap H locs → W p l e ({ frames := 2, cells := 0, slots := 0, locals := 54 }) s mm args below meth c H locs 0 0 Q (F0 mm 26 ls []) := by
            intro nL0
            induction nL0 with
            | zero => intro f j hj hinv1 hfuel; exfalso; omega
            | succ nL0 ihL0 =>
              intro f j hj hinv1 hfuel ls H locs hl hP hD hS
              refine lv_iload_n hx hb dX1_reduce_26 rfl (lv_at hl 2 rfl) ?_
              refine lv_bipush (v := nI 10) hx hb dX1_reduce_27 (by decide +kernel) ?_
              refine nv_icmp_ge (tgt := 96) hx hb dX1_reduce_29 (by decide) (by omega) (by omega) (fun c_7 => ?_) (fun c_7 => ?_)
              · have hinv2 := hinv1.next (show j = 10 by omega)
                refine lv_iinc (v := nI (i + 1)) (lv' := [(1, .int (nI (i + 1))), (0, .ref h), (2, .int (nI j))]) hx hb dX1_reduce_96 hl (k := 1) rfl (nv_inc i 1) (by decide) rfl (fun ls hl => ?_)
                refine lv_goto (tgt := 16) hx hb dX1_reduce_99 (by decide) ?_
                exact ihL1 f (i + 1) (by omega) hinv2 (by omega) ls _ _ (lv_sub hl [1, 0] rfl) hP hD hS
              · refine lv_aload_n hx hb dX1_reduce_32 rfl (lv_at hl 0 rfl) ?_
                refine x1_get S hin hK hP rfl 9 (by decide) rfl (by decide +kernel) (v := .ref b3) rfl dX1_reduce_33 ?_
                refine lv_bipush (v := nI 20) hx hb dX1_reduce_36 (by decide +kernel) ?_
                refine lv_iload_n hx hb dX1_reduce_38 rfl (lv_at hl 1 rfl) ?_
                refine nv_imul hx hb dX1_reduce_39 ?_
                refine lv_iload_n hx hb dX1_reduce_40 rfl (lv_at hl 2 rfl) ?_
                refine nv_iadd hx hb dX1_reduce_41 ?_
                refine lv_iload_n hx hb dX1_reduce_42 rfl (lv_at hl 2 rfl) ?_
                refine lv_aload_n hx hb dX1_reduce_43 rfl (lv_at hl 0 rfl) ?_
                refine x1_get S hin hK hP rfl 3 (by decide) rfl (by decide +kernel) (v := .int (nI nC)) rfl dX1_reduce_44 ?_
                refine nv_icmp_ge (tgt := 64) hx hb dX1_reduce_47 (by decide) (by omega) (by omega) (fun c_8 => ?_) (fun c_8 => ?_)
                · refine lv_lconst (v := lN 0) hx hb dX1_reduce_64 rfl ?_
                  refine nv_last hx hb hK hP hD hS 3 0 rfl rfl (by omega) (by decide) dX1_reduce_65 (fun H locs hP hD hS => ?_)
                  have hP : va_P D vwCl (mdW h b1 b2 b3 b4 b5 cJ cI (lN P) (nI mR) (nI nC) vd gA gB rd rk (vp_updL f ((20 * i) + j) (lN 0)) gP gS) H := hP
                  have hD : va_D A (mdW h b1 b2 b3 b4 b5 cJ cI (lN P) (nI mR) (nI nC) vd gA gB rd rk (vp_updL f ((20 * i) + j) (lN 0)) gP gS) := hD
                  refine lv_aload_n hx hb dX1_reduce_66 rfl (lv_at hl 0 rfl) ?_
                  refine x1_get S hin hK hP rfl 9 (by decide) rfl (by decide +kernel) (v := .ref b3) rfl dX1_reduce_67 ?_
                  refine lv_bipush (v := nI 20) hx hb dX1_reduce_70 (by decide +kernel) ?_
                  refine lv_iload_n hx hb dX1_reduce_72 rfl (lv_at hl 1 rfl) ?_
                  refine nv_imul hx hb dX1_reduce_73 ?_
                  refine lv_bipush (v := nI 10) hx hb dX1_reduce_74 (by decide +kernel) ?_
                  refine nv_iadd hx hb dX1_reduce_76 ?_
                  refine lv_iload_n hx hb dX1_reduce_77 rfl (lv_at hl 2 rfl) ?_
                  refine nv_iadd hx hb dX1_reduce_78 ?_
                  refine lv_iload_n hx hb dX1_reduce_79 rfl (lv_at hl 1 rfl) ?_
                  refine lv_iload_n hx hb dX1_reduce_80 rfl (lv_at hl 2 rfl) ?_
                  refine nv_icmp_ne (tgt := 88) hx hb dX1_reduce_81 (by decide) (by omega) (by omega) (fun c_9 => ?_) (fun c_9 => ?_)
                  · refine lv_lconst (v := lN 0) hx hb dX1_reduce_88 rfl ?_
                    refine nv_last hx hb hK hP hD hS 3 0 rfl rfl (by omega) (by decide) dX1_reduce_89 (fun H locs hP hD hS => ?_)
                    have hP : va_P D vwCl (mdW h b1 b2 b3 b4 b5 cJ cI (lN P) (nI mR) (nI nC) vd gA gB rd rk (vp_updL (vp_updL f ((20 * i) + j) (lN 0)) (((20 * i) + 10) + j) (lN 0)) gP gS) H := hP
                    have hD : va_D A (mdW h b1 b2 b3 b4 b5 cJ cI (lN P) (nI mR) (nI nC) vd gA gB rd rk (vp_updL (vp_updL f ((20 * i) + j) (lN 0)) (((20 * i) + 10) + j) (lN 0)) gP gS) := hD
                    refine lv_iinc (v := nI (j + 1)) (lv' := [(2, .int (nI (j + 1))), (0, .ref h), (1, .int (nI i))]) hx hb dX1_reduce_90 hl (k := 2) rfl (nv_inc j 1) (by decide) rfl (fun ls hl => ?_)
                    refine lv_goto (tgt := 26) hx hb dX1_reduce_93 (by decide) ?_
                    exact ihL0 (vp_updL (vp_updL f ((20 * i) + j) (lN 0)) (((20 * i) + 10) + j) (lN 0)) (j + 1) (by omega) (hinv1.put (by omega) (by omega) (by unfold G0; rw [if_pos (by omega), if_neg (by omega)]) (by rw [G0_T, if_neg (fun z => c_9 z.symm)])) (by omega) ls _ _ (lv_sub hl [1, 2, 0] rfl) hP hD hS
                  · refine lv_lconst (v := lN 1) hx hb dX1_reduce_84 rfl ?_
                    refine lv_goto (tgt := 89) hx hb dX1_reduce_85 (by decide) ?_
                    refine nv_last hx hb hK hP hD hS 3 0 rfl rfl (by omega) (by decide) dX1_reduce_89 (fun H locs hP hD hS => ?_)
                    have hP : va_P D vwCl (mdW h b1 b2 b3 b4 b5 cJ cI (lN P) (nI mR) (nI nC) vd gA gB rd rk (vp_updL (vp_updL f ((20 * i) + j) (lN 0)) (((20 * i) + 10) + j) (lN 1)) gP gS) H := hP
                    have hD : va_D A (mdW h b1 b2 b3 b4 b5 cJ cI (lN P) (nI mR) (nI nC) vd gA gB rd rk (vp_updL (vp_updL f ((20 * i) + j) (lN 0)) (((20 * i) + 10) + j) (lN 1)) gP gS) := hD
                    refine lv_iinc (v := nI (j + 1)) (lv' := [(2, .int (nI (j + 1))), (0, .ref h), (1, .int (nI i))]) hx hb dX1_reduce_90 hl (k := 2) rfl (nv_inc j 1) (by decide) rfl (fun ls hl => ?_)
                    refine lv_goto (tgt := 26) hx hb dX1_reduce_93 (by decide) ?_
                    exact ihL0 (vp_updL (vp_updL f ((20 * i) + j) (lN 0)) (((20 * i) + 10) + j) (lN 1)) (j + 1) (by omega) (hinv1.put (by omega) (by omega) (by unfold G0; rw [if_pos (by omega), if_neg (by omega)]) (by rw [G0_T, if_pos c_9.symm])) (by omega) ls _ _ (lv_sub hl [1, 2, 0] rfl) hP hD hS
                · refine lv_aload_n hx hb dX1_reduce_50 rfl (lv_at hl 0 rfl) ?_
                  refine x1_get S hin hK hP rfl 5 (by decide) rfl (by decide +kernel) (v := .ref b1) rfl dX1_reduce_51 ?_
                  refine lv_bipush (v := nI 10) hx hb dX1_reduce_54 (by decide +kernel) ?_
                  refine lv_iload_n hx hb dX1_reduce_56 rfl (lv_at hl 1 rfl) ?_
                  refine nv_imul hx hb dX1_reduce_57 ?_
                  refine lv_iload_n hx hb dX1_reduce_58 rfl (lv_at hl 2 rfl) ?_
                  refine nv_iadd hx hb dX1_reduce_59 ?_
                  refine nv_lald hx hb hK hP 1 0 rfl rfl (v := lN (A0 i j)) (by omega) (by decide) (hA0 i (by omega) j (by omega)) dX1_reduce_60 ?_
                  refine lv_goto (tgt := 65) hx hb dX1_reduce_61 (by decide) ?_
                  refine nv_last hx hb hK hP hD hS 3 0 rfl rfl (by omega) (by decide) dX1_reduce_65 (fun H locs hP hD hS => ?_)
                  have hP : va_P D vwCl (mdW h b1 b2 b3 b4 b5 cJ cI (lN P) (nI mR) (nI nC) vd gA gB rd rk (vp_updL f ((20 * i) + j) (lN (A0 i j))) gP gS) H := hP
                  have hD : va_D A (mdW h b1 b2 b3 b4 b5 cJ cI (lN P) (nI mR) (nI nC) vd gA gB rd rk (vp_updL f ((20 * i) + j) (lN (A0 i j))) gP gS) := hD
                  refine lv_aload_n hx hb dX1_reduce_66 rfl (lv_at hl 0 rfl) ?_
                  refine x1_get S hin hK hP rfl 9 (by decide) rfl (by decide +kernel) (v := .ref b3) rfl dX1_reduce_67 ?_
                  refine lv_bipush (v := nI 20) hx hb dX1_reduce_70 (by decide +kernel) ?_
                  refine lv_iload_n hx hb dX1_reduce_72 rfl (lv_at hl 1 rfl) ?_
                  refine nv_imul hx hb dX1_reduce_73 ?_
                  refine lv_bipush (v := nI 10) hx hb dX1_reduce_74 (by decide +kernel) ?_
                  refine nv_iadd hx hb dX1_reduce_76 ?_
                  refine lv_iload_n hx hb dX1_reduce_77 rfl (lv_at hl 2 rfl) ?_
                  refine nv_iadd hx hb dX1_reduce_78 ?_
                  refine lv_iload_n hx hb dX1_reduce_79 rfl (lv_at hl 1 rfl) ?_
                  refine lv_iload_n hx hb dX1_reduce_80 rfl (lv_at hl 2 rfl) ?_
                  refine nv_icmp_ne (tgt := 88) hx hb dX1_reduce_81 (by decide) (by omega) (by omega) (fun c_10 => ?_) (fun c_10 => ?_)
                  · refine lv_lconst (v := lN 0) hx hb dX1_reduce_88 rfl ?_
                    refine nv_last hx hb hK hP hD hS 3 0 rfl rfl (by omega) (by decide) dX1_reduce_89 (fun H locs hP hD hS => ?_)
                    have hP : va_P D vwCl (mdW h b1 b2 b3 b4 b5 cJ cI (lN P) (nI mR) (nI nC) vd gA gB rd rk (vp_updL (vp_updL f ((20 * i) + j) (lN (A0 i j))) (((20 * i) + 10) + j) (lN 0)) gP gS) H := hP
                    have hD : va_D A (mdW h b1 b2 b3 b4 b5 cJ cI (lN P) (nI mR) (nI nC) vd gA gB rd rk (vp_updL (vp_updL f ((20 * i) + j) (lN (A0 i j))) (((20 * i) + 10) + j) (lN 0)) gP gS) := hD
                    refine lv_iinc (v := nI (j + 1)) (lv' := [(2, .int (nI (j + 1))), (0, .ref h), (1, .int (nI i))]) hx hb dX1_reduce_90 hl (k := 2) rfl (nv_inc j 1) (by decide) rfl (fun ls hl => ?_)
                    refine lv_goto (tgt := 26) hx hb dX1_reduce_93 (by decide) ?_
                    exact ihL0 (vp_updL (vp_updL f ((20 * i) + j) (lN (A0 i j))) (((20 * i) + 10) + j) (lN 0)) (j + 1) (by omega) (hinv1.put (by omega) (by omega) (G0_A c_8 hn).symm (by rw [G0_T, if_neg (fun z => c_10 z.symm)])) (by omega) ls _ _ (lv_sub hl [1, 2, 0] rfl) hP hD hS
                  · refine lv_lconst (v := lN 1) hx hb dX1_reduce_84 rfl ?_
                    refine lv_goto (tgt := 89) hx hb dX1_reduce_85 (by decide) ?_
                    refine nv_last hx hb hK hP hD hS 3 0 rfl rfl (by omega) (by decide) dX1_reduce_89 (fun H locs hP hD hS => ?_)
                    have hP : va_P D vwCl (mdW h b1 b2 b3 b4 b5 cJ cI (lN P) (nI mR) (nI nC) vd gA gB rd rk (vp_updL (vp_updL f ((20 * i) + j) (lN (A0 i j))) (((20 * i) + 10) + j) (lN 1)) gP gS) H := hP
                    have hD : va_D A (mdW h b1 b2 b3 b4 b5 cJ cI (lN P) (nI mR) (nI nC) vd gA gB rd rk (vp_updL (vp_updL f ((20 * i) + j) (lN (A0 i j))) (((20 * i) + 10) + j) (lN 1)) gP gS) := hD
                    refine lv_iinc (v := nI (j + 1)) (lv' := [(2, .int (nI (j + 1))), (0, .ref h), (1, .int (nI i))]) hx hb dX1_reduce_90 hl (k := 2) rfl (nv_inc j 1) (by decide) rfl (fun ls hl => ?_)
                    refine lv_goto (tgt := 26) hx hb dX1_reduce_93 (by decide) ?_
                    exact ihL0 (vp_updL (vp_updL f ((20 * i) + j) (lN (A0 i j))) (((20 * i) + 10) + j) (lN 1)) (j + 1) (by omega) (hinv1.put (by omega) (by omega) (G0_A c_8 hn).symm (by rw [G0_T, if_pos c_10.symm])) (by omega) ls _ _ (lv_sub hl [1, 2, 0] rfl) hP hD hS
          exact L0 11 f 0 (by omega) hinv (by omega) ls _ _ (lv_sub hl [1, 2, 0] rfl) hP hD hS
    exact L1 (mR + 1) gR 0 (by omega) (fun a b _ q => by omega) (by omega) ls _ _ (lv_sub hl [1, 0] rfl) hP hD hS
  · exact absurd c_1 hvd0
set_option maxHeartbeats 4000000 in
set_option maxRecDepth 100000 in
theorem c_X1_rank (l : Launch) (D : va_G) {h b1 b2 b3 b4 b5 : Nat} {cJ cI : ClassId} {gA gB : Nat → Int64} {rd rk : Nat} {gR : Nat → Int64} {gP : Nat → Int32} {gS : Nat → Int64} {pj : Int64} {mi ni : Int32} {vd P mR nC : Nat} (hrd : rd < 2) : WrI (U := Unit) l yX1_rank wsX1_rank ({ frames := 0, cells := 0, slots := 0, locals := 0 }) [.ref h] D (mdW h b1 b2 b3 b4 b5 cJ cI pj mi ni vd gA gB rd rk gR gP gS) [(cJ, .long), (cI, .int)] (fun r _ => r = sRank rd rk) (fun _ => mdW h b1 b2 b3 b4 b5 cJ cI pj mi ni vd gA gB rd rk gR gP gS) := by
  refine WrI.mk (cc := cX1_rank) (maxL := 1) (rt := .int) (by decide) rfl (Nat.le_of_ble_eq_true rfl) ?_
  intro p e s mm args below meth c Q ls A S hK hP hD hA hS hl hret
  have hx := S.1
  have hb := S.2.1
  have hts := S.2.2.2.2
  have hown := S.2.2.2.1
  have hin : ∀ w ∈ wsX10, w ∈ wsX1_rank := fun w h => List.mem_cons_of_mem _ (List.mem_append_right _ h)
  have hl : lv_has ls 1 [(0, .ref h)] := hl
  refine lv_aload_n hx hb dX1_rank_0 rfl (lv_at hl 0 rfl) ?_
  refine lv_iconst (v := nI 0) hx hb dX1_rank_1 (by decide +kernel) ?_
  refine x1_put S hin hK hP hD hS rfl 0 (by decide) rfl (by decide +kernel) rfl (ty := .int) (v := .int (nI 0)) rfl rfl rfl (Nat.le_of_ble_eq_true rfl) dX1_rank_2 (fun H locs hP hD hS => ?_)
  have hP : va_P D vwCl (mdW h b1 b2 b3 b4 b5 cJ cI pj mi ni vd gA gB rd rk gR gP gS) H := hP
  have hD : va_D A (mdW h b1 b2 b3 b4 b5 cJ cI pj mi ni vd gA gB rd rk gR gP gS) := hD
  refine lv_aload_n hx hb dX1_rank_5 rfl (lv_at hl 0 rfl) ?_
  refine x1_get S hin hK hP rfl 7 (by decide) rfl (by decide +kernel) (v := .int (nI rd)) rfl dX1_rank_6 ?_
  refine nv_if_eq (tgt := 19) hx hb dX1_rank_9 (by decide) (by omega) (fun c_1 => ?_) (fun c_1 => ?_)
  · refine lv_iconst (v := (-1)) hx hb dX1_rank_19 (by decide +kernel) ?_
    exact hret ((-1)) () 20 ls _ _ dX1_rank_20 (rfl) hP hD hS (by simp [sRank, show rd = 0 by omega])
  · refine lv_aload_n hx hb dX1_rank_12 rfl (lv_at hl 0 rfl) ?_
    refine x1_get S hin hK hP rfl 8 (by decide) rfl (by decide +kernel) (v := .int (nI rk)) rfl dX1_rank_13 ?_
    refine lv_goto (tgt := 20) hx hb dX1_rank_16 (by decide) ?_
    exact hret (nI rk) () 20 ls _ _ dX1_rank_20 (rfl) hP hD hS (by simp [sRank, show ¬ rd = 0 by omega])
set_option maxHeartbeats 4000000 in
set_option maxRecDepth 100000 in
theorem c_X1_rrefAt (l : Launch) (D : va_G) {h b1 b2 b3 b4 b5 : Nat} {cJ cI : ClassId} {gA gB : Nat → Int64} {rd rk : Nat} {gR : Nat → Int64} {gP : Nat → Int32} {gS : Nat → Int64} {pj : Int64} {mi ni : Int32} {vd P mR nC : Nat} {M : Mat} {pc : Nat → Nat} (i j : Int32) (hvd : vd < 2) (hV : vd ≠ 0 → MdV pj mi ni P mR nC) (hI : vd = 0 → mR = 0 ∧ nC = 0) (hrd : rd < 2) (hQ : rd ≠ 0 → vd ≠ 0 ∧ MdQ P mR nC rk gR gP M pc) : WrI (U := Unit) l yX1_rrefAt wsX1_rrefAt ({ frames := 1, cells := 0, slots := 0, locals := 22 }) [.ref h, .int i, .int j] D (mdW h b1 b2 b3 b4 b5 cJ cI pj mi ni vd gA gB rd rk gR gP gS) [(cJ, .long), (cI, .int)] (fun r _ => r = sRref rd mR nC M i j) (fun _ => mdW h b1 b2 b3 b4 b5 cJ cI pj mi ni vd gA gB rd rk gR gP gS) := by
  refine WrI.mk (cc := cX1_rrefAt) (maxL := 3) (rt := .int) (by decide) rfl (Nat.le_of_ble_eq_true rfl) ?_
  intro p e s mm args below meth c Q ls A S hK hP hD hA hS hl hret
  have hx := S.1
  have hb := S.2.1
  have hts := S.2.2.2.2
  have hown := S.2.2.2.1
  have hin : ∀ w ∈ wsX10, w ∈ wsX1_rrefAt := fun w h => List.mem_cons_of_mem _ (List.mem_append_right _ h)
  have hl : lv_has ls 3 [(0, .ref h), (1, .int i), (2, .int j)] := hl
  refine lv_aload_n hx hb dX1_rrefAt_0 rfl (lv_at hl 0 rfl) ?_
  refine lv_iconst (v := nI 0) hx hb dX1_rrefAt_1 (by decide +kernel) ?_
  refine x1_put S hin hK hP hD hS rfl 0 (by decide) rfl (by decide +kernel) rfl (ty := .int) (v := .int (nI 0)) rfl rfl rfl (Nat.le_of_ble_eq_true rfl) dX1_rrefAt_2 (fun H locs hP hD hS => ?_)
  have hP : va_P D vwCl (mdW h b1 b2 b3 b4 b5 cJ cI pj mi ni vd gA gB rd rk gR gP gS) H := hP
  have hD : va_D A (mdW h b1 b2 b3 b4 b5 cJ cI pj mi ni vd gA gB rd rk gR gP gS) := hD
  refine lv_aload_n hx hb dX1_rrefAt_5 rfl (lv_at hl 0 rfl) ?_
  refine x1_get S hin hK hP rfl 7 (by decide) rfl (by decide +kernel) (v := .int (nI rd)) rfl dX1_rrefAt_6 ?_
  refine nv_if_eq (tgt := 36) hx hb dX1_rrefAt_9 (by decide) (by omega) (fun c_1 => ?_) (fun c_1 => ?_)
  · refine lv_iconst (v := (-1)) hx hb dX1_rrefAt_36 (by decide +kernel) ?_
    exact hret ((-1)) () 37 ls _ _ dX1_rrefAt_37 (rfl) hP hD hS (by simp [sRref, c_1])
  · have hrd0 : rd ≠ 0 := by omega
    obtain ⟨hV0, hM, hB, hrm, hrn, hg, hpc, hcnt⟩ := hQ hrd0
    refine lv_aload_n hx hb dX1_rrefAt_12 rfl (lv_at hl 0 rfl) ?_
    refine lv_iload_n hx hb dX1_rrefAt_13 rfl (lv_at hl 1 rfl) ?_
    refine lv_iload_n hx hb dX1_rrefAt_14 rfl (lv_at hl 2 rfl) ?_
    refine rdv_i S (c_X1_isPlace l D i j hvd hV hI) (cwV 2 hts gX1_rrefAt_X1_isPlace rfl rfl rfl (by decide +kernel) ⟨Nat.le_of_ble_eq_true rfl, Nat.le_of_ble_eq_true rfl⟩) rfl hK hP (ci := 1) rfl rfl hl.1 (rest := []) rfl (Nat.le_of_ble_eq_true rfl) dX1_rrefAt_15 ⟨Nat.zero_le _, Nat.zero_le _⟩ hP hS hA (fun r_2 H locs er_2 hP hS => ?_)
    rcases er_2 with ⟨k1, k2, hk1, hk2, rfl, rfl, hV1, rfl⟩ | ⟨hno, rfl⟩
    · have hV9 := hV hV1
      obtain ⟨rfl, rfl, rfl, hP2, hPl, hm1, hm, hn1, hn⟩ := hV9
      refine nv_if_eq (tgt := 36) hx hb dX1_rrefAt_18 (by decide) (by decide) (fun q => absurd q (by decide)) (fun _ => ?_)
      refine lv_aload_n hx hb dX1_rrefAt_21 rfl (lv_at hl 0 rfl) ?_
      refine x1_get S hin hK hP rfl 9 (by decide) rfl (by decide +kernel) (v := .ref b3) rfl dX1_rrefAt_22 ?_
      refine lv_bipush (v := nI 20) hx hb dX1_rrefAt_25 (by decide +kernel) ?_
      refine lv_iload_n hx hb dX1_rrefAt_27 rfl (lv_at hl 1 rfl) ?_
      refine nv_imul hx hb dX1_rrefAt_28 ?_
      refine lv_iload_n hx hb dX1_rrefAt_29 rfl (lv_at hl 2 rfl) ?_
      refine nv_iadd hx hb dX1_rrefAt_30 ?_
      refine nv_lald hx hb hK hP 3 0 rfl rfl (v := lN (M k1 k2)) (by omega) (by decide) (hM k1 hk1 k2 (by omega)) dX1_rrefAt_31 ?_
      refine nv_l2i hx hb dX1_rrefAt_32 ?_
      refine lv_goto (tgt := 37) hx hb dX1_rrefAt_33 (by decide) ?_
      exact hret (nI (M k1 k2)) () 37 ls _ _ dX1_rrefAt_37 (rfl) hP hD hS (by simp [sRref, hrd0, inb_t hk1 (show mR < 2 ^ 31 by omega), inb_t hk2 (show nC < 2 ^ 31 by omega), ix_n (show k1 < 2 ^ 31 by omega), ix_n (show k2 < 2 ^ 31 by omega)])
    · refine nv_if_eq (tgt := 36) hx hb dX1_rrefAt_18 (by decide) (by decide) (fun _ => ?_) (fun q => absurd q (by decide))
      refine lv_iconst (v := (-1)) hx hb dX1_rrefAt_36 (by decide +kernel) ?_
      exact hret ((-1)) () 37 ls _ _ dX1_rrefAt_37 (rfl) hP hD hS (by
          unfold sRref
          rw [if_neg (fun z => hno z.2)])
set_option maxHeartbeats 4000000 in
set_option maxRecDepth 100000 in
theorem c_X1_transformAt (l : Launch) (D : va_G) {h b1 b2 b3 b4 b5 : Nat} {cJ cI : ClassId} {gA gB : Nat → Int64} {rd rk : Nat} {gR : Nat → Int64} {gP : Nat → Int32} {gS : Nat → Int64} {pj : Int64} {mi ni : Int32} {vd P mR nC : Nat} {M : Mat} {pc : Nat → Nat} (i j : Int32) (hvd : vd < 2) (hV : vd ≠ 0 → MdV pj mi ni P mR nC) (hI : vd = 0 → mR = 0 ∧ nC = 0) (hrd : rd < 2) (hQ : rd ≠ 0 → vd ≠ 0 ∧ MdQ P mR nC rk gR gP M pc) : WrI (U := Unit) l yX1_transformAt wsX1_transformAt ({ frames := 1, cells := 0, slots := 0, locals := 22 }) [.ref h, .int i, .int j] D (mdW h b1 b2 b3 b4 b5 cJ cI pj mi ni vd gA gB rd rk gR gP gS) [(cJ, .long), (cI, .int)] (fun r _ => r = sTr rd mR M i j) (fun _ => mdW h b1 b2 b3 b4 b5 cJ cI pj mi ni vd gA gB rd rk gR gP gS) := by
  refine WrI.mk (cc := cX1_transformAt) (maxL := 3) (rt := .int) (by decide) rfl (Nat.le_of_ble_eq_true rfl) ?_
  intro p e s mm args below meth c Q ls A S hK hP hD hA hS hl hret
  have hx := S.1
  have hb := S.2.1
  have hts := S.2.2.2.2
  have hown := S.2.2.2.1
  have hin : ∀ w ∈ wsX10, w ∈ wsX1_transformAt := fun w h => List.mem_cons_of_mem _ (List.mem_append_right _ h)
  have hl : lv_has ls 3 [(0, .ref h), (1, .int i), (2, .int j)] := hl
  refine lv_aload_n hx hb dX1_transformAt_0 rfl (lv_at hl 0 rfl) ?_
  refine lv_iconst (v := nI 0) hx hb dX1_transformAt_1 (by decide +kernel) ?_
  refine x1_put S hin hK hP hD hS rfl 0 (by decide) rfl (by decide +kernel) rfl (ty := .int) (v := .int (nI 0)) rfl rfl rfl (Nat.le_of_ble_eq_true rfl) dX1_transformAt_2 (fun H locs hP hD hS => ?_)
  have hP : va_P D vwCl (mdW h b1 b2 b3 b4 b5 cJ cI pj mi ni vd gA gB rd rk gR gP gS) H := hP
  have hD : va_D A (mdW h b1 b2 b3 b4 b5 cJ cI pj mi ni vd gA gB rd rk gR gP gS) := hD
  refine lv_aload_n hx hb dX1_transformAt_5 rfl (lv_at hl 0 rfl) ?_
  refine x1_get S hin hK hP rfl 7 (by decide) rfl (by decide +kernel) (v := .int (nI rd)) rfl dX1_transformAt_6 ?_
  refine nv_if_eq (tgt := 39) hx hb dX1_transformAt_9 (by decide) (by omega) (fun c_1 => ?_) (fun c_1 => ?_)
  · refine lv_iconst (v := (-1)) hx hb dX1_transformAt_39 (by decide +kernel) ?_
    exact hret ((-1)) () 40 ls _ _ dX1_transformAt_40 (rfl) hP hD hS (by simp [sTr, c_1])
  · have hrd0 : rd ≠ 0 := by omega
    obtain ⟨hV0, hM, hB, hrm, hrn, hg, hpc, hcnt⟩ := hQ hrd0
    refine lv_aload_n hx hb dX1_transformAt_12 rfl (lv_at hl 0 rfl) ?_
    refine lv_iload_n hx hb dX1_transformAt_13 rfl (lv_at hl 1 rfl) ?_
    refine lv_iload_n hx hb dX1_transformAt_14 rfl (lv_at hl 2 rfl) ?_
    refine rdv_i S (c_X1_isSquare l D i j hvd hV hI) (cwV 2 hts gX1_transformAt_X1_isSquare rfl rfl rfl (by decide +kernel) ⟨Nat.le_of_ble_eq_true rfl, Nat.le_of_ble_eq_true rfl⟩) rfl hK hP (ci := 1) rfl rfl hl.1 (rest := []) rfl (Nat.le_of_ble_eq_true rfl) dX1_transformAt_15 ⟨Nat.zero_le _, Nat.zero_le _⟩ hP hS hA (fun r_2 H locs er_2 hP hS => ?_)
    rcases er_2 with ⟨k1, k2, hk1, hk2, rfl, rfl, hV1, rfl⟩ | ⟨hno, rfl⟩
    · have hV9 := hV hV1
      obtain ⟨rfl, rfl, rfl, hP2, hPl, hm1, hm, hn1, hn⟩ := hV9
      refine nv_if_eq (tgt := 39) hx hb dX1_transformAt_18 (by decide) (by decide) (fun q => absurd q (by decide)) (fun _ => ?_)
      refine lv_aload_n hx hb dX1_transformAt_21 rfl (lv_at hl 0 rfl) ?_
      refine x1_get S hin hK hP rfl 9 (by decide) rfl (by decide +kernel) (v := .ref b3) rfl dX1_transformAt_22 ?_
      refine lv_bipush (v := nI 20) hx hb dX1_transformAt_25 (by decide +kernel) ?_
      refine lv_iload_n hx hb dX1_transformAt_27 rfl (lv_at hl 1 rfl) ?_
      refine nv_imul hx hb dX1_transformAt_28 ?_
      refine lv_bipush (v := nI 10) hx hb dX1_transformAt_29 (by decide +kernel) ?_
      refine nv_iadd hx hb dX1_transformAt_31 ?_
      refine lv_iload_n hx hb dX1_transformAt_32 rfl (lv_at hl 2 rfl) ?_
      refine nv_iadd hx hb dX1_transformAt_33 ?_
      refine nv_lald hx hb hK hP 3 0 rfl rfl (v := lN (M k1 (10 + k2))) (by omega) (by decide) (by rw [Nat.add_assoc]; exact hM k1 hk1 (10 + k2) (by omega)) dX1_transformAt_34 ?_
      refine nv_l2i hx hb dX1_transformAt_35 ?_
      refine lv_goto (tgt := 40) hx hb dX1_transformAt_36 (by decide) ?_
      exact hret (nI (M k1 (10 + k2))) () 40 ls _ _ dX1_transformAt_40 (rfl) hP hD hS (by simp [sTr, hrd0, inb_t hk1 (show mR < 2 ^ 31 by omega), inb_t hk2 (show mR < 2 ^ 31 by omega), ix_n (show k1 < 2 ^ 31 by omega), ix_n (show k2 < 2 ^ 31 by omega)])
    · refine nv_if_eq (tgt := 39) hx hb dX1_transformAt_18 (by decide) (by decide) (fun _ => ?_) (fun q => absurd q (by decide))
      refine lv_iconst (v := (-1)) hx hb dX1_transformAt_39 (by decide +kernel) ?_
      exact hret ((-1)) () 40 ls _ _ dX1_transformAt_40 (rfl) hP hD hS (by
          unfold sTr
          rw [if_neg (fun z => hno z.2)])
set_option maxHeartbeats 4000000 in
set_option maxRecDepth 100000 in
theorem c_X1_inverseAt (l : Launch) (D : va_G) {h b1 b2 b3 b4 b5 : Nat} {cJ cI : ClassId} {gA gB : Nat → Int64} {rd rk : Nat} {gR : Nat → Int64} {gP : Nat → Int32} {gS : Nat → Int64} {pj : Int64} {mi ni : Int32} {vd P mR nC : Nat} {M : Mat} {pc : Nat → Nat} (i j : Int32) (hvd : vd < 2) (hV : vd ≠ 0 → MdV pj mi ni P mR nC) (hI : vd = 0 → mR = 0 ∧ nC = 0) (hrd : rd < 2) (hQ : rd ≠ 0 → vd ≠ 0 ∧ MdQ P mR nC rk gR gP M pc) : WrI (U := Unit) l yX1_inverseAt wsX1_inverseAt ({ frames := 1, cells := 0, slots := 0, locals := 22 }) [.ref h, .int i, .int j] D (mdW h b1 b2 b3 b4 b5 cJ cI pj mi ni vd gA gB rd rk gR gP gS) [(cJ, .long), (cI, .int)] (fun r _ => r = sInv rd mR nC rk M i j) (fun _ => mdW h b1 b2 b3 b4 b5 cJ cI pj mi ni vd gA gB rd rk gR gP gS) := by
  refine WrI.mk (cc := cX1_inverseAt) (maxL := 3) (rt := .int) (by decide) rfl (Nat.le_of_ble_eq_true rfl) ?_
  intro p e s mm args below meth c Q ls A S hK hP hD hA hS hl hret
  have hx := S.1
  have hb := S.2.1
  have hts := S.2.2.2.2
  have hown := S.2.2.2.1
  have hin : ∀ w ∈ wsX10, w ∈ wsX1_inverseAt := fun w h => List.mem_cons_of_mem _ (List.mem_append_right _ h)
  have hl : lv_has ls 3 [(0, .ref h), (1, .int i), (2, .int j)] := hl
  refine lv_aload_n hx hb dX1_inverseAt_0 rfl (lv_at hl 0 rfl) ?_
  refine lv_iconst (v := nI 0) hx hb dX1_inverseAt_1 (by decide +kernel) ?_
  refine x1_put S hin hK hP hD hS rfl 0 (by decide) rfl (by decide +kernel) rfl (ty := .int) (v := .int (nI 0)) rfl rfl rfl (Nat.le_of_ble_eq_true rfl) dX1_inverseAt_2 (fun H locs hP hD hS => ?_)
  have hP : va_P D vwCl (mdW h b1 b2 b3 b4 b5 cJ cI pj mi ni vd gA gB rd rk gR gP gS) H := hP
  have hD : va_D A (mdW h b1 b2 b3 b4 b5 cJ cI pj mi ni vd gA gB rd rk gR gP gS) := hD
  refine lv_aload_n hx hb dX1_inverseAt_5 rfl (lv_at hl 0 rfl) ?_
  refine x1_get S hin hK hP rfl 7 (by decide) rfl (by decide +kernel) (v := .int (nI rd)) rfl dX1_inverseAt_6 ?_
  refine nv_if_eq (tgt := 61) hx hb dX1_inverseAt_9 (by decide) (by omega) (fun c_1 => ?_) (fun c_1 => ?_)
  · refine lv_iconst (v := (-1)) hx hb dX1_inverseAt_61 (by decide +kernel) ?_
    exact hret ((-1)) () 62 ls _ _ dX1_inverseAt_62 (rfl) hP hD hS (by simp [sInv, c_1])
  · have hrd0 : rd ≠ 0 := by omega
    obtain ⟨hV0, hM, hB, hrm, hrn, hg, hpc, hcnt⟩ := hQ hrd0
    have hV9 := hV hV0
    obtain ⟨rfl, rfl, rfl, hP2, hPl, hm1, hm, hn1, hn⟩ := hV9
    refine lv_aload_n hx hb dX1_inverseAt_12 rfl (lv_at hl 0 rfl) ?_
    refine x1_get S hin hK hP rfl 2 (by decide) rfl (by decide +kernel) (v := .int (nI mR)) rfl dX1_inverseAt_13 ?_
    refine lv_aload_n hx hb dX1_inverseAt_16 rfl (lv_at hl 0 rfl) ?_
    refine x1_get S hin hK hP rfl 3 (by decide) rfl (by decide +kernel) (v := .int (nI nC)) rfl dX1_inverseAt_17 ?_
    refine nv_icmp_ne (tgt := 61) hx hb dX1_inverseAt_20 (by decide) (by omega) (by omega) (fun c_2 => ?_) (fun c_2 => ?_)
    · refine lv_iconst (v := (-1)) hx hb dX1_inverseAt_61 (by decide +kernel) ?_
      exact hret ((-1)) () 62 ls _ _ dX1_inverseAt_62 (rfl) hP hD hS (by simp [sInv, c_2])
    · refine lv_aload_n hx hb dX1_inverseAt_23 rfl (lv_at hl 0 rfl) ?_
      refine x1_get S hin hK hP rfl 8 (by decide) rfl (by decide +kernel) (v := .int (nI rk)) rfl dX1_inverseAt_24 ?_
      refine lv_aload_n hx hb dX1_inverseAt_27 rfl (lv_at hl 0 rfl) ?_
      refine x1_get S hin hK hP rfl 3 (by decide) rfl (by decide +kernel) (v := .int (nI nC)) rfl dX1_inverseAt_28 ?_
      refine nv_icmp_ne (tgt := 61) hx hb dX1_inverseAt_31 (by decide) (by omega) (by omega) (fun c_3 => ?_) (fun c_3 => ?_)
      · refine lv_iconst (v := (-1)) hx hb dX1_inverseAt_61 (by decide +kernel) ?_
        exact hret ((-1)) () 62 ls _ _ dX1_inverseAt_62 (rfl) hP hD hS (by simp [sInv, c_3])
      · refine lv_aload_n hx hb dX1_inverseAt_34 rfl (lv_at hl 0 rfl) ?_
        refine lv_iload_n hx hb dX1_inverseAt_35 rfl (lv_at hl 1 rfl) ?_
        refine lv_iload_n hx hb dX1_inverseAt_36 rfl (lv_at hl 2 rfl) ?_
        refine rdv_i S (c_X1_isSquare l D i j hvd hV hI) (cwV 2 hts gX1_inverseAt_X1_isSquare rfl rfl rfl (by decide +kernel) ⟨Nat.le_of_ble_eq_true rfl, Nat.le_of_ble_eq_true rfl⟩) rfl hK hP (ci := 1) rfl rfl hl.1 (rest := []) rfl (Nat.le_of_ble_eq_true rfl) dX1_inverseAt_37 ⟨Nat.zero_le _, Nat.zero_le _⟩ hP hS hA (fun r_4 H locs er_4 hP hS => ?_)
        rcases er_4 with ⟨k1, k2, hk1, hk2, rfl, rfl, hV1, rfl⟩ | ⟨hno, rfl⟩
        · refine nv_if_eq (tgt := 61) hx hb dX1_inverseAt_40 (by decide) (by decide) (fun q => absurd q (by decide)) (fun _ => ?_)
          refine lv_aload_n hx hb dX1_inverseAt_43 rfl (lv_at hl 0 rfl) ?_
          refine x1_get S hin hK hP rfl 9 (by decide) rfl (by decide +kernel) (v := .ref b3) rfl dX1_inverseAt_44 ?_
          refine lv_bipush (v := nI 20) hx hb dX1_inverseAt_47 (by decide +kernel) ?_
          refine lv_iload_n hx hb dX1_inverseAt_49 rfl (lv_at hl 1 rfl) ?_
          refine nv_imul hx hb dX1_inverseAt_50 ?_
          refine lv_bipush (v := nI 10) hx hb dX1_inverseAt_51 (by decide +kernel) ?_
          refine nv_iadd hx hb dX1_inverseAt_53 ?_
          refine lv_iload_n hx hb dX1_inverseAt_54 rfl (lv_at hl 2 rfl) ?_
          refine nv_iadd hx hb dX1_inverseAt_55 ?_
          refine nv_lald hx hb hK hP 3 0 rfl rfl (v := lN (M k1 (10 + k2))) (by omega) (by decide) (by rw [Nat.add_assoc]; exact hM k1 hk1 (10 + k2) (by omega)) dX1_inverseAt_56 ?_
          refine nv_l2i hx hb dX1_inverseAt_57 ?_
          refine lv_goto (tgt := 62) hx hb dX1_inverseAt_58 (by decide) ?_
          exact hret (nI (M k1 (10 + k2))) () 62 ls _ _ dX1_inverseAt_62 (rfl) hP hD hS (by
              unfold sInv
              rw [if_pos ⟨⟨hrd0, c_2, c_3⟩, inb_t hk1 (by omega), inb_t hk2 (by omega)⟩, ix_n (show k1 < 2 ^ 31 by omega), ix_n (show k2 < 2 ^ 31 by omega)])
        · refine nv_if_eq (tgt := 61) hx hb dX1_inverseAt_40 (by decide) (by decide) (fun _ => ?_) (fun q => absurd q (by decide))
          refine lv_iconst (v := (-1)) hx hb dX1_inverseAt_61 (by decide +kernel) ?_
          exact hret ((-1)) () 62 ls _ _ dX1_inverseAt_62 (rfl) hP hD hS (by
              unfold sInv
              rw [if_neg (fun z => hno z.2)])
set_option maxHeartbeats 4000000 in
set_option maxRecDepth 100000 in
theorem c_X1_changed (l : Launch) (D : va_G) {h b1 b2 b3 b4 b5 : Nat} {cJ cI : ClassId} {gA gB : Nat → Int64} {rd rk : Nat} {gR : Nat → Int64} {gP : Nat → Int32} {gS : Nat → Int64} {vd P mR nC : Nat} {M : Mat} {b : Nat → Nat} (ro : Nat) (hP2 : 2 ≤ P) (hPl : P < 2 ^ 31) (hm : mR ≤ 10) (hn : nC ≤ 10) (h1 : ro < mR) (hB : bnd P M) (hM : Rq mR gR M) (hbb : ∀ i, b i < P) (hb1 : ∀ i, i < mR → gB i = lN (b i)) : RdL l yX1_changed wsX1_changed ({ frames := 0, cells := 0, slots := 0, locals := 0 }) [.ref h, .int (nI ro)] D (mdW h b1 b2 b3 b4 b5 cJ cI (lN P) (nI mR) (nI nC) vd gA gB rd rk gR gP gS) [(cJ, .long), (cI, .int)] (fun r => r = lN (chg P (fun k => M ro (10 + k)) b mR)) := by
  refine RdL.mk (cc := cX1_changed) (maxL := 5) (by decide) rfl (Nat.le_of_ble_eq_true rfl) ?_
  intro p e s mm args below meth c Q ls A S hK hP hA hS hl hret
  have hx := S.1
  have hb := S.2.1
  have hts := S.2.2.2.2
  have hown := S.2.2.2.1
  have hin : ∀ w ∈ wsX10, w ∈ wsX1_changed := fun w h => List.mem_cons_of_mem _ (List.mem_append_right _ h)
  have hl : lv_has ls 5 [(0, .ref h), (1, .int (nI ro))] := hl
  refine lv_lconst (v := lN 0) hx hb dX1_changed_0 rfl ?_
  refine lv_lstore_n (lv' := [(2, .long (lN 0)), (0, .ref h), (1, .int (nI ro))]) hx hb dX1_changed_1 rfl hl (by decide) rfl (fun ls hl => ?_)
  refine lv_iconst (v := nI 0) hx hb dX1_changed_2 (by decide +kernel) ?_
  refine lv_istore (lv' := [(4, .int (nI 0)), (2, .long (lN 0)), (0, .ref h), (1, .int (nI ro))]) hx hb dX1_changed_3 hl (by decide) rfl (fun ls hl => ?_)
  have L : ∀ (nL : Nat) (i : Nat), (i ≤ mR) → (mR + 1 ≤ i + nL) → ∀ (ls : Array Slot) (H : Heap) (locs : List Loc), lv_has ls 5 [(0, .ref h), (1, .int (nI ro)), (2, .long (lN (chg P (fun k => M ro (10 + k)) b i))), (4, .int (nI i))] → va_P D vwCl (mdW h b1 b2 b3 b4 b5 cJ cI (lN P) (nI mR) (nI nC) vd gA gB rd rk gR gP gS) H → va_S A s.heap H locs → W p l e ({ frames := 0, cells := 0, slots := 0, locals := 0 }) s mm args below meth c H locs 0 0 Q (F0 mm 5 ls []) := by
    intro nL
    induction nL with
    | zero => intro i hi hfuel; exfalso; omega
    | succ nL ihL =>
      intro i hi hfuel ls H locs hl hP hS
      refine lv_iload hx hb dX1_changed_5 (lv_at hl 3 rfl) ?_
      refine lv_aload_n hx hb dX1_changed_7 rfl (lv_at hl 0 rfl) ?_
      refine x1_get S hin hK hP rfl 2 (by decide) rfl (by decide +kernel) (v := .int (nI mR)) rfl dX1_changed_8 ?_
      refine nv_icmp_ge (tgt := 51) hx hb dX1_changed_11 (by decide) (by omega) (by omega) (fun c_1 => ?_) (fun c_1 => ?_)
      · refine lv_lload_n hx hb dX1_changed_51 rfl (lv_at hl 2 rfl) ?_
        exact hret (lN (chg P (fun k => M ro (10 + k)) b i)) 52 ls _ _ dX1_changed_52 hS (by rw [show i = mR by omega])
      · have hb2 := hB ro (10 + i)
        have hb3 := hbb i
        have hb4 := chg_lt (show 0 < P by omega) (fun k => M ro (10 + k)) b i
        refine lv_lload_n hx hb dX1_changed_14 rfl (lv_at hl 2 rfl) ?_
        refine lv_aload_n hx hb dX1_changed_15 rfl (lv_at hl 0 rfl) ?_
        refine x1_get S hin hK hP rfl 9 (by decide) rfl (by decide +kernel) (v := .ref b3) rfl dX1_changed_16 ?_
        refine lv_bipush (v := nI 20) hx hb dX1_changed_19 (by decide +kernel) ?_
        refine lv_iload_n hx hb dX1_changed_21 rfl (lv_at hl 1 rfl) ?_
        refine nv_imul hx hb dX1_changed_22 ?_
        refine lv_bipush (v := nI 10) hx hb dX1_changed_23 (by decide +kernel) ?_
        refine nv_iadd hx hb dX1_changed_25 ?_
        refine lv_iload hx hb dX1_changed_26 (lv_at hl 3 rfl) ?_
        refine nv_iadd hx hb dX1_changed_28 ?_
        refine nv_lald hx hb hK hP 3 0 rfl rfl (v := lN (M ro (10 + i))) (by omega) (by decide) (by rw [Nat.add_assoc]; exact hM ro h1 (10 + i) (by omega)) dX1_changed_29 ?_
        refine lv_aload_n hx hb dX1_changed_30 rfl (lv_at hl 0 rfl) ?_
        refine x1_get S hin hK hP rfl 6 (by decide) rfl (by decide +kernel) (v := .ref b2) rfl dX1_changed_31 ?_
        refine lv_iload hx hb dX1_changed_34 (lv_at hl 3 rfl) ?_
        refine nv_lald hx hb hK hP 2 0 rfl rfl (v := lN (b i)) (by omega) (by decide) (hb1 i (by omega)) dX1_changed_36 ?_
        refine nv_lmul hx hb dX1_changed_37 ?_
        refine nv_ladd hx hb dX1_changed_38 ?_
        refine lv_aload_n hx hb dX1_changed_39 rfl (lv_at hl 0 rfl) ?_
        refine x1_get S hin hK hP rfl 1 (by decide) rfl (by decide +kernel) (v := .long (lN P)) rfl dX1_changed_40 ?_
        refine nv_lrem hx hb (mul_b2 (by omega) (by omega) (by omega)) (by omega) (by omega) dX1_changed_43 ?_
        refine lv_lstore_n (lv' := [(2, .long (lN (((chg P (fun k => M ro (10 + k)) b i) + ((M ro (10 + i)) * (b i))) % P))), (0, .ref h), (1, .int (nI ro)), (4, .int (nI i))]) hx hb dX1_changed_44 rfl hl (by decide) rfl (fun ls hl => ?_)
        refine lv_iinc (v := nI (i + 1)) (lv' := [(4, .int (nI (i + 1))), (2, .long (lN (((chg P (fun k => M ro (10 + k)) b i) + ((M ro (10 + i)) * (b i))) % P))), (0, .ref h), (1, .int (nI ro))]) hx hb dX1_changed_45 hl (k := 3) rfl (nv_inc i 1) (by decide) rfl (fun ls hl => ?_)
        refine lv_goto (tgt := 5) hx hb dX1_changed_48 (by decide) ?_
        exact ihL (i + 1) (by omega) (by omega) ls _ _ (lv_sub hl [2, 3, 1, 0] rfl) hP hS
  exact L (mR + 1) 0 (by omega) (by omega) ls _ _ (lv_sub hl [2, 3, 1, 0] rfl) hP hS
set_option maxHeartbeats 4000000 in
set_option maxRecDepth 100000 in
theorem c_X1_isSolvable (l : Launch) (D : va_G) {h b1 b2 b3 b4 b5 : Nat} {cJ cI : ClassId} {gA gB : Nat → Int64} {rd rk : Nat} {gR : Nat → Int64} {gP : Nat → Int32} {gS : Nat → Int64} {pj : Int64} {mi ni : Int32} {vd P mR nC : Nat} {M : Mat} {pc : Nat → Nat} {b : Nat → Nat} (hvd : vd < 2) (hV : vd ≠ 0 → MdV pj mi ni P mR nC) (hI : vd = 0 → mR = 0 ∧ nC = 0) (hrd : rd < 2) (hQ : rd ≠ 0 → vd ≠ 0 ∧ MdQ P mR nC rk gR gP M pc) (hbb : vd ≠ 0 → ∀ i, b i < P) (hb1 : ∀ i, i < mR → gB i = lN (b i)) : RdI l yX1_isSolvable wsX1_isSolvable ({ frames := 1, cells := 0, slots := 0, locals := 24 }) [.ref h] D (mdW h b1 b2 b3 b4 b5 cJ cI pj mi ni vd gA gB rd rk gR gP gS) [(cJ, .long), (cI, .int)] (fun r => r = sSlv rd P mR M b rk) := by
  refine RdI.mk (cc := cX1_isSolvable) (maxL := 3) (rt := .boolean) (by decide) rfl (Nat.le_of_ble_eq_true rfl) ?_
  intro p e s mm args below meth c Q ls A S hK hP hA hS hl hret
  have hx := S.1
  have hb := S.2.1
  have hts := S.2.2.2.2
  have hown := S.2.2.2.1
  have hin : ∀ w ∈ wsX10, w ∈ wsX1_isSolvable := fun w h => List.mem_cons_of_mem _ (List.mem_append_right _ h)
  have hl : lv_has ls 3 [(0, .ref h)] := hl
  by_cases hr0 : rd = 0
  · subst hr0
    refine lv_aload_n hx hb dX1_isSolvable_0 rfl (lv_at hl 0 rfl) ?_
    refine x1_get S hin hK hP rfl 7 (by decide) rfl (by decide +kernel) (v := .int (nI 0)) rfl dX1_isSolvable_1 ?_
    refine lv_istore_n (lv' := [(1, .int (nI 0)), (0, .ref h)]) hx hb dX1_isSolvable_4 rfl hl (by decide) rfl (fun ls hl => ?_)
    refine lv_aload_n hx hb dX1_isSolvable_5 rfl (lv_at hl 1 rfl) ?_
    refine x1_get S hin hK hP rfl 8 (by decide) rfl (by decide +kernel) (v := .int (nI rk)) rfl dX1_isSolvable_6 ?_
    refine lv_istore_n (lv' := [(2, .int (nI rk)), (1, .int (nI 0)), (0, .ref h)]) hx hb dX1_isSolvable_9 rfl hl (by decide) rfl (fun ls hl => ?_)
    refine lv_iload_n hx hb dX1_isSolvable_10 rfl (lv_at hl 0 rfl) ?_
    refine lv_aload_n hx hb dX1_isSolvable_11 rfl (lv_at hl 2 rfl) ?_
    refine x1_get S hin hK hP rfl 2 (by decide) rfl (by decide +kernel) (v := .int mi) rfl dX1_isSolvable_12 ?_
    refine lv_icmp_ge (tgt := 44) hx hb dX1_isSolvable_15 (by decide) (fun c_1 => ?_) (fun c_1 => ?_)
    · refine lv_iload_n hx hb dX1_isSolvable_44 rfl (lv_at hl 1 rfl) ?_
      exact hret (nI 0) 45 ls _ _ dX1_isSolvable_45 (by decide +kernel) hS (by simp [sSlv])
    · refine lv_iload_n hx hb dX1_isSolvable_18 rfl (lv_at hl 1 rfl) ?_
      refine nv_if_eq (tgt := 44) hx hb dX1_isSolvable_19 (by decide) (by decide) (fun _ => ?_) (fun q => absurd q (by decide))
      refine lv_iload_n hx hb dX1_isSolvable_44 rfl (lv_at hl 1 rfl) ?_
      exact hret (nI 0) 45 ls _ _ dX1_isSolvable_45 (by decide +kernel) hS (by simp [sSlv])
  · have hrd0 : rd ≠ 0 := by omega
    obtain ⟨hV0, hM, hB, hrm, hrn, hg, hpc, hcnt⟩ := hQ hrd0
    have hV9 := hV hV0
    obtain ⟨rfl, rfl, rfl, hP2, hPl, hm1, hm, hn1, hn⟩ := hV9
    have hr1 : rd = 1 := by omega
    subst hr1
    refine lv_aload_n hx hb dX1_isSolvable_0 rfl (lv_at hl 0 rfl) ?_
    refine x1_get S hin hK hP rfl 7 (by decide) rfl (by decide +kernel) (v := .int (nI 1)) rfl dX1_isSolvable_1 ?_
    refine lv_istore_n (lv' := [(1, .int (nI 1)), (0, .ref h)]) hx hb dX1_isSolvable_4 rfl hl (by decide) rfl (fun ls hl => ?_)
    refine lv_aload_n hx hb dX1_isSolvable_5 rfl (lv_at hl 1 rfl) ?_
    refine x1_get S hin hK hP rfl 8 (by decide) rfl (by decide +kernel) (v := .int (nI rk)) rfl dX1_isSolvable_6 ?_
    refine lv_istore_n (lv' := [(2, .int (nI rk)), (1, .int (nI 1)), (0, .ref h)]) hx hb dX1_isSolvable_9 rfl hl (by decide) rfl (fun ls hl => ?_)
    have L : ∀ (nL : Nat) (i : Nat), (i ≤ mR) → (allz (fun row => chg P (fun k => M row (10 + k)) b mR) (mR - i) i = slv P mR M b rk) → (mR + 1 ≤ i + nL) → ∀ (ls : Array Slot) (H : Heap) (locs : List Loc), lv_has ls 3 [(0, .ref h), (1, .int (nI 1)), (2, .int (nI i))] → va_P D vwCl (mdW h b1 b2 b3 b4 b5 cJ cI (lN P) (nI mR) (nI nC) vd gA gB 1 rk gR gP gS) H → va_S A s.heap H locs → W p l e ({ frames := 1, cells := 0, slots := 0, locals := 24 }) s mm args below meth c H locs 0 0 Q (F0 mm 10 ls []) := by
      intro nL
      induction nL with
      | zero => intro i hi hinv hfuel; exfalso; omega
      | succ nL ihL =>
        intro i hi hinv hfuel ls H locs hl hP hS
        refine lv_iload_n hx hb dX1_isSolvable_10 rfl (lv_at hl 2 rfl) ?_
        refine lv_aload_n hx hb dX1_isSolvable_11 rfl (lv_at hl 0 rfl) ?_
        refine x1_get S hin hK hP rfl 2 (by decide) rfl (by decide +kernel) (v := .int (nI mR)) rfl dX1_isSolvable_12 ?_
        refine nv_icmp_ge (tgt := 44) hx hb dX1_isSolvable_15 (by decide) (by omega) (by omega) (fun c_3 => ?_) (fun c_3 => ?_)
        · refine lv_iload_n hx hb dX1_isSolvable_44 rfl (lv_at hl 1 rfl) ?_
          exact hret (nI 1) 45 ls _ _ dX1_isSolvable_45 (by decide +kernel) hS (by
              have e1 : slv P mR M b rk = true := by rw [← hinv]; exact allz_e c_3
              simp [sSlv, e1])
        · refine lv_iload_n hx hb dX1_isSolvable_18 rfl (lv_at hl 1 rfl) ?_
          refine nv_if_eq (tgt := 44) hx hb dX1_isSolvable_19 (by decide) (by decide) (fun q => absurd q (by decide)) (fun _ => ?_)
          refine lv_aload_n hx hb dX1_isSolvable_22 rfl (lv_at hl 0 rfl) ?_
          refine lv_iload_n hx hb dX1_isSolvable_23 rfl (lv_at hl 2 rfl) ?_
          refine rdv_l S (c_X1_changed l D (M := M) (b := b) i hP2 hPl hm hn (by omega) hB hM (hbb hV0) hb1) (cwV 1 hts gX1_isSolvable_X1_changed rfl rfl rfl (by decide +kernel) ⟨Nat.le_of_ble_eq_true rfl, Nat.le_of_ble_eq_true rfl⟩) rfl hK hP (ci := 1) rfl rfl hl.1 (rest := []) rfl (Nat.le_of_ble_eq_true rfl) dX1_isSolvable_24 ⟨Nat.zero_le _, Nat.zero_le _⟩ hP hS hA (fun r_5 H locs er_5 hP hS => ?_)
          subst er_5
          refine lv_lconst (v := lN 0) hx hb dX1_isSolvable_27 rfl ?_
          refine nv_lcmp_ne (tgt := 36) hx hb dX1_isSolvable_28 dX1_isSolvable_29 (by decide) (Nat.lt_trans (chg_lt (show 0 < P by omega) _ _ _) (by omega)) (by decide) (fun c_6 => ?_) (fun c_6 => ?_)
          · refine lv_iconst (v := nI 0) hx hb dX1_isSolvable_36 (by decide +kernel) ?_
            refine lv_istore_n (lv' := [(1, .int (nI 0)), (0, .ref h), (2, .int (nI i))]) hx hb dX1_isSolvable_37 rfl hl (by decide) rfl (fun ls hl => ?_)
            refine lv_iinc (v := nI (i + 1)) (lv' := [(2, .int (nI (i + 1))), (1, .int (nI 0)), (0, .ref h)]) hx hb dX1_isSolvable_38 hl (k := 2) rfl (nv_inc i 1) (by decide) rfl (fun ls hl => ?_)
            refine lv_goto (tgt := 10) hx hb dX1_isSolvable_41 (by decide) ?_
            refine lv_iload_n hx hb dX1_isSolvable_10 rfl (lv_at hl 0 rfl) ?_
            refine lv_aload_n hx hb dX1_isSolvable_11 rfl (lv_at hl 2 rfl) ?_
            refine x1_get S hin hK hP rfl 2 (by decide) rfl (by decide +kernel) (v := .int (nI mR)) rfl dX1_isSolvable_12 ?_
            refine nv_icmp_ge (tgt := 44) hx hb dX1_isSolvable_15 (by decide) (by omega) (by omega) (fun c_7 => ?_) (fun c_7 => ?_)
            · refine lv_iload_n hx hb dX1_isSolvable_44 rfl (lv_at hl 1 rfl) ?_
              exact hret (nI 0) 45 ls _ _ dX1_isSolvable_45 (by decide +kernel) hS (by
                  have e1 : slv P mR M b rk = false := by rw [← hinv]; exact allz_n c_3 (by show chg P (fun k => M i (10 + k)) b mR ≠ 0; omega)
                  simp [sSlv, e1])
            · refine lv_iload_n hx hb dX1_isSolvable_18 rfl (lv_at hl 1 rfl) ?_
              refine nv_if_eq (tgt := 44) hx hb dX1_isSolvable_19 (by decide) (by decide) (fun _ => ?_) (fun q => absurd q (by decide))
              refine lv_iload_n hx hb dX1_isSolvable_44 rfl (lv_at hl 1 rfl) ?_
              exact hret (nI 0) 45 ls _ _ dX1_isSolvable_45 (by decide +kernel) hS (by
                  have e1 : slv P mR M b rk = false := by rw [← hinv]; exact allz_n c_3 (by show chg P (fun k => M i (10 + k)) b mR ≠ 0; omega)
                  simp [sSlv, e1])
          · refine lv_iconst (v := nI 1) hx hb dX1_isSolvable_32 (by decide +kernel) ?_
            refine lv_goto (tgt := 37) hx hb dX1_isSolvable_33 (by decide) ?_
            refine lv_istore_n (lv' := [(1, .int (nI 1)), (0, .ref h), (2, .int (nI i))]) hx hb dX1_isSolvable_37 rfl hl (by decide) rfl (fun ls hl => ?_)
            refine lv_iinc (v := nI (i + 1)) (lv' := [(2, .int (nI (i + 1))), (1, .int (nI 1)), (0, .ref h)]) hx hb dX1_isSolvable_38 hl (k := 2) rfl (nv_inc i 1) (by decide) rfl (fun ls hl => ?_)
            refine lv_goto (tgt := 10) hx hb dX1_isSolvable_41 (by decide) ?_
            exact ihL (i + 1) (by omega) (by rw [← hinv, allz_z c_3 c_6]) (by omega) ls _ _ (lv_sub hl [2, 1, 0] rfl) hP hS
    exact L (mR + 1) rk (by omega) rfl (by omega) ls _ _ (lv_sub hl [2, 1, 0] rfl) hP hS
set_option maxHeartbeats 4000000 in
set_option maxRecDepth 100000 in
theorem c_X1_solvable (l : Launch) (D : va_G) {h b1 b2 b3 b4 b5 : Nat} {cJ cI : ClassId} {gA gB : Nat → Int64} {rd rk : Nat} {gR : Nat → Int64} {gP : Nat → Int32} {gS : Nat → Int64} {pj : Int64} {mi ni : Int32} {vd P mR nC : Nat} {M : Mat} {pc : Nat → Nat} {b : Nat → Nat} (hvd : vd < 2) (hV : vd ≠ 0 → MdV pj mi ni P mR nC) (hI : vd = 0 → mR = 0 ∧ nC = 0) (hrd : rd < 2) (hQ : rd ≠ 0 → vd ≠ 0 ∧ MdQ P mR nC rk gR gP M pc) (hbb : vd ≠ 0 → ∀ i, b i < P) (hb1 : ∀ i, i < mR → gB i = lN (b i)) : WrI (U := Unit) l yX1_solvable wsX1_solvable ({ frames := 2, cells := 0, slots := 0, locals := 46 }) [.ref h] D (mdW h b1 b2 b3 b4 b5 cJ cI pj mi ni vd gA gB rd rk gR gP gS) [(cJ, .long), (cI, .int)] (fun r _ => r = sSlv rd P mR M b rk) (fun _ => mdW h b1 b2 b3 b4 b5 cJ cI pj mi ni vd gA gB rd rk gR gP gS) := by
  refine WrI.mk (cc := cX1_solvable) (maxL := 1) (rt := .boolean) (by decide) rfl (Nat.le_of_ble_eq_true rfl) ?_
  intro p e s mm args below meth c Q ls A S hK hP hD hA hS hl hret
  have hx := S.1
  have hb := S.2.1
  have hts := S.2.2.2.2
  have hown := S.2.2.2.1
  have hin : ∀ w ∈ wsX10, w ∈ wsX1_solvable := fun w h => List.mem_cons_of_mem _ (List.mem_append_right _ h)
  have hl : lv_has ls 1 [(0, .ref h)] := hl
  refine lv_aload_n hx hb dX1_solvable_0 rfl (lv_at hl 0 rfl) ?_
  refine lv_iconst (v := nI 0) hx hb dX1_solvable_1 (by decide +kernel) ?_
  refine x1_put S hin hK hP hD hS rfl 0 (by decide) rfl (by decide +kernel) rfl (ty := .int) (v := .int (nI 0)) rfl rfl rfl (Nat.le_of_ble_eq_true rfl) dX1_solvable_2 (fun H locs hP hD hS => ?_)
  have hP : va_P D vwCl (mdW h b1 b2 b3 b4 b5 cJ cI pj mi ni vd gA gB rd rk gR gP gS) H := hP
  have hD : va_D A (mdW h b1 b2 b3 b4 b5 cJ cI pj mi ni vd gA gB rd rk gR gP gS) := hD
  refine lv_aload_n hx hb dX1_solvable_5 rfl (lv_at hl 0 rfl) ?_
  refine rdv_i S (c_X1_isSolvable l D (M := M) (pc := pc) (b := b) hvd hV hI hrd hQ hbb hb1) (cwV 0 hts gX1_solvable_X1_isSolvable rfl rfl rfl (by decide +kernel) ⟨Nat.le_of_ble_eq_true rfl, Nat.le_of_ble_eq_true rfl⟩) rfl hK hP (ci := 1) rfl rfl hl.1 (rest := []) rfl (Nat.le_of_ble_eq_true rfl) dX1_solvable_6 ⟨Nat.zero_le _, Nat.zero_le _⟩ hP hS hA (fun r_1 H locs er_1 hP hS => ?_)
  exact hret (r_1) () 9 ls _ _ dX1_solvable_9 (by rw [er_1]; unfold sSlv; split <;> decide +kernel) hP hD hS (er_1)
set_option maxHeartbeats 4000000 in
set_option maxRecDepth 100000 in
theorem c_X1_rowOf (l : Launch) (D : va_G) {h b1 b2 b3 b4 b5 : Nat} {cJ cI : ClassId} {gA gB : Nat → Int64} {rd rk : Nat} {gR : Nat → Int64} {gP : Nat → Int32} {gS : Nat → Int64} {vd P mR nC : Nat} {pc : Nat → Nat} (cj : Nat) (hn : nC ≤ 10) (hrk : rk ≤ 10) (hcj : cj < 2 ^ 31) (hg : ∀ i, i < rk → gP i = nI (pc i)) (hpc : ∀ i, i < rk → pc i < nC) : RdI l yX1_rowOf wsX1_rowOf ({ frames := 0, cells := 0, slots := 0, locals := 0 }) [.ref h, .int (nI cj)] D (mdW h b1 b2 b3 b4 b5 cJ cI (lN P) (nI mR) (nI nC) vd gA gB rd rk gR gP gS) [(cJ, .long), (cI, .int)] (fun r => r = opt (rowOf pc rk cj)) := by
  refine RdI.mk (cc := cX1_rowOf) (maxL := 4) (rt := .int) (by decide) rfl (Nat.le_of_ble_eq_true rfl) ?_
  intro p e s mm args below meth c Q ls A S hK hP hA hS hl hret
  have hx := S.1
  have hb := S.2.1
  have hts := S.2.2.2.2
  have hown := S.2.2.2.1
  have hin : ∀ w ∈ wsX10, w ∈ wsX1_rowOf := fun w h => List.mem_cons_of_mem _ (List.mem_append_right _ h)
  have hl : lv_has ls 4 [(0, .ref h), (1, .int (nI cj))] := hl
  refine lv_iconst (v := (-1)) hx hb dX1_rowOf_0 (by decide +kernel) ?_
  refine lv_istore_n (lv' := [(2, .int (-1)), (0, .ref h), (1, .int (nI cj))]) hx hb dX1_rowOf_1 rfl hl (by decide) rfl (fun ls hl => ?_)
  refine lv_iconst (v := nI 0) hx hb dX1_rowOf_2 (by decide +kernel) ?_
  refine lv_istore_n (lv' := [(3, .int (nI 0)), (2, .int (-1)), (0, .ref h), (1, .int (nI cj))]) hx hb dX1_rowOf_3 rfl hl (by decide) rfl (fun ls hl => ?_)
  have L : ∀ (nL : Nat) (i : Nat), (i ≤ rk) → (rk + 1 ≤ i + nL) → ∀ (ls : Array Slot) (H : Heap) (locs : List Loc), lv_has ls 4 [(0, .ref h), (1, .int (nI cj)), (2, .int (opt (rowOf pc i cj))), (3, .int (nI i))] → va_P D vwCl (mdW h b1 b2 b3 b4 b5 cJ cI (lN P) (nI mR) (nI nC) vd gA gB rd rk gR gP gS) H → va_S A s.heap H locs → W p l e ({ frames := 0, cells := 0, slots := 0, locals := 0 }) s mm args below meth c H locs 0 0 Q (F0 mm 4 ls []) := by
    intro nL
    induction nL with
    | zero => intro i hi hfuel; exfalso; omega
    | succ nL ihL =>
      intro i hi hfuel ls H locs hl hP hS
      refine lv_iload_n hx hb dX1_rowOf_4 rfl (lv_at hl 3 rfl) ?_
      refine lv_aload_n hx hb dX1_rowOf_5 rfl (lv_at hl 0 rfl) ?_
      refine x1_get S hin hK hP rfl 8 (by decide) rfl (by decide +kernel) (v := .int (nI rk)) rfl dX1_rowOf_6 ?_
      refine nv_icmp_ge (tgt := 34) hx hb dX1_rowOf_9 (by decide) (by omega) (by omega) (fun c_1 => ?_) (fun c_1 => ?_)
      · refine lv_iload_n hx hb dX1_rowOf_34 rfl (lv_at hl 2 rfl) ?_
        exact hret (opt (rowOf pc i cj)) 35 ls _ _ dX1_rowOf_35 (rfl) hS (by rw [show i = rk by omega])
      · refine lv_aload_n hx hb dX1_rowOf_12 rfl (lv_at hl 0 rfl) ?_
        refine x1_get S hin hK hP rfl 10 (by decide) rfl (by decide +kernel) (v := .ref b4) rfl dX1_rowOf_13 ?_
        refine lv_iload_n hx hb dX1_rowOf_16 rfl (lv_at hl 3 rfl) ?_
        refine nv_iald hx hb hK hP 4 1 rfl rfl (v := nI (pc i)) (by omega) (by decide) (hg i (by omega)) dX1_rowOf_17 ?_
        refine lv_iload_n hx hb dX1_rowOf_18 rfl (lv_at hl 1 rfl) ?_
        refine nv_icmp_ne (tgt := 26) hx hb dX1_rowOf_19 (by decide) (by have := hpc i (by omega); omega) (by omega) (fun c_2 => ?_) (fun c_2 => ?_)
        · refine lv_iload_n hx hb dX1_rowOf_26 rfl (lv_at hl 2 rfl) ?_
          refine lv_istore_n (lv' := [(2, .int (opt (rowOf pc i cj))), (0, .ref h), (1, .int (nI cj)), (3, .int (nI i))]) hx hb dX1_rowOf_27 rfl hl (by decide) rfl (fun ls hl => ?_)
          refine lv_iinc (v := nI (i + 1)) (lv' := [(3, .int (nI (i + 1))), (2, .int (opt (rowOf pc i cj))), (0, .ref h), (1, .int (nI cj))]) hx hb dX1_rowOf_28 hl (k := 3) rfl (nv_inc i 1) (by decide) rfl (fun ls hl => ?_)
          refine lv_goto (tgt := 4) hx hb dX1_rowOf_31 (by decide) ?_
          have e9 : opt (rowOf pc (i + 1) cj) = opt (rowOf pc i cj) := by simp [rowOf, c_2]
          rw [← e9] at hl
          exact ihL (i + 1) (by omega) (by omega) ls _ _ (lv_sub hl [2, 3, 1, 0] rfl) hP hS
        · refine lv_iload_n hx hb dX1_rowOf_22 rfl (lv_at hl 3 rfl) ?_
          refine lv_goto (tgt := 27) hx hb dX1_rowOf_23 (by decide) ?_
          refine lv_istore_n (lv' := [(2, .int (nI i)), (0, .ref h), (1, .int (nI cj)), (3, .int (nI i))]) hx hb dX1_rowOf_27 rfl hl (by decide) rfl (fun ls hl => ?_)
          refine lv_iinc (v := nI (i + 1)) (lv' := [(3, .int (nI (i + 1))), (2, .int (nI i)), (0, .ref h), (1, .int (nI cj))]) hx hb dX1_rowOf_28 hl (k := 3) rfl (nv_inc i 1) (by decide) rfl (fun ls hl => ?_)
          refine lv_goto (tgt := 4) hx hb dX1_rowOf_31 (by decide) ?_
          have e9 : opt (rowOf pc (i + 1) cj) = nI i := by simp [rowOf, c_2, opt]
          rw [← e9] at hl
          exact ihL (i + 1) (by omega) (by omega) ls _ _ (lv_sub hl [2, 3, 1, 0] rfl) hP hS
  have hl : lv_has ls 4 [(3, .int (nI 0)), (2, .int (opt (rowOf pc 0 cj))), (0, .ref h), (1, .int (nI cj))] := hl
  exact L (rk + 1) 0 (by omega) (by omega) ls _ _ (lv_sub hl [2, 3, 1, 0] rfl) hP hS
set_option maxHeartbeats 4000000 in
set_option maxRecDepth 100000 in
theorem c_X1_solution (l : Launch) (D : va_G) {h b1 b2 b3 b4 b5 : Nat} {cJ cI : ClassId} {gA gB : Nat → Int64} {rd rk : Nat} {gR : Nat → Int64} {gP : Nat → Int32} {gS : Nat → Int64} {pj : Int64} {mi ni : Int32} {vd P mR nC : Nat} {M : Mat} {pc : Nat → Nat} {b : Nat → Nat} (j : Int32) (hvd : vd < 2) (hV : vd ≠ 0 → MdV pj mi ni P mR nC) (hI : vd = 0 → mR = 0 ∧ nC = 0) (hrd : rd < 2) (hQ : rd ≠ 0 → vd ≠ 0 ∧ MdQ P mR nC rk gR gP M pc) (hbb : vd ≠ 0 → ∀ i, b i < P) (hb1 : ∀ i, i < mR → gB i = lN (b i)) : WrI (U := Unit) l yX1_solution wsX1_solution ({ frames := 2, cells := 0, slots := 0, locals := 46 }) [.ref h, .int j] D (mdW h b1 b2 b3 b4 b5 cJ cI pj mi ni vd gA gB rd rk gR gP gS) [(cJ, .long), (cI, .int)] (fun r _ => r = sSol rd P mR nC M b rk (rowOf pc rk) j) (fun _ => mdW h b1 b2 b3 b4 b5 cJ cI pj mi ni vd gA gB rd rk gR gP gS) := by
  refine WrI.mk (cc := cX1_solution) (maxL := 3) (rt := .int) (by decide) rfl (Nat.le_of_ble_eq_true rfl) ?_
  intro p e s mm args below meth c Q ls A S hK hP hD hA hS hl hret
  have hx := S.1
  have hb := S.2.1
  have hts := S.2.2.2.2
  have hown := S.2.2.2.1
  have hin : ∀ w ∈ wsX10, w ∈ wsX1_solution := fun w h => List.mem_cons_of_mem _ (List.mem_append_right _ h)
  have hl : lv_has ls 3 [(0, .ref h), (1, .int j)] := hl
  refine lv_aload_n hx hb dX1_solution_0 rfl (lv_at hl 0 rfl) ?_
  refine lv_iconst (v := nI 0) hx hb dX1_solution_1 (by decide +kernel) ?_
  refine x1_put S hin hK hP hD hS rfl 0 (by decide) rfl (by decide +kernel) rfl (ty := .int) (v := .int (nI 0)) rfl rfl rfl (Nat.le_of_ble_eq_true rfl) dX1_solution_2 (fun H locs hP hD hS => ?_)
  have hP : va_P D vwCl (mdW h b1 b2 b3 b4 b5 cJ cI pj mi ni vd gA gB rd rk gR gP gS) H := hP
  have hD : va_D A (mdW h b1 b2 b3 b4 b5 cJ cI pj mi ni vd gA gB rd rk gR gP gS) := hD
  refine lv_aload_n hx hb dX1_solution_5 rfl (lv_at hl 0 rfl) ?_
  refine rdv_i S (c_X1_isSolvable l D (M := M) (pc := pc) (b := b) hvd hV hI hrd hQ hbb hb1) (cwV 0 hts gX1_solution_X1_isSolvable rfl rfl rfl (by decide +kernel) ⟨Nat.le_of_ble_eq_true rfl, Nat.le_of_ble_eq_true rfl⟩) rfl hK hP (ci := 1) rfl rfl hl.1 (rest := []) rfl (Nat.le_of_ble_eq_true rfl) dX1_solution_6 ⟨Nat.zero_le _, Nat.zero_le _⟩ hP hS hA (fun r_1 H locs er_1 hP hS => ?_)
  by_cases hS1 : rd ≠ 0 ∧ slv P mR M b rk = true
  · unfold sSlv at er_1
    rw [if_pos hS1] at er_1
    subst er_1
    have hrd0 : rd ≠ 0 := by omega
    obtain ⟨hV0, hM, hB, hrm, hrn, hg, hpc, hcnt⟩ := hQ hrd0
    have hV9 := hV hV0
    obtain ⟨rfl, rfl, rfl, hP2, hPl, hm1, hm, hn1, hn⟩ := hV9
    refine nv_if_eq (tgt := 24) hx hb dX1_solution_9 (by decide) (by decide) (fun q => absurd q (by decide)) (fun _ => ?_)
    refine lv_iload_n hx hb dX1_solution_12 rfl (lv_at hl 1 rfl) ?_
    refine lv_if_lt (tgt := 24) hx hb dX1_solution_13 (by decide) (fun c_3 => ?_) (fun c_3 => ?_)
    · refine lv_iconst (v := (-1)) hx hb dX1_solution_24 (by decide +kernel) ?_
      exact hret ((-1)) () 25 ls _ _ dX1_solution_25 (rfl) hP hD hS (by
          unfold sSol
          rw [if_neg]
          simp [inb_f (i := j) (m := nC) (out_row (by omega) (Or.inl c_3)) (show nC < 2 ^ 31 by omega)])
    · refine lv_iload_n hx hb dX1_solution_16 rfl (lv_at hl 1 rfl) ?_
      refine lv_aload_n hx hb dX1_solution_17 rfl (lv_at hl 0 rfl) ?_
      refine x1_get S hin hK hP rfl 3 (by decide) rfl (by decide +kernel) (v := .int (nI nC)) rfl dX1_solution_18 ?_
      refine lv_icmp_lt (tgt := 26) hx hb dX1_solution_21 (by decide) (fun c_4 => ?_) (fun c_4 => ?_)
      · obtain ⟨k1, hk1, rfl⟩ := in_row (i := j) (m := nC) (by omega) c_3 (nle_of_lt c_4)
        refine lv_aload_n hx hb dX1_solution_26 rfl (lv_at hl 0 rfl) ?_
        refine lv_iload_n hx hb dX1_solution_27 rfl (lv_at hl 1 rfl) ?_
        refine rdv_i S (c_X1_rowOf l D (pc := pc) k1 hn (by omega) (by omega) hg hpc) (cwV 1 hts gX1_solution_X1_rowOf rfl rfl rfl (by decide +kernel) ⟨Nat.le_of_ble_eq_true rfl, Nat.le_of_ble_eq_true rfl⟩) rfl hK hP (ci := 1) rfl rfl hl.1 (rest := []) rfl (Nat.le_of_ble_eq_true rfl) dX1_solution_28 ⟨Nat.zero_le _, Nat.zero_le _⟩ hP hS hA (fun r_5 H locs er_5 hP hS => ?_)
        cases hpok1 : rowOf pc rk k1 with
        | none =>
          rw [hpok1] at er_5
          have er_5 : r_5 = -1 := er_5
          subst er_5
          refine lv_istore_n (lv' := [(2, .int (-1)), (0, .ref h), (1, .int (nI k1))]) hx hb dX1_solution_31 rfl hl (by decide) rfl (fun ls hl => ?_)
          refine lv_iload_n hx hb dX1_solution_32 rfl (lv_at hl 0 rfl) ?_
          refine lv_if_ge (tgt := 40) hx hb dX1_solution_33 (by decide) (fun c_6 => ?_) (fun c_6 => ?_)
          · exact absurd c_6 (by decide +kernel)
          · refine lv_iconst (v := nI 0) hx hb dX1_solution_36 (by decide +kernel) ?_
            refine lv_goto (tgt := 46) hx hb dX1_solution_37 (by decide) ?_
            exact hret (nI 0) () 46 ls _ _ dX1_solution_46 (rfl) hP hD hS (by
                unfold sSol
                rw [if_pos ⟨inb_t hk1 (by omega), hS1.1, hS1.2⟩, ix_n (show k1 < 2 ^ 31 by omega), hpok1]
                rfl)
        | some pi =>
          rw [hpok1] at er_5
          have er_5 : r_5 = nI pi := er_5
          have hpi := Nat.lt_of_lt_of_le (rowOf_lt hpok1) hrm
          subst er_5
          refine lv_istore_n (lv' := [(2, .int (nI pi)), (0, .ref h), (1, .int (nI k1))]) hx hb dX1_solution_31 rfl hl (by decide) rfl (fun ls hl => ?_)
          refine lv_iload_n hx hb dX1_solution_32 rfl (lv_at hl 0 rfl) ?_
          refine nv_if_ge (tgt := 40) hx hb dX1_solution_33 (by decide) (by omega) (fun c_7 => ?_) (fun c_7 => ?_)
          · refine lv_aload_n hx hb dX1_solution_40 rfl (lv_at hl 1 rfl) ?_
            refine lv_iload_n hx hb dX1_solution_41 rfl (lv_at hl 0 rfl) ?_
            refine rdv_l S (c_X1_changed l D (M := M) (b := b) pi hP2 hPl hm hn hpi hB hM (hbb hV0) hb1) (cwV 1 hts gX1_solution_X1_changed rfl rfl rfl (by decide +kernel) ⟨Nat.le_of_ble_eq_true rfl, Nat.le_of_ble_eq_true rfl⟩) rfl hK hP (ci := 1) rfl rfl hl.1 (rest := []) rfl (Nat.le_of_ble_eq_true rfl) dX1_solution_42 ⟨Nat.zero_le _, Nat.zero_le _⟩ hP hS hA (fun r_8 H locs er_8 hP hS => ?_)
            subst er_8
            refine nv_l2i hx hb dX1_solution_45 ?_
            exact hret (nI (chg P (fun k => M pi (10 + k)) b mR)) () 46 ls _ _ dX1_solution_46 (rfl) hP hD hS (by
                unfold sSol
                rw [if_pos ⟨inb_t hk1 (by omega), hS1.1, hS1.2⟩, ix_n (show k1 < 2 ^ 31 by omega), hpok1]
                rfl)
          · exact absurd c_7 (Nat.not_lt_zero _)
      · refine lv_iconst (v := (-1)) hx hb dX1_solution_24 (by decide +kernel) ?_
        exact hret ((-1)) () 25 ls _ _ dX1_solution_25 (rfl) hP hD hS (by
            unfold sSol
            rw [if_neg]
            simp [inb_f (i := j) (m := nC) (out_row (by omega) (Or.inr (le_of_nlt c_4))) (show nC < 2 ^ 31 by omega)])
  · unfold sSlv at er_1
    rw [if_neg hS1] at er_1
    subst er_1
    refine nv_if_eq (tgt := 24) hx hb dX1_solution_9 (by decide) (by decide) (fun _ => ?_) (fun q => absurd q (by decide))
    refine lv_iconst (v := (-1)) hx hb dX1_solution_24 (by decide +kernel) ?_
    exact hret ((-1)) () 25 ls _ _ dX1_solution_25 (rfl) hP hD hS (by
        unfold sSol
        rw [if_neg]
        exact fun z => hS1 ⟨z.2.1, z.2.2⟩)
set_option maxHeartbeats 4000000 in
set_option maxRecDepth 100000 in
theorem c_X1_kernelDim (l : Launch) (D : va_G) {h b1 b2 b3 b4 b5 : Nat} {cJ cI : ClassId} {gA gB : Nat → Int64} {rd rk : Nat} {gR : Nat → Int64} {gP : Nat → Int32} {gS : Nat → Int64} {pj : Int64} {mi ni : Int32} {vd P mR nC : Nat} {M : Mat} {pc : Nat → Nat} (hvd : vd < 2) (hV : vd ≠ 0 → MdV pj mi ni P mR nC) (hI : vd = 0 → mR = 0 ∧ nC = 0) (hrd : rd < 2) (hQ : rd ≠ 0 → vd ≠ 0 ∧ MdQ P mR nC rk gR gP M pc) : WrI (U := Unit) l yX1_kernelDim wsX1_kernelDim ({ frames := 0, cells := 0, slots := 0, locals := 0 }) [.ref h] D (mdW h b1 b2 b3 b4 b5 cJ cI pj mi ni vd gA gB rd rk gR gP gS) [(cJ, .long), (cI, .int)] (fun r _ => r = sKd rd nC rk) (fun _ => mdW h b1 b2 b3 b4 b5 cJ cI pj mi ni vd gA gB rd rk gR gP gS) := by
  refine WrI.mk (cc := cX1_kernelDim) (maxL := 1) (rt := .int) (by decide) rfl (Nat.le_of_ble_eq_true rfl) ?_
  intro p e s mm args below meth c Q ls A S hK hP hD hA hS hl hret
  have hx := S.1
  have hb := S.2.1
  have hts := S.2.2.2.2
  have hown := S.2.2.2.1
  have hin : ∀ w ∈ wsX10, w ∈ wsX1_kernelDim := fun w h => List.mem_cons_of_mem _ (List.mem_append_right _ h)
  have hl : lv_has ls 1 [(0, .ref h)] := hl
  refine lv_aload_n hx hb dX1_kernelDim_0 rfl (lv_at hl 0 rfl) ?_
  refine lv_iconst (v := nI 0) hx hb dX1_kernelDim_1 (by decide +kernel) ?_
  refine x1_put S hin hK hP hD hS rfl 0 (by decide) rfl (by decide +kernel) rfl (ty := .int) (v := .int (nI 0)) rfl rfl rfl (Nat.le_of_ble_eq_true rfl) dX1_kernelDim_2 (fun H locs hP hD hS => ?_)
  have hP : va_P D vwCl (mdW h b1 b2 b3 b4 b5 cJ cI pj mi ni vd gA gB rd rk gR gP gS) H := hP
  have hD : va_D A (mdW h b1 b2 b3 b4 b5 cJ cI pj mi ni vd gA gB rd rk gR gP gS) := hD
  refine lv_aload_n hx hb dX1_kernelDim_5 rfl (lv_at hl 0 rfl) ?_
  refine x1_get S hin hK hP rfl 7 (by decide) rfl (by decide +kernel) (v := .int (nI rd)) rfl dX1_kernelDim_6 ?_
  refine nv_if_eq (tgt := 24) hx hb dX1_kernelDim_9 (by decide) (by omega) (fun c_1 => ?_) (fun c_1 => ?_)
  · refine lv_iconst (v := (-1)) hx hb dX1_kernelDim_24 (by decide +kernel) ?_
    exact hret ((-1)) () 25 ls _ _ dX1_kernelDim_25 (rfl) hP hD hS (by simp [sKd, show rd = 0 by omega])
  · have hrd0 : rd ≠ 0 := by omega
    obtain ⟨hV0, hM, hB, hrm, hrn, hg, hpc, hcnt⟩ := hQ hrd0
    have hV9 := hV hV0
    obtain ⟨rfl, rfl, rfl, hP2, hPl, hm1, hm, hn1, hn⟩ := hV9
    refine lv_aload_n hx hb dX1_kernelDim_12 rfl (lv_at hl 0 rfl) ?_
    refine x1_get S hin hK hP rfl 3 (by decide) rfl (by decide +kernel) (v := .int (nI nC)) rfl dX1_kernelDim_13 ?_
    refine lv_aload_n hx hb dX1_kernelDim_16 rfl (lv_at hl 0 rfl) ?_
    refine x1_get S hin hK hP rfl 8 (by decide) rfl (by decide +kernel) (v := .int (nI rk)) rfl dX1_kernelDim_17 ?_
    refine nv_isub hx hb (by omega) dX1_kernelDim_20 ?_
    refine lv_goto (tgt := 25) hx hb dX1_kernelDim_21 (by decide) ?_
    exact hret (nI (nC - rk)) () 25 ls _ _ dX1_kernelDim_25 (rfl) hP hD hS (by simp [sKd, show ¬ rd = 0 by omega])
set_option maxHeartbeats 4000000 in
set_option maxRecDepth 100000 in
theorem c_X1_kernelAt (l : Launch) (D : va_G) {h b1 b2 b3 b4 b5 : Nat} {cJ cI : ClassId} {gA gB : Nat → Int64} {rd rk : Nat} {gR : Nat → Int64} {gP : Nat → Int32} {gS : Nat → Int64} {pj : Int64} {mi ni : Int32} {vd P mR nC : Nat} {M : Mat} {pc : Nat → Nat} (k j : Int32) (hvd : vd < 2) (hV : vd ≠ 0 → MdV pj mi ni P mR nC) (hI : vd = 0 → mR = 0 ∧ nC = 0) (hrd : rd < 2) (hQ : rd ≠ 0 → vd ≠ 0 ∧ MdQ P mR nC rk gR gP M pc) : WrI (U := Unit) l yX1_kernelAt wsX1_kernelAt ({ frames := 1, cells := 0, slots := 0, locals := 23 }) [.ref h, .int k, .int j] D (mdW h b1 b2 b3 b4 b5 cJ cI pj mi ni vd gA gB rd rk gR gP gS) [(cJ, .long), (cI, .int)] (fun r _ => r = sKer rd P nC M (rowOf pc rk) k j) (fun _ => mdW h b1 b2 b3 b4 b5 cJ cI pj mi ni vd gA gB rd rk gR gP gS) := by
  refine WrI.mk (cc := cX1_kernelAt) (maxL := 6) (rt := .int) (by decide) rfl (Nat.le_of_ble_eq_true rfl) ?_
  intro p e s mm args below meth c Q ls A S hK hP hD hA hS hl hret
  have hx := S.1
  have hb := S.2.1
  have hts := S.2.2.2.2
  have hown := S.2.2.2.1
  have hin : ∀ w ∈ wsX10, w ∈ wsX1_kernelAt := fun w h => List.mem_cons_of_mem _ (List.mem_append_right _ h)
  have hl : lv_has ls 6 [(0, .ref h), (1, .int k), (2, .int j)] := hl
  refine lv_aload_n hx hb dX1_kernelAt_0 rfl (lv_at hl 0 rfl) ?_
  refine lv_iconst (v := nI 0) hx hb dX1_kernelAt_1 (by decide +kernel) ?_
  refine x1_put S hin hK hP hD hS rfl 0 (by decide) rfl (by decide +kernel) rfl (ty := .int) (v := .int (nI 0)) rfl rfl rfl (Nat.le_of_ble_eq_true rfl) dX1_kernelAt_2 (fun H locs hP hD hS => ?_)
  have hP : va_P D vwCl (mdW h b1 b2 b3 b4 b5 cJ cI pj mi ni vd gA gB rd rk gR gP gS) H := hP
  have hD : va_D A (mdW h b1 b2 b3 b4 b5 cJ cI pj mi ni vd gA gB rd rk gR gP gS) := hD
  refine lv_aload_n hx hb dX1_kernelAt_5 rfl (lv_at hl 0 rfl) ?_
  refine x1_get S hin hK hP rfl 7 (by decide) rfl (by decide +kernel) (v := .int (nI rd)) rfl dX1_kernelAt_6 ?_
  refine nv_if_eq (tgt := 41) hx hb dX1_kernelAt_9 (by decide) (by omega) (fun c_1 => ?_) (fun c_1 => ?_)
  · refine lv_iconst (v := (-1)) hx hb dX1_kernelAt_41 (by decide +kernel) ?_
    exact hret ((-1)) () 42 ls _ _ dX1_kernelAt_42 (rfl) hP hD hS (by simp [sKer, c_1])
  · have hrd0 : rd ≠ 0 := by omega
    obtain ⟨hV0, hM, hB, hrm, hrn, hg, hpc, hcnt⟩ := hQ hrd0
    have hV9 := hV hV0
    obtain ⟨rfl, rfl, rfl, hP2, hPl, hm1, hm, hn1, hn⟩ := hV9
    refine lv_iload_n hx hb dX1_kernelAt_12 rfl (lv_at hl 1 rfl) ?_
    refine lv_if_lt (tgt := 41) hx hb dX1_kernelAt_13 (by decide) (fun c_2 => ?_) (fun c_2 => ?_)
    · refine lv_iconst (v := (-1)) hx hb dX1_kernelAt_41 (by decide +kernel) ?_
      exact hret ((-1)) () 42 ls _ _ dX1_kernelAt_42 (rfl) hP hD hS (by
          refine (sKer_no (kth_none (fun c hc => ?_))).symm
          exact out_row (m := c + 1) (by omega) (Or.inl c_2) c (by omega))
    · refine lv_iload_n hx hb dX1_kernelAt_16 rfl (lv_at hl 1 rfl) ?_
      refine lv_aload_n hx hb dX1_kernelAt_17 rfl (lv_at hl 0 rfl) ?_
      refine x1_get S hin hK hP rfl 3 (by decide) rfl (by decide +kernel) (v := .int (nI nC)) rfl dX1_kernelAt_18 ?_
      refine lv_aload_n hx hb dX1_kernelAt_21 rfl (lv_at hl 0 rfl) ?_
      refine x1_get S hin hK hP rfl 8 (by decide) rfl (by decide +kernel) (v := .int (nI rk)) rfl dX1_kernelAt_22 ?_
      refine nv_isub hx hb (by omega) dX1_kernelAt_25 ?_
      refine lv_icmp_ge (tgt := 41) hx hb dX1_kernelAt_26 (by decide) (fun c_3 => ?_) (fun c_3 => ?_)
      · refine lv_iconst (v := (-1)) hx hb dX1_kernelAt_41 (by decide +kernel) ?_
        exact hret ((-1)) () 42 ls _ _ dX1_kernelAt_42 (rfl) hP hD hS (by
            refine (sKer_no (kth_none (fun c hc => ?_))).symm
            exact out_row (m := nC - rk) (by omega) (Or.inr c_3) c (by omega))
      · obtain ⟨kk, hkk, rfl⟩ := in_row (i := k) (m := nC - rk) (by omega) c_2 c_3
        refine lv_iload_n hx hb dX1_kernelAt_29 rfl (lv_at hl 2 rfl) ?_
        refine lv_if_lt (tgt := 41) hx hb dX1_kernelAt_30 (by decide) (fun c_4 => ?_) (fun c_4 => ?_)
        · refine lv_iconst (v := (-1)) hx hb dX1_kernelAt_41 (by decide +kernel) ?_
          exact hret ((-1)) () 42 ls _ _ dX1_kernelAt_42 (rfl) hP hD hS (by simp [sKer, inb_f (i := j) (m := nC) (out_row (by omega) (Or.inl c_4)) (show nC < 2 ^ 31 by omega)])
        · refine lv_iload_n hx hb dX1_kernelAt_33 rfl (lv_at hl 2 rfl) ?_
          refine lv_aload_n hx hb dX1_kernelAt_34 rfl (lv_at hl 0 rfl) ?_
          refine x1_get S hin hK hP rfl 3 (by decide) rfl (by decide +kernel) (v := .int (nI nC)) rfl dX1_kernelAt_35 ?_
          refine lv_icmp_lt (tgt := 43) hx hb dX1_kernelAt_38 (by decide) (fun c_5 => ?_) (fun c_5 => ?_)
          · obtain ⟨k1, hk1, rfl⟩ := in_row (i := j) (m := nC) (by omega) c_4 (nle_of_lt c_5)
            obtain ⟨fc, hkt⟩ := kth_some (po := rowOf pc rk) (kk := kk) (n := nC) (by omega) nC 0 (by omega) (by omega) (Nat.zero_le _)
            obtain ⟨-, hfc, hfn, hfk⟩ := kth_lt _ _ _ hkt
            have hcl := cnt_le (rowOf pc rk) fc
            rw [nI_eq (by omega) (by omega)] at hfk
            refine lv_iconst (v := nI 0) hx hb dX1_kernelAt_43 (by decide +kernel) ?_
            refine lv_istore_n (lv' := [(3, .int (nI 0)), (0, .ref h), (1, .int (nI kk)), (2, .int (nI k1))]) hx hb dX1_kernelAt_44 rfl hl (by decide) rfl (fun ls hl => ?_)
            refine lv_iload_n hx hb dX1_kernelAt_45 rfl (lv_at hl 2 rfl) ?_
            refine lv_istore (lv' := [(4, .int (nI kk)), (3, .int (nI 0)), (0, .ref h), (1, .int (nI kk)), (2, .int (nI k1))]) hx hb dX1_kernelAt_46 hl (by decide) rfl (fun ls hl => ?_)
            have L : ∀ (nL : Nat) (fr : Nat) (lf : Nat), (fr ≤ fc) → (lf + cnt (rowOf pc rk) fr = kk) → (fc + 1 ≤ fr + nL) → ∀ (ls : Array Slot) (H : Heap) (locs : List Loc), lv_has ls 6 [(0, .ref h), (1, .int (nI kk)), (2, .int (nI k1)), (3, .int (nI fr)), (4, .int (nI lf))] → va_P D vwCl (mdW h b1 b2 b3 b4 b5 cJ cI (lN P) (nI mR) (nI nC) vd gA gB rd rk gR gP gS) H → va_D A (mdW h b1 b2 b3 b4 b5 cJ cI (lN P) (nI mR) (nI nC) vd gA gB rd rk gR gP gS) → va_S A s.heap H locs → W p l e ({ frames := 1, cells := 0, slots := 0, locals := 23 }) s mm args below meth c H locs 0 0 Q (F0 mm 48 ls []) := by
              intro nL
              induction nL with
              | zero => intro fr lf hfr hlf hfuel; exfalso; omega
              | succ nL ihL =>
                intro fr lf hfr hlf hfuel ls H locs hl hP hD hS
                refine lv_aload_n hx hb dX1_kernelAt_48 rfl (lv_at hl 0 rfl) ?_
                refine lv_iload_n hx hb dX1_kernelAt_49 rfl (lv_at hl 3 rfl) ?_
                refine rdv_i S (c_X1_rowOf l D (pc := pc) fr hn (by omega) (by omega) hg hpc) (cwV 1 hts gX1_kernelAt_X1_rowOf rfl rfl rfl (by decide +kernel) ⟨Nat.le_of_ble_eq_true rfl, Nat.le_of_ble_eq_true rfl⟩) rfl hK hP (ci := 1) rfl rfl hl.1 (rest := []) rfl (Nat.le_of_ble_eq_true rfl) dX1_kernelAt_50 ⟨Nat.zero_le _, Nat.zero_le _⟩ hP hS hA (fun r_6 H locs er_6 hP hS => ?_)
                cases hpofr : rowOf pc rk fr with
                | none =>
                  rw [hpofr] at er_6
                  have er_6 : r_6 = -1 := er_6
                  subst er_6
                  refine lv_if_ge (tgt := 61) hx hb dX1_kernelAt_53 (by decide) (fun c_7 => ?_) (fun c_7 => ?_)
                  · exact absurd c_7 (by decide +kernel)
                  · refine lv_iload hx hb dX1_kernelAt_56 (lv_at hl 4 rfl) ?_
                    refine nv_if_le (tgt := 86) hx hb dX1_kernelAt_58 (by decide) (by omega) (fun c_8 => ?_) (fun c_8 => ?_)
                    · have e0 : lf = 0 := by omega
                      have e1 : fr = fc := by
                        rcases Nat.lt_or_ge fr fc with q | q
                        · have := cnt_free q hpofr
                          omega
                        · omega
                      subst e0 e1
                      refine lv_aload_n hx hb dX1_kernelAt_86 rfl (lv_at hl 0 rfl) ?_
                      refine lv_iload_n hx hb dX1_kernelAt_87 rfl (lv_at hl 2 rfl) ?_
                      refine rdv_i S (c_X1_rowOf l D (pc := pc) k1 hn (by omega) (by omega) hg hpc) (cwV 1 hts gX1_kernelAt_X1_rowOf rfl rfl rfl (by decide +kernel) ⟨Nat.le_of_ble_eq_true rfl, Nat.le_of_ble_eq_true rfl⟩) rfl hK hP (ci := 1) rfl rfl hl.1 (rest := []) rfl (Nat.le_of_ble_eq_true rfl) dX1_kernelAt_88 ⟨Nat.zero_le _, Nat.zero_le _⟩ hP hS hA (fun r_9 H locs er_9 hP hS => ?_)
                      cases hpok1 : rowOf pc rk k1 with
                      | none =>
                        rw [hpok1] at er_9
                        have er_9 : r_9 = -1 := er_9
                        subst er_9
                        refine lv_istore (lv' := [(5, .int (-1)), (0, .ref h), (1, .int (nI kk)), (2, .int (nI k1)), (3, .int (nI fr)), (4, .int (nI 0))]) hx hb dX1_kernelAt_91 hl (by decide) rfl (fun ls hl => ?_)
                        refine lv_iload_n hx hb dX1_kernelAt_93 rfl (lv_at hl 3 rfl) ?_
                        refine lv_iload_n hx hb dX1_kernelAt_94 rfl (lv_at hl 4 rfl) ?_
                        refine nv_icmp_ne (tgt := 108) hx hb dX1_kernelAt_95 (by decide) (by omega) (by omega) (fun c_10 => ?_) (fun c_10 => ?_)
                        · refine lv_iload hx hb dX1_kernelAt_108 (lv_at hl 0 rfl) ?_
                          refine lv_if_ge (tgt := 117) hx hb dX1_kernelAt_110 (by decide) (fun c_11 => ?_) (fun c_11 => ?_)
                          · exact absurd c_11 (by decide +kernel)
                          · refine lv_iconst (v := nI 0) hx hb dX1_kernelAt_113 (by decide +kernel) ?_
                            refine lv_goto (tgt := 140) hx hb dX1_kernelAt_114 (by decide) ?_
                            exact hret (nI 0) () 140 ls _ _ dX1_kernelAt_140 (rfl) hP hD hS (by
                                unfold sKer
                                rw [if_pos ⟨hrd0, inb_t hk1 (by omega)⟩, ix_n (show k1 < 2 ^ 31 by omega), hpok1, hkt]
                                show _ = if k1 = fr then nI 1 else nI 0
                                rw [if_neg c_10])
                        · refine lv_lconst (v := lN 1) hx hb dX1_kernelAt_98 rfl ?_
                          refine lv_aload_n hx hb dX1_kernelAt_99 rfl (lv_at hl 1 rfl) ?_
                          refine x1_get S hin hK hP rfl 1 (by decide) rfl (by decide +kernel) (v := .long (lN P)) rfl dX1_kernelAt_100 ?_
                          refine nv_lrem hx hb (by decide) (by omega) (by omega) dX1_kernelAt_103 ?_
                          refine nv_l2i hx hb dX1_kernelAt_104 ?_
                          refine lv_goto (tgt := 140) hx hb dX1_kernelAt_105 (by decide) ?_
                          exact hret (nI (1 % P)) () 140 ls _ _ dX1_kernelAt_140 (rfl) hP hD hS (by
                              have e2 : rowOf pc rk k1 = none := by rw [c_10]; exact hpofr
                              unfold sKer
                              rw [if_pos ⟨hrd0, inb_t hk1 (by omega)⟩, ix_n (show k1 < 2 ^ 31 by omega), e2, hkt, Nat.mod_eq_of_lt (by omega)]
                              show _ = if k1 = fr then nI 1 else nI 0
                              rw [if_pos c_10])
                      | some pi =>
                        rw [hpok1] at er_9
                        have er_9 : r_9 = nI pi := er_9
                        have hpi := Nat.lt_of_lt_of_le (rowOf_lt hpok1) hrm
                        subst er_9
                        refine lv_istore (lv' := [(5, .int (nI pi)), (0, .ref h), (1, .int (nI kk)), (2, .int (nI k1)), (3, .int (nI fr)), (4, .int (nI 0))]) hx hb dX1_kernelAt_91 hl (by decide) rfl (fun ls hl => ?_)
                        refine lv_iload_n hx hb dX1_kernelAt_93 rfl (lv_at hl 3 rfl) ?_
                        refine lv_iload_n hx hb dX1_kernelAt_94 rfl (lv_at hl 4 rfl) ?_
                        refine nv_icmp_ne (tgt := 108) hx hb dX1_kernelAt_95 (by decide) (by omega) (by omega) (fun c_12 => ?_) (fun c_12 => ?_)
                        · refine lv_iload hx hb dX1_kernelAt_108 (lv_at hl 0 rfl) ?_
                          refine nv_if_ge (tgt := 117) hx hb dX1_kernelAt_110 (by decide) (by omega) (fun c_13 => ?_) (fun c_13 => ?_)
                          · refine lv_aload_n hx hb dX1_kernelAt_117 rfl (lv_at hl 1 rfl) ?_
                            refine x1_get S hin hK hP rfl 1 (by decide) rfl (by decide +kernel) (v := .long (lN P)) rfl dX1_kernelAt_118 ?_
                            refine lv_aload_n hx hb dX1_kernelAt_121 rfl (lv_at hl 1 rfl) ?_
                            refine x1_get S hin hK hP rfl 9 (by decide) rfl (by decide +kernel) (v := .ref b3) rfl dX1_kernelAt_122 ?_
                            refine lv_bipush (v := nI 20) hx hb dX1_kernelAt_125 (by decide +kernel) ?_
                            refine lv_iload hx hb dX1_kernelAt_127 (lv_at hl 0 rfl) ?_
                            refine nv_imul hx hb dX1_kernelAt_129 ?_
                            refine lv_iload_n hx hb dX1_kernelAt_130 rfl (lv_at hl 4 rfl) ?_
                            refine nv_iadd hx hb dX1_kernelAt_131 ?_
                            refine nv_lald hx hb hK hP 3 0 rfl rfl (v := lN (M pi fr)) (by omega) (by decide) (hM pi hpi fr (by omega)) dX1_kernelAt_132 ?_
                            refine nv_lsub hx hb (Nat.le_of_lt (hB pi fr)) dX1_kernelAt_133 ?_
                            refine lv_aload_n hx hb dX1_kernelAt_134 rfl (lv_at hl 1 rfl) ?_
                            refine x1_get S hin hK hP rfl 1 (by decide) rfl (by decide +kernel) (v := .long (lN P)) rfl dX1_kernelAt_135 ?_
                            refine nv_lrem hx hb (by omega) (by omega) (by omega) dX1_kernelAt_138 ?_
                            refine nv_l2i hx hb dX1_kernelAt_139 ?_
                            exact hret (nI ((P - (M pi fr)) % P)) () 140 ls _ _ dX1_kernelAt_140 (rfl) hP hD hS (by
                                unfold sKer
                                rw [if_pos ⟨hrd0, inb_t hk1 (by omega)⟩, ix_n (show k1 < 2 ^ 31 by omega), hpok1, hkt]
                                show _ = nI (ng P (M pi fr))
                                rw [ng_mod (hB pi fr)])
                          · exact absurd c_13 (Nat.not_lt_zero _)
                        · refine lv_lconst (v := lN 1) hx hb dX1_kernelAt_98 rfl ?_
                          refine lv_aload_n hx hb dX1_kernelAt_99 rfl (lv_at hl 1 rfl) ?_
                          refine x1_get S hin hK hP rfl 1 (by decide) rfl (by decide +kernel) (v := .long (lN P)) rfl dX1_kernelAt_100 ?_
                          refine nv_lrem hx hb (by decide) (by omega) (by omega) dX1_kernelAt_103 ?_
                          refine nv_l2i hx hb dX1_kernelAt_104 ?_
                          refine lv_goto (tgt := 140) hx hb dX1_kernelAt_105 (by decide) ?_
                          exact hret (nI (1 % P)) () 140 ls _ _ dX1_kernelAt_140 (rfl) hP hD hS (by
                              have e2 : rowOf pc rk k1 = none := by rw [c_12]; exact hpofr
                              unfold sKer
                              rw [if_pos ⟨hrd0, inb_t hk1 (by omega)⟩, ix_n (show k1 < 2 ^ 31 by omega), e2, hkt, Nat.mod_eq_of_lt (by omega)]
                              show _ = if k1 = fr then nI 1 else nI 0
                              rw [if_pos c_12])
                    · refine lv_aload_n hx hb dX1_kernelAt_61 rfl (lv_at hl 0 rfl) ?_
                      refine lv_iload_n hx hb dX1_kernelAt_62 rfl (lv_at hl 3 rfl) ?_
                      refine rdv_i S (c_X1_rowOf l D (pc := pc) fr hn (by omega) (by omega) hg hpc) (cwV 1 hts gX1_kernelAt_X1_rowOf rfl rfl rfl (by decide +kernel) ⟨Nat.le_of_ble_eq_true rfl, Nat.le_of_ble_eq_true rfl⟩) rfl hK hP (ci := 1) rfl rfl hl.1 (rest := []) rfl (Nat.le_of_ble_eq_true rfl) dX1_kernelAt_63 ⟨Nat.zero_le _, Nat.zero_le _⟩ hP hS hA (fun r_14 H locs er_14 hP hS => ?_)
                      rw [hpofr] at er_14
                      have er_14 : r_14 = -1 := er_14
                      subst er_14
                      refine lv_if_ge (tgt := 76) hx hb dX1_kernelAt_66 (by decide) (fun c_15 => ?_) (fun c_15 => ?_)
                      · exact absurd c_15 (by decide +kernel)
                      · refine lv_iload hx hb dX1_kernelAt_69 (lv_at hl 4 rfl) ?_
                        refine lv_iconst (v := nI 1) hx hb dX1_kernelAt_71 (by decide +kernel) ?_
                        refine nv_isub hx hb (by omega) dX1_kernelAt_72 ?_
                        refine lv_goto (tgt := 78) hx hb dX1_kernelAt_73 (by decide) ?_
                        refine lv_istore (lv' := [(4, .int (nI (lf - 1))), (0, .ref h), (1, .int (nI kk)), (2, .int (nI k1)), (3, .int (nI fr))]) hx hb dX1_kernelAt_78 hl (by decide) rfl (fun ls hl => ?_)
                        refine lv_iinc (v := nI (fr + 1)) (lv' := [(3, .int (nI (fr + 1))), (4, .int (nI (lf - 1))), (0, .ref h), (1, .int (nI kk)), (2, .int (nI k1))]) hx hb dX1_kernelAt_80 hl (k := 4) rfl (nv_inc fr 1) (by decide) rfl (fun ls hl => ?_)
                        refine lv_goto (tgt := 48) hx hb dX1_kernelAt_83 (by decide) ?_
                        have h91 : fr + 1 ≤ fc := by
                          rcases Nat.lt_or_ge fr fc with q | q
                          · omega
                          · have e9 : fr = fc := by omega
                            rw [e9] at hlf
                            omega
                        have h92 : lf - 1 + cnt (rowOf pc rk) (fr + 1) = kk := by
                          have e9 : cnt (rowOf pc rk) (fr + 1) = cnt (rowOf pc rk) fr + 1 := by simp [cnt, hpofr]
                          omega
                        exact ihL (fr + 1) (lf - 1) h91 h92 (by omega) ls _ _ (lv_sub hl [2, 3, 4, 0, 1] rfl) hP hD hS
                | some pi =>
                  rw [hpofr] at er_6
                  have er_6 : r_6 = nI pi := er_6
                  have hpi := Nat.lt_of_lt_of_le (rowOf_lt hpofr) hrm
                  subst er_6
                  refine nv_if_ge (tgt := 61) hx hb dX1_kernelAt_53 (by decide) (by omega) (fun c_16 => ?_) (fun c_16 => ?_)
                  · refine lv_aload_n hx hb dX1_kernelAt_61 rfl (lv_at hl 0 rfl) ?_
                    refine lv_iload_n hx hb dX1_kernelAt_62 rfl (lv_at hl 3 rfl) ?_
                    refine rdv_i S (c_X1_rowOf l D (pc := pc) fr hn (by omega) (by omega) hg hpc) (cwV 1 hts gX1_kernelAt_X1_rowOf rfl rfl rfl (by decide +kernel) ⟨Nat.le_of_ble_eq_true rfl, Nat.le_of_ble_eq_true rfl⟩) rfl hK hP (ci := 1) rfl rfl hl.1 (rest := []) rfl (Nat.le_of_ble_eq_true rfl) dX1_kernelAt_63 ⟨Nat.zero_le _, Nat.zero_le _⟩ hP hS hA (fun r_17 H locs er_17 hP hS => ?_)
                    rw [hpofr] at er_17
                    have er_17 : r_17 = nI pi := er_17
                    subst er_17
                    refine nv_if_ge (tgt := 76) hx hb dX1_kernelAt_66 (by decide) (by omega) (fun c_18 => ?_) (fun c_18 => ?_)
                    · refine lv_iload hx hb dX1_kernelAt_76 (lv_at hl 4 rfl) ?_
                      refine lv_istore (lv' := [(4, .int (nI lf)), (0, .ref h), (1, .int (nI kk)), (2, .int (nI k1)), (3, .int (nI fr))]) hx hb dX1_kernelAt_78 hl (by decide) rfl (fun ls hl => ?_)
                      refine lv_iinc (v := nI (fr + 1)) (lv' := [(3, .int (nI (fr + 1))), (4, .int (nI lf)), (0, .ref h), (1, .int (nI kk)), (2, .int (nI k1))]) hx hb dX1_kernelAt_80 hl (k := 4) rfl (nv_inc fr 1) (by decide) rfl (fun ls hl => ?_)
                      refine lv_goto (tgt := 48) hx hb dX1_kernelAt_83 (by decide) ?_
                      have h91 : fr + 1 ≤ fc := by
                        rcases Nat.lt_or_ge fr fc with q | q
                        · omega
                        · have e9 : fr = fc := by omega
                          rw [e9, hfn] at hpofr
                          cases hpofr
                      have h92 : lf + cnt (rowOf pc rk) (fr + 1) = kk := by
                        have e9 : cnt (rowOf pc rk) (fr + 1) = cnt (rowOf pc rk) fr := by simp [cnt, hpofr]
                        omega
                      exact ihL (fr + 1) lf h91 h92 (by omega) ls _ _ (lv_sub hl [2, 3, 4, 0, 1] rfl) hP hD hS
                    · exact absurd c_18 (Nat.not_lt_zero _)
                  · exact absurd c_16 (Nat.not_lt_zero _)
            exact L (fc + 1) 0 kk (by omega) rfl (by omega) ls _ _ (lv_sub hl [2, 3, 4, 1, 0] rfl) hP hD hS
          · refine lv_iconst (v := (-1)) hx hb dX1_kernelAt_41 (by decide +kernel) ?_
            exact hret ((-1)) () 42 ls _ _ dX1_kernelAt_42 (rfl) hP hD hS (by simp [sKer, inb_f (i := j) (m := nC) (out_row (by omega) (Or.inr (le_of_nlt c_5))) (show nC < 2 ^ 31 by omega)])
end
section
/-! the determinant by rows: sums over columns, over sets of columns -/
def sm : Nat → (Nat → Int) → Int
  | 0, _ => 0
  | n + 1, f => sm n f + f n
theorem sm_congr {f g : Nat → Int} : ∀ n, (∀ c, c < n → f c = g c) → sm n f = sm n g := by
  intro n
  induction n with
  | zero => intro _; rfl
  | succ n ih => intro h; simp only [sm]; rw [ih (fun c hc => h c (by omega)), h n (by omega)]
theorem sm_zero {f : Nat → Int} : ∀ n, (∀ c, c < n → f c = 0) → sm n f = 0 := by
  intro n
  induction n with
  | zero => intro _; rfl
  | succ n ih => intro h; simp only [sm]; rw [ih (fun c hc => h c (by omega)), h n (by omega)]; rfl
theorem sm_add (f g : Nat → Int) : ∀ n, sm n (fun c => f c + g c) = sm n f + sm n g := by
  intro n
  induction n with
  | zero => rfl
  | succ n ih => simp only [sm]; rw [ih]; omega
theorem sm_mul (x : Int) (f : Nat → Int) : ∀ n, sm n (fun c => x * f c) = x * sm n f := by
  intro n
  induction n with
  | zero => simp [sm]
  | succ n ih => simp only [sm]; rw [ih, Int.mul_add]
theorem sm_neg (f : Nat → Int) : ∀ n, sm n (fun c => - f c) = - sm n f := by
  intro n
  induction n with
  | zero => rfl
  | succ n ih => simp only [sm]; rw [ih]; omega
theorem sm_comm (f : Nat → Nat → Int) (k : Nat) : ∀ n, sm n (fun c => sm k (fun d => f c d)) = sm k (fun d => sm n (fun c => f c d)) := by
  intro n
  induction n with
  | zero => exact (sm_zero k (fun _ _ => rfl)).symm
  | succ n ih => simp only [sm]; rw [ih, ← sm_add]
theorem sm_anti {f : Nat → Nat → Int} {n : Nat} (h : ∀ c d, c < n → d < n → f c d = - f d c) : sm n (fun c => sm n (fun d => f c d)) = 0 := by
  have e1 := sm_comm f n n
  have e2 : sm n (fun d => sm n (fun c => f c d)) = - sm n (fun c => sm n (fun d => f c d)) := by
    rw [← sm_neg]
    refine sm_congr n (fun d hd => ?_)
    rw [← sm_neg]
    exact sm_congr n (fun c hc => h c d hc hd)
  omega
/-- the sum from column k on -/
def su (n : Nat) (f : Nat → Int) (k : Nat) : Int := sm n (fun c => if k ≤ c then f c else 0)
theorem su_0 (n : Nat) (f : Nat → Int) : su n f 0 = sm n f := sm_congr n (fun c _ => by simp)
theorem su_n {n : Nat} (f : Nat → Int) {k : Nat} (h : n ≤ k) : su n f k = 0 := sm_zero n (fun c hc => by rw [if_neg (by omega)])
theorem su_step (f : Nat → Int) {k : Nat} : ∀ n, k < n → su n f k = su n f (k + 1) + f k := by
  intro n
  induction n with
  | zero => intro h; omega
  | succ n ih =>
    intro h
    show su n f k + (if k ≤ n then f n else 0) = su n f (k + 1) + (if k + 1 ≤ n then f n else 0) + f k
    rcases Nat.lt_or_ge k n with q | q
    · rw [ih q, if_pos (by omega), if_pos (by omega)]
      omega
    · have e : k = n := by omega
      subst e
      rw [su_n f (Nat.le_refl _), su_n f (Nat.le_succ _), if_pos (Nat.le_refl _), if_neg (by omega)]
      omega
abbrev Cols : Type := Nat → Bool
/-- how many of a set's columns stand from k on -/
def cu (S : Cols) : Nat → Nat → Nat
  | 0, _ => 0
  | n + 1, k => cu S n k + (if k ≤ n ∧ S n = true then 1 else 0)
theorem cu_n {S : Cols} : ∀ n k, n ≤ k → cu S n k = 0 := by
  intro n
  induction n with
  | zero => intro k _; rfl
  | succ n ih => intro k h; simp only [cu]; rw [ih k (by omega), if_neg (by omega)]
theorem cu_step {S : Cols} {k : Nat} : ∀ n, k < n → cu S n k = cu S n (k + 1) + (if S k = true then 1 else 0) := by
  intro n
  induction n with
  | zero => intro h; omega
  | succ n ih =>
    intro h
    simp only [cu]
    rcases Nat.lt_or_ge k n with q | q
    · have h9 := ih q
      by_cases hs : S n = true
      · simp only [hs, and_true, show k ≤ n by omega, show k + 1 ≤ n by omega, if_true]
        omega
      · rw [if_neg (c := k ≤ n ∧ S n = true) (fun z => hs z.2), if_neg (c := k + 1 ≤ n ∧ S n = true) (fun z => hs z.2)]
        omega
    · have e : k = n := by omega
      subst e
      rw [cu_n k k (Nat.le_refl _), cu_n k (k + 1) (Nat.le_succ _)]
      by_cases hs : S k = true
      · rw [if_pos ⟨by omega, hs⟩, if_neg (by omega), if_pos hs]
      · rw [if_neg (fun z => hs z.2), if_neg (by omega), if_neg hs]
def del (S : Cols) (c : Nat) : Cols := fun j => S j && decide (j ≠ c)
theorem cu_del {S : Cols} {d : Nat} : ∀ n k, cu (del S d) n k + (if k ≤ d ∧ d < n ∧ S d = true then 1 else 0) = cu S n k := by
  intro n
  induction n with
  | zero => intro k; simp [cu]
  | succ n ih =>
    intro k
    have h9 := ih k
    have hd : del S d n = true ↔ S n = true ∧ n ≠ d := by simp [del]
    simp only [cu]
    by_cases e : n = d
    · subst e
      rw [if_neg (by omega)] at h9
      rw [if_neg (fun z => (hd.mp z.2).2 rfl)]
      by_cases hs : k ≤ n ∧ S n = true
      · rw [if_pos hs, if_pos ⟨hs.1, by omega, hs.2⟩]
        omega
      · rw [if_neg hs, if_neg (fun z => hs ⟨z.1, z.2.2⟩)]
        omega
    · have h8 : (k ≤ n ∧ del S d n = true) ↔ (k ≤ n ∧ S n = true) := by rw [hd]; exact ⟨fun z => ⟨z.1, z.2.1⟩, fun z => ⟨z.1, z.2, e⟩⟩
      have h7 : (k ≤ d ∧ d < n + 1 ∧ S d = true) ↔ (k ≤ d ∧ d < n ∧ S d = true) := ⟨fun z => ⟨z.1, by omega, z.2.2⟩, fun z => ⟨z.1, by omega, z.2.2⟩⟩
      simp only [h8, h7]
      omega
def sg (e : Nat) : Int := if e % 2 = 0 then 1 else -1
theorem sg_s (e : Nat) : sg (e + 1) = - sg e := by
  unfold sg
  by_cases h : e % 2 = 0
  · rw [if_neg (by omega), if_pos h]
  · rw [if_pos (by omega), if_neg h]
    rfl
abbrev MatZ : Type := Nat → Nat → Int
def DD (n : Nat) (A : MatZ) : Nat → Cols → Int
  | 0, _ => 1
  | r + 1, S => sm n (fun c => if S c = true then sg (cu S n (c + 1)) * A r c * DD n A r (del S c) else 0)
theorem DD_ext {n : Nat} {A B : MatZ} : ∀ r S, (∀ i, i < r → ∀ c, c < n → A i c = B i c) → DD n A r S = DD n B r S := by
  intro r
  induction r with
  | zero => intro S _; rfl
  | succ r ih =>
    intro S h
    simp only [DD]
    refine sm_congr n (fun c hc => ?_)
    rw [h r (by omega) c hc, ih (del S c) (fun i hi => h i (by omega))]
theorem cu_ext {S T : Cols} : ∀ n k, (∀ c, c < n → S c = T c) → cu S n k = cu T n k := by
  intro n
  induction n with
  | zero => intro k _; rfl
  | succ n ih => intro k h; simp only [cu]; rw [ih k (fun c hc => h c (by omega)), h n (by omega)]
theorem DD_extS {n : Nat} {A : MatZ} : ∀ r S T, (∀ c, c < n → S c = T c) → DD n A r S = DD n A r T := by
  intro r
  induction r with
  | zero => intro S T _; rfl
  | succ r ih =>
    intro S T h
    simp only [DD]
    refine sm_congr n (fun c hc => ?_)
    rw [h c hc, cu_ext n (c + 1) h, ih (del S c) (del T c) (fun j hj => by simp only [del]; rw [h j hj])]
/-- a row put in -/
def setR (A : MatZ) (i : Nat) (v : Nat → Int) : MatZ := fun a c => if a = i then v c else A a c
theorem DD_lin {n : Nat} {A : MatZ} {i : Nat} {x y : Int} {u v : Nat → Int} : ∀ r S, i < r → DD n (setR A i (fun c => x * u c + y * v c)) r S = x * DD n (setR A i u) r S + y * DD n (setR A i v) r S := by
  intro r
  induction r with
  | zero => intro S h; omega
  | succ r ih =>
    intro S h
    simp only [DD]
    rw [← sm_mul, ← sm_mul, ← sm_add]
    refine sm_congr n (fun c hc => ?_)
    by_cases hs : S c = true
    · rw [if_pos hs, if_pos hs, if_pos hs]
      rcases Nat.lt_or_ge i r with q | q
      · rw [ih (del S c) q]
        have e1 : ∀ w : Nat → Int, setR A i w r c = A r c := fun w => if_neg (by omega)
        rw [e1, e1, e1]
        grind
      · have e : i = r := by omega
        subst e
        have e0 : ∀ w w' : Nat → Int, DD n (setR A i w) i (del S c) = DD n (setR A i w') i (del S c) := fun w w' => DD_ext i _ (fun a ha d _ => by simp [setR, show a ≠ i by omega])
        rw [e0 (fun c => x * u c + y * v c) u, e0 v u]
        have e1 : ∀ w : Nat → Int, setR A i w i c = w c := fun w => if_pos rfl
        rw [e1, e1, e1]
        grind
    · rw [if_neg hs, if_neg hs, if_neg hs]
      simp
theorem del_comm (S : Cols) (c d : Nat) : del (del S c) d = del (del S d) c := by
  funext j
  simp only [del]
  cases S j <;> simp [Bool.and_comm]
theorem sg_pair {S : Cols} {n c d : Nat} (hc : S c = true) (hd : S d = true) (hcn : c < n) (hdn : d < n) (h : c < d) : sg (cu S n (c + 1)) * sg (cu (del S c) n (d + 1)) = - (sg (cu S n (d + 1)) * sg (cu (del S d) n (c + 1))) := by
  have e1 := cu_del (S := S) (d := c) n (d + 1)
  have e2 := cu_del (S := S) (d := d) n (c + 1)
  rw [if_neg (by omega)] at e1
  rw [if_pos ⟨by omega, hdn, hd⟩] at e2
  rw [← e2, sg_s, show cu (del S c) n (d + 1) = cu S n (d + 1) by omega]
  grind
theorem sg_pair' {S : Cols} {n c d : Nat} (hc : S c = true) (hd : S d = true) (hcn : c < n) (hdn : d < n) (h : c ≠ d) : sg (cu S n (c + 1)) * sg (cu (del S c) n (d + 1)) = - (sg (cu S n (d + 1)) * sg (cu (del S d) n (c + 1))) := by
  rcases Nat.lt_or_ge c d with q | q
  · exact sg_pair hc hd hcn hdn q
  · have := sg_pair hd hc hdn hcn (by omega)
    omega
theorem DD_adj {n : Nat} {A : MatZ} {k : Nat} (h : ∀ c, c < n → A (k + 1) c = A k c) : ∀ r S, k + 1 < r → DD n A r S = 0 := by
  intro r
  induction r with
  | zero => intro S q; omega
  | succ r ih =>
    intro S q
    simp only [DD]
    rcases Nat.lt_or_ge (k + 1) r with z | z
    · refine sm_zero n (fun c hc => ?_)
      split
      · rw [ih (del S c) z, Int.mul_zero]
      · rfl
    · have e : r = k + 1 := by omega
      subst e
      have e2 : sm n (fun c => if S c = true then sg (cu S n (c + 1)) * A (k + 1) c * DD n A (k + 1) (del S c) else 0) = sm n (fun c => sm n (fun d => if S c = true ∧ del S c d = true then sg (cu S n (c + 1)) * sg (cu (del S c) n (d + 1)) * (A k c * A k d) * DD n A k (del (del S c) d) else 0)) := by
        refine sm_congr n (fun c hc => ?_)
        by_cases hs : S c = true
        · rw [if_pos hs, h c hc]
          simp only [DD]
          rw [← sm_mul]
          refine sm_congr n (fun d hd => ?_)
          by_cases hs2 : del S c d = true
          · rw [if_pos hs2, if_pos ⟨hs, hs2⟩]
            grind
          · rw [if_neg hs2, if_neg (fun z => hs2 z.2), Int.mul_zero]
        · rw [if_neg hs]
          refine (sm_zero n (fun d hd => ?_)).symm
          rw [if_neg (fun z => hs z.1)]
      rw [e2]
      refine sm_anti (fun c d hc hd => ?_)
      by_cases hs : S c = true ∧ del S c d = true
      · have h2 : S d = true ∧ d ≠ c := by simpa [del] using hs.2
        have hs' : S d = true ∧ del S d c = true := ⟨h2.1, by simp [del, hs.1]; omega⟩
        rw [if_pos hs, if_pos hs', del_comm S d c]
        have := sg_pair' hs.1 h2.1 hc hd (by omega)
        grind
      · have hs' : ¬ (S d = true ∧ del S d c = true) := by
          intro z
          have z2 : S c = true ∧ c ≠ d := by simpa [del] using z.2
          exact hs ⟨z2.1, by simp [del, z.1]; omega⟩
        rw [if_neg hs, if_neg hs']
        rfl
end
section
/-! a prime by its divisors up to the root has none at all; powers modulo it -/
theorem pn_dvd {p d : Nat} (hp : PrimeN p) (hd : d ∣ p) (h1 : d < p) : d = 1 := by
  obtain ⟨e, he⟩ := hd
  have h2 := hp.1
  have hd0 : 0 < d := by
    rcases Nat.eq_zero_or_pos d with z | z
    · subst z
      omega
    · exact z
  have he0 : 0 < e := by
    rcases Nat.eq_zero_or_pos e with z | z
    · subst z
      omega
    · exact z
  have he1 : e ≠ 1 := by
    intro z
    subst z
    omega
  rcases Nat.lt_or_ge d 2 with z | z
  · omega
  · exfalso
    rcases Nat.le_total d e with q | q
    · refine hp.2 d z ?_ (by rw [he]; exact Nat.mul_mod_right d e)
      rw [he]
      exact Nat.mul_le_mul_left d q
    · refine hp.2 e (by omega) ?_ (by rw [he]; exact Nat.mul_mod_left d e)
      rw [he]
      exact Nat.mul_le_mul_right e q
theorem pn_cop {p k : Nat} (hp : PrimeN p) (h0 : 0 < k) (h1 : k < p) : Nat.Coprime p k := by
  have h2 : Nat.gcd p k ∣ p := Nat.gcd_dvd_left p k
  have h3 : Nat.gcd p k ≤ k := Nat.le_of_dvd h0 (Nat.gcd_dvd_right p k)
  exact pn_dvd hp h2 (by omega)
def ch : Nat → Nat → Nat
  | _, 0 => 1
  | 0, _ + 1 => 0
  | n + 1, k + 1 => ch n k + ch n (k + 1)
theorem ch_0 (n : Nat) : ch n 0 = 1 := by cases n <;> rfl
theorem ch_big : ∀ n k, n < k → ch n k = 0 := by
  intro n
  induction n with
  | zero => intro k h; cases k with
    | zero => omega
    | succ k => rfl
  | succ n ih => intro k h; cases k with
    | zero => omega
    | succ k => simp only [ch]; rw [ih k (by omega), ih (k + 1) (by omega)]
theorem ch_1 : ∀ n, ch n 1 = n := by
  intro n
  induction n with
  | zero => rfl
  | succ n ih => simp only [ch]; rw [show (0 : Nat) + 1 = 1 from rfl, ih]; omega
theorem ch_nn : ∀ n, ch n n = 1 := by
  intro n
  induction n with
  | zero => rfl
  | succ n ih => simp only [ch]; rw [ih, ch_big n (n + 1) (by omega)]
theorem ch_abs : ∀ n k, (k + 1) * ch (n + 1) (k + 1) = (n + 1) * ch n k := by
  intro n
  induction n with
  | zero =>
    intro k
    cases k with
    | zero => rfl
    | succ k => simp [ch]
  | succ n ih =>
    intro k
    cases k with
    | zero => rw [ch_1, ch_0]; omega
    | succ k =>
      have h1 := ih k
      have h2 := ih (k + 1)
      have e1 : ch (n + 1 + 1) (k + 1 + 1) = ch (n + 1) (k + 1) + ch (n + 1) (k + 1 + 1) := rfl
      have e2 : ch (n + 1) (k + 1) = ch n k + ch n (k + 1) := rfl
      rw [e1]
      have e3 : (k + 1 + 1) * (ch (n + 1) (k + 1) + ch (n + 1) (k + 1 + 1)) = (k + 1) * ch (n + 1) (k + 1) + ch (n + 1) (k + 1) + (k + 1 + 1) * ch (n + 1) (k + 1 + 1) := by grind
      rw [e3, h1, h2]
      have e4 : (n + 1 + 1) * ch (n + 1) (k + 1) = (n + 1) * (ch n k + ch n (k + 1)) + ch (n + 1) (k + 1) := by rw [← e2]; grind
      rw [e4]
      grind
theorem sm_shift (f : Nat → Int) : ∀ n, sm (n + 1) f = f 0 + sm n (fun k => f (k + 1)) := by
  intro n
  induction n with
  | zero => simp [sm]
  | succ n ih => rw [show sm (n + 1 + 1) f = sm (n + 1) f + f (n + 1) from rfl, ih]; simp only [sm]; omega
theorem binom (a : Int) : ∀ n, (a + 1) ^ n = sm (n + 1) (fun k => (ch n k : Int) * a ^ k) := by
  intro n
  induction n with
  | zero => simp [sm, ch]
  | succ n ih =>
    rw [Int.pow_succ, ih, sm_shift _ (n + 1)]
    have e1 : sm (n + 1) (fun k => (ch (n + 1) (k + 1) : Int) * a ^ (k + 1)) = sm (n + 1) (fun k => a * ((ch n k : Int) * a ^ k)) + sm (n + 1) (fun k => (ch n (k + 1) : Int) * a ^ (k + 1)) := by
      rw [← sm_add]
      refine sm_congr _ (fun k _ => ?_)
      rw [show ch (n + 1) (k + 1) = ch n k + ch n (k + 1) from rfl, Int.natCast_add, Int.pow_succ]
      grind
    rw [e1, sm_mul]
    have e2 : sm (n + 1) (fun k => (ch n (k + 1) : Int) * a ^ (k + 1)) = sm n (fun k => (ch n (k + 1) : Int) * a ^ (k + 1)) := by
      show sm n _ + (ch n (n + 1) : Int) * a ^ (n + 1) = _
      rw [ch_big n (n + 1) (by omega)]
      simp
    rw [e2]
    have e3 := sm_shift (fun k => (ch n k : Int) * a ^ k) n
    simp only [ch_0, Int.pow_zero] at e3 ⊢
    rw [e3]
    grind
theorem ch_dvd {p k : Nat} (hp : PrimeN p) (h0 : 0 < k) (h1 : k < p) : p ∣ ch p k := by
  obtain ⟨q, rfl⟩ : ∃ q, p = q + 1 := ⟨p - 1, by omega⟩
  obtain ⟨j, rfl⟩ : ∃ j, k = j + 1 := ⟨k - 1, by omega⟩
  have h := ch_abs q j
  have h2 : (q + 1) ∣ (j + 1) * ch (q + 1) (j + 1) := ⟨_, h⟩
  exact (pn_cop hp (by omega) h1).dvd_of_dvd_mul_left h2
theorem sm_dvd {d : Int} {f : Nat → Int} : ∀ n, (∀ k, k < n → d ∣ f k) → d ∣ sm n f := by
  intro n
  induction n with
  | zero => intro _; exact Int.dvd_zero d
  | succ n ih => intro h; exact Int.dvd_add (ih (fun k hk => h k (by omega))) (h n (by omega))
theorem fer {p : Nat} (hp : PrimeN p) : ∀ a : Nat, (p : Int) ∣ ((a : Int) ^ p - a) := by
  intro a
  have h2 := hp.1
  induction a with
  | zero =>
    obtain ⟨q, rfl⟩ : ∃ q, p = q + 1 := ⟨p - 1, by omega⟩
    simp [Int.pow_succ]
  | succ a ih =>
    have e := binom (a : Int) p
    obtain ⟨q, rfl⟩ : ∃ q, p = q + 1 := ⟨p - 1, by omega⟩
    rw [sm_shift, show sm (q + 1) (fun k => (ch (q + 1) (k + 1) : Int) * (a : Int) ^ (k + 1)) = sm q (fun k => (ch (q + 1) (k + 1) : Int) * (a : Int) ^ (k + 1)) + (ch (q + 1) (q + 1) : Int) * (a : Int) ^ (q + 1) from rfl, ch_0, ch_nn] at e
    have h3 : ((q + 1 : Nat) : Int) ∣ sm q (fun k => (ch (q + 1) (k + 1) : Int) * (a : Int) ^ (k + 1)) := sm_dvd q (fun k hk => Int.dvd_mul_of_dvd_left (Int.natCast_dvd_natCast.mpr (ch_dvd hp (by omega) (by omega))))
    have e5 : ((a + 1 : Nat) : Int) ^ (q + 1) - ((a + 1 : Nat) : Int) = sm q (fun k => (ch (q + 1) (k + 1) : Int) * (a : Int) ^ (k + 1)) + ((a : Int) ^ (q + 1) - a) := by
      rw [Int.natCast_add]
      show ((a : Int) + 1) ^ (q + 1) - ((a : Int) + 1) = _
      rw [e]
      grind
    rw [e5]
    exact Int.dvd_add h3 ih
theorem fermat {p x : Nat} (hp : PrimeN p) (h0 : 0 < x) (h1 : x < p) : x * (x ^ (p - 2) % p) % p = 1 := by
  have h2 := hp.1
  obtain ⟨q, rfl⟩ : ∃ q, p = q + 2 := ⟨p - 2, by omega⟩
  have h3 := fer hp x
  have e1 : (x : Int) ^ (q + 2) - x = (x : Int) * ((x : Int) ^ (q + 1) - 1) := by
    rw [Int.pow_succ]
    grind
  rw [e1] at h3
  have e2 : ((x : Int) ^ (q + 1) - 1) = ((x ^ (q + 1) - 1 : Nat) : Int) := by
    have : 1 ≤ x ^ (q + 1) := Nat.pos_of_ne_zero (fun z => by have := Nat.pow_eq_zero.mp z; omega)
    rw [Int.natCast_sub this, Int.natCast_pow]
    rfl
  rw [e2, ← Int.natCast_mul, Int.natCast_dvd_natCast] at h3
  have h4 : (q + 2) ∣ x ^ (q + 1) - 1 := (pn_cop hp h0 h1).dvd_of_dvd_mul_left h3
  have h5 : 1 ≤ x ^ (q + 1) := Nat.pos_of_ne_zero (fun z => by have := Nat.pow_eq_zero.mp z; omega)
  obtain ⟨k, hk⟩ := h4
  rw [show q + 2 - 2 = q by omega, Nat.mul_mod, Nat.mod_mod, ← Nat.mul_mod, Nat.mul_comm, ← Nat.pow_succ, show x ^ (q + 1) = 1 + (q + 2) * k by omega, Nat.add_mul_mod_self_left]
  exact Nat.mod_eq_of_lt (by omega)
end
section
/-! rows changed: what becomes of the determinant -/
def swZ (A : MatZ) (i j : Nat) : MatZ := fun a c => if a = i then A j c else if a = j then A i c else A a c
theorem DD_sw {n r i j : Nat} {S : Cols} (hij : i ≠ j) (hi : i < r) (hj : j < r) (E : ∀ B : MatZ, (∀ c, c < n → B i c = B j c) → DD n B r S = 0) (A : MatZ) : DD n (swZ A i j) r S = - DD n A r S := by
  have lp : ∀ p q : Nat → Int, setR (setR A i p) j q = setR (setR A j q) i p := by
    intro p q
    funext a c
    simp only [setR]
    by_cases h1 : a = j
    · subst h1
      simp [show ¬ a = i by omega]
    · simp [h1]
  have ez : ∀ p : Nat → Int, DD n (setR (setR A i p) j p) r S = 0 := fun p => E _ (fun c _ => by simp [setR])
  have h0 := ez (fun c => 1 * A i c + 1 * A j c)
  rw [DD_lin r S hj, lp, lp, DD_lin r S hi, DD_lin r S hi, ← lp, ← lp, ← lp, ← lp, ez, ez] at h0
  have e1 : DD n (setR (setR A i (A i)) j (A j)) r S = DD n A r S := DD_ext r S (fun a _ c _ => by
    simp only [setR]
    split
    · rename_i q; rw [q]
    · split
      · rename_i q; rw [q]
      · rfl)
  have e2 : DD n (setR (setR A i (A j)) j (A i)) r S = DD n (swZ A i j) r S := DD_ext r S (fun a _ c _ => by
    simp only [setR, swZ]
    by_cases h1 : a = j
    · subst h1
      simp [show ¬ a = i by omega]
    · simp [h1])
  rw [e1, e2] at h0
  omega
theorem DD_eqd {n r : Nat} {S : Cols} (i : Nat) : ∀ d, i + 1 + d < r → ∀ A : MatZ, (∀ c, c < n → A i c = A (i + 1 + d) c) → DD n A r S = 0 := by
  intro d
  induction d with
  | zero => intro h A hA; exact DD_adj (k := i) (fun c hc => (hA c hc).symm) r S h
  | succ d ih =>
    intro h A hA
    have h1 := DD_sw (n := n) (S := S) (i := i + 1 + d) (j := i + 1 + (d + 1)) (by omega) (by omega) h (fun B hB => DD_adj (k := i + 1 + d) (fun c hc => (hB c hc).symm) r S h) A
    have h2 := ih (by omega) (swZ A (i + 1 + d) (i + 1 + (d + 1))) (fun c hc => by
      simp only [swZ]
      rw [if_neg (by omega), if_neg (by omega), if_pos trivial]
      exact hA c hc)
    omega
theorem DD_same {n r i j : Nat} {S : Cols} (hij : i ≠ j) (hi : i < r) (hj : j < r) {A : MatZ} (h : ∀ c, c < n → A i c = A j c) : DD n A r S = 0 := by
  rcases Nat.lt_or_ge i j with q | q
  · exact DD_eqd i (j - i - 1) (by omega) A (by rw [show i + 1 + (j - i - 1) = j by omega]; exact h)
  · exact DD_eqd j (i - j - 1) (by omega) A (by rw [show j + 1 + (i - j - 1) = i by omega]; exact fun c hc => (h c hc).symm)
abbrev full : Cols := fun _ => true
abbrev det (n : Nat) (A : MatZ) : Int := DD n A n full
theorem dt_swap {n i j : Nat} (hij : i ≠ j) (hi : i < n) (hj : j < n) (A : MatZ) : det n (swZ A i j) = - det n A := DD_sw hij hi hj (fun _ hB => DD_same hij hi hj hB) A
theorem dt_scale {n i : Nat} (hi : i < n) (x : Int) (A : MatZ) : det n (fun a c => if a = i then x * A a c else A a c) = x * det n A := by
  have h := DD_lin (n := n) (A := A) (i := i) (x := x) (y := 0) (u := A i) (v := A i) n full hi
  have e1 : DD n (setR A i (fun c => x * A i c + 0 * A i c)) n full = det n (fun a c => if a = i then x * A a c else A a c) := DD_ext n full (fun a _ c _ => by
    simp only [setR]
    split
    · rename_i q; rw [q]; simp
    · rfl)
  have e2 : DD n (setR A i (A i)) n full = det n A := DD_ext n full (fun a _ c _ => by
    simp only [setR]
    split
    · rename_i q; rw [q]
    · rfl)
  rw [e1, e2] at h
  rw [h]
  simp
theorem dt_add {n i j : Nat} (hij : i ≠ j) (hi : i < n) (hj : j < n) (y : Int) (A : MatZ) : det n (fun a c => if a = i then A a c + y * A j c else A a c) = det n A := by
  have h := DD_lin (n := n) (A := A) (i := i) (x := 1) (y := y) (u := A i) (v := A j) n full hi
  have e1 : DD n (setR A i (fun c => 1 * A i c + y * A j c)) n full = det n (fun a c => if a = i then A a c + y * A j c else A a c) := DD_ext n full (fun a _ c _ => by
    simp only [setR]
    split
    · rename_i q; rw [q]; simp
    · rfl)
  have e2 : DD n (setR A i (A i)) n full = det n A := DD_ext n full (fun a _ c _ => by
    simp only [setR]
    split
    · rename_i q; rw [q]
    · rfl)
  have e3 : DD n (setR A i (A j)) n full = 0 := DD_same hij hi hj (fun c _ => by
    simp [setR])
  rw [e1, e2, e3] at h
  rw [h]
  simp
theorem dt_clr {n r : Nat} (hr : r < n) (y : Nat → Int) (A : MatZ) : ∀ k, k ≤ n → det n (fun a c => if a < k ∧ a ≠ r then A a c + y a * A r c else A a c) = det n A := by
  intro k
  induction k with
  | zero => intro _; exact DD_ext n full (fun a _ c _ => by simp)
  | succ k ih =>
    intro hk
    rw [← ih (by omega)]
    by_cases e : k = r
    · exact DD_ext n full (fun a _ c _ => by
        have : (a < k + 1 ∧ a ≠ r) ↔ (a < k ∧ a ≠ r) := by omega
        simp only [this])
    · rw [← dt_add (i := k) (j := r) e (by omega) hr (y k) (fun a c => if a < k ∧ a ≠ r then A a c + y a * A r c else A a c)]
      exact DD_ext n full (fun a _ c _ => by
        by_cases h1 : a = k
        · subst h1
          simp [e]
        · have : (a < k + 1 ∧ a ≠ r) ↔ (a < k ∧ a ≠ r) := by omega
          simp only [this, if_neg h1])
theorem dt_zero {n i : Nat} (hi : i < n) {A : MatZ} (h : ∀ c, c < n → A i c = 0) : det n A = 0 := by
  have e := dt_scale hi 0 A
  rw [← show det n A = det n (fun a c => if a = i then 0 * A a c else A a c) from DD_ext n full (fun a _ c hc => by
    split
    · rename_i q; rw [q, h c hc]; simp
    · rfl)] at e
  simpa using e
theorem dt_one {n : Nat} {A : MatZ} (h : ∀ i, i < n → ∀ c, c < n → A i c = if i = c then 1 else 0) : det n A = 1 := by
  have key : ∀ r, r ≤ n → DD n A r (fun j => decide (j < r)) = 1 := by
    intro r
    induction r with
    | zero => intro _; rfl
    | succ r ih =>
      intro hr
      simp only [DD]
      have e1 : sm n (fun c => if decide (c < r + 1) = true then sg (cu (fun j => decide (j < r + 1)) n (c + 1)) * A r c * DD n A r (del (fun j => decide (j < r + 1)) c) else 0) = sm n (fun c => if c = r then 1 else 0) := by
        refine sm_congr n (fun c hc => ?_)
        by_cases e : c = r
        · subst e
          rw [if_pos (by simp), if_pos rfl, h c hc c hc, if_pos rfl]
          have e2 : cu (fun j => decide (j < c + 1)) n (c + 1) = 0 := by
            have key2 : ∀ k, cu (fun j => decide (j < c + 1)) k (c + 1) = 0 := by
              intro k
              induction k with
              | zero => rfl
              | succ k ih2 => simp only [cu]; rw [ih2, if_neg]; simp
            exact key2 n
          have e3 : del (fun j => decide (j < c + 1)) c = (fun j => decide (j < c)) := by
            funext j
            simp only [del]
            rw [← Bool.decide_and]
            congr 1
            apply propext
            omega
          rw [e2, e3, ih (by omega)]
          rfl
        · rw [if_neg e, h r (by omega) c hc, if_neg (show ¬ r = c from fun q => e q.symm)]
          simp
      rw [e1]
      have key3 : ∀ k, sm k (fun c => if c = r then 1 else 0) = if r < k then 1 else 0 := by
        intro k
        induction k with
        | zero => rfl
        | succ k ih2 =>
          simp only [sm]
          rw [ih2]
          by_cases e : k = r
          · subst e
            simp
          · by_cases e2 : r < k
            · simp [e, e2, show r < k + 1 by omega]
            · simp [e, e2, show ¬ r < k + 1 by omega]
      rw [key3, if_pos (by omega)]
  rw [← key n (Nat.le_refl n)]
  exact DD_extS n _ _ (fun c hc => by simp [hc])
/-- modulo P -/
theorem md_add {P a b c d : Int} (h1 : a % P = b % P) (h2 : c % P = d % P) : (a + c) % P = (b + d) % P := by rw [Int.add_emod, h1, h2, ← Int.add_emod]
theorem md_mul {P a b c d : Int} (h1 : a % P = b % P) (h2 : c % P = d % P) : (a * c) % P = (b * d) % P := by rw [Int.mul_emod, h1, h2, ← Int.mul_emod]
theorem sm_md {P : Int} {f g : Nat → Int} : ∀ n, (∀ c, c < n → f c % P = g c % P) → sm n f % P = sm n g % P := by
  intro n
  induction n with
  | zero => intro _; rfl
  | succ n ih => intro h; exact md_add (ih (fun c hc => h c (by omega))) (h n (by omega))
theorem DD_md {P : Int} {n : Nat} {A B : MatZ} : ∀ r S, (∀ i, i < r → ∀ c, c < n → A i c % P = B i c % P) → DD n A r S % P = DD n B r S % P := by
  intro r
  induction r with
  | zero => intro S _; rfl
  | succ r ih =>
    intro S h
    simp only [DD]
    refine sm_md n (fun c hc => ?_)
    split
    · exact md_mul (md_mul rfl (h r (by omega) c hc)) (ih (del S c) (fun i hi => h i (by omega)))
    · rfl
abbrev zM (M : Mat) : MatZ := fun i c => (M i c : Int)
theorem zM_mod (P x : Nat) : ((x % P : Nat) : Int) % (P : Int) = (x : Int) % (P : Int) := by rw [Int.natCast_emod, Int.emod_emod_of_dvd _ (Int.dvd_refl _)]
/-- one step of the reduction keeps the product times the determinant -/
theorem det_step {P n c : Nat} {M : Mat} {r d F : Nat} (hp : PrimeN P) (hB : bnd P M) (hd : d < P) (hr : r < n) (hF : F < n) (hX : M F c ≠ 0) :
    (((if F = r then d else ng P d) * swp M F r r c % P : Nat) : Int) * det n (zM (clr P (scl P (swp M F r) r (swp M F r r c ^ (P - 2) % P)) r c)) % (P : Int) = (d : Int) * det n (zM M) % (P : Int) := by
  have h2 := hp.1
  have eX : swp M F r r c = M F c := by
    simp only [swp]
    split
    · rename_i q; rw [q]
    · rfl
  rw [eX]
  have hXP := hB F c
  have hferm := fermat hp (Nat.pos_of_ne_zero hX) hXP
  generalize M F c ^ (P - 2) % P = Y at hferm ⊢
  generalize M F c = X at hX hXP hferm ⊢
  -- the clearing
  have e3 : det n (zM (clr P (scl P (swp M F r) r Y) r c)) % (P : Int) = det n (zM (scl P (swp M F r) r Y)) % (P : Int) := by
    rw [← dt_clr hr (fun a => ((P - scl P (swp M F r) r Y a c : Nat) : Int)) (zM (scl P (swp M F r) r Y)) n (Nat.le_refl n)]
    refine DD_md n full (fun i hi k hk => ?_)
    simp only [zM, clr]
    by_cases e : i = r
    · rw [if_pos e, if_neg (fun z => z.2 e)]
    · rw [if_neg e, if_pos ⟨hi, e⟩, zM_mod]
      rw [Int.natCast_add, Int.natCast_mul]
  -- the multiplying
  have e2 : det n (zM (scl P (swp M F r) r Y)) % (P : Int) = ((Y : Int) * det n (zM (swp M F r))) % (P : Int) := by
    rw [← dt_scale hr (Y : Int) (zM (swp M F r))]
    refine DD_md n full (fun i hi k hk => ?_)
    simp only [zM, scl]
    split
    · rw [zM_mod, Int.natCast_mul, Int.mul_comm]
    · rfl
  -- the changing of places, with the sign
  have e1 : (((if F = r then d else ng P d : Nat) : Int) * det n (zM (swp M F r))) % (P : Int) = ((d : Int) * det n (zM M)) % (P : Int) := by
    by_cases e : F = r
    · subst e
      rw [if_pos rfl]
      have : det n (zM (swp M F F)) = det n (zM M) := DD_ext n full (fun a _ k _ => by
        simp only [zM, swp]
        split
        · rename_i q; rw [q]
        · rfl)
      rw [this]
    · rw [if_neg e]
      have e4 : det n (zM (swp M F r)) = - det n (zM M) := by
        rw [← dt_swap e hF hr (zM M)]
        exact DD_ext n full (fun a _ k _ => by
          simp only [zM, swp, swZ]
          split
          · rfl
          · split <;> rfl)
      rw [e4]
      unfold ng
      split
      · rename_i q
        subst q
        simp
      · rw [Int.natCast_sub (by omega)]
        have : ((P : Int) - (d : Int)) * - det n (zM M) = (d : Int) * det n (zM M) + (P : Int) * (- det n (zM M)) := by grind
        rw [this, Int.add_mul_emod_self_left]
  generalize (if F = r then d else ng P d) = d1 at e1 ⊢
  have hXY : ((X : Int) * (Y : Int)) % (P : Int) = 1 % (P : Int) := by
    rw [← Int.natCast_mul, ← Int.natCast_emod, hferm]
    rw [Int.emod_eq_of_lt (by omega) (by omega)]
    rfl
  have e5 : (((d1 * X % P : Nat) : Int) * det n (zM (clr P (scl P (swp M F r) r Y) r c))) % (P : Int) = ((d1 : Int) * (X : Int) * ((Y : Int) * det n (zM (swp M F r)))) % (P : Int) := by
    refine md_mul ?_ (e3.trans e2)
    rw [zM_mod, Int.natCast_mul]
  rw [e5]
  have e6 : (d1 : Int) * (X : Int) * ((Y : Int) * det n (zM (swp M F r))) = ((X : Int) * (Y : Int)) * ((d1 : Int) * det n (zM (swp M F r))) := by grind
  rw [e6, md_mul hXY e1]
  simp
theorem fnd_nz {M : Mat} {c : Nat} : ∀ k r, fnd M c k r < r + k → M (fnd M c k r) c ≠ 0 := by
  intro k
  induction k with
  | zero => intro r h; simp only [fnd] at h; omega
  | succ k ih =>
    intro r h
    simp only [fnd] at h ⊢
    split
    · rename_i e
      rw [if_pos e] at h
      exact ih (r + 1) (by omega)
    · assumption
theorem fnd_all {M : Mat} {c : Nat} : ∀ k r, ¬ fnd M c k r < r + k → ∀ i, r ≤ i → i < r + k → M i c = 0 := by
  intro k
  induction k with
  | zero => intro r _ i h1 h2; omega
  | succ k ih =>
    intro r h i h1 h2
    simp only [fnd] at h
    by_cases e : M r c = 0
    · rw [if_pos e] at h
      by_cases q : i = r
      · rw [q]; exact e
      · exact ih (r + 1) (by omega) i (by omega) (by omega)
    · rw [if_neg e] at h
      omega
/-- what the reduction of a square keeps -/
def dInv (P n : Nat) (A : Mat) (c : Nat) (q : RS) : Prop :=
  q.2.1 ≤ c ∧ ((q.2.2.1 : Int) * det n (zM q.1)) % (P : Int) = det n (zM A) % (P : Int) ∧ (∀ i, q.2.1 ≤ i → i < n → ∀ j, j < c → q.1 i j = 0) ∧ (q.2.1 = c → ∀ j, j < c → ∀ i, i < n → q.1 i j = if i = j then 1 else 0)
theorem dInv_step {P n c : Nat} {A : Mat} {q : RS} (hp : PrimeN P) (hc : c < n) (hB : bnd P q.1) (hd : q.2.2.1 < P) (h : dInv P n A c q) : dInv P n A (c + 1) (redS P n c q) := by
  obtain ⟨M, r, d, pc⟩ := q
  obtain ⟨h1, h2, h3, h4⟩ := h
  dsimp only at hB hd h1 h2 h3 h4
  have hP2 := hp.1
  by_cases hy : r < n ∧ fnd M c (n - r) r < n
  · have hnz := fnd_nz (M := M) (c := c) (n - r) r (by omega)
    have hle := fnd_le M c (n - r) r
    rw [redS_yes hy.1 rfl hy.2]
    generalize fnd M c (n - r) r = F at hy hnz hle ⊢
    have hst := det_step (c := c) (r := r) (d := d) hp hB hd hy.1 hy.2 hnz
    have eX : swp M F r r c = M F c := by
      simp only [swp]
      split
      · rename_i q; rw [q]
      · rfl
    have hferm := fermat hp (Nat.pos_of_ne_zero hnz) (hB F c)
    -- the columns before c in the rows from r on
    have hz : ∀ i, r ≤ i → i < n → ∀ j, j < c → swp M F r i j = 0 := by
      intro i hi hin j hj
      simp only [swp]
      split
      · exact h3 r (Nat.le_refl r) hy.1 j hj
      · split
        · exact h3 F hle.2 hy.2 j hj
        · exact h3 i hi hin j hj
    have hpc : scl P (swp M F r) r (swp M F r r c ^ (P - 2) % P) r c = 1 := by
      simp only [scl]
      rw [if_pos trivial, eX]
      exact hferm
    have hcl : ∀ i, i < n → clr P (scl P (swp M F r) r (swp M F r r c ^ (P - 2) % P)) r c i c = if i = r then 1 else 0 := by
      intro i hi
      simp only [clr]
      by_cases e : i = r
      · rw [if_pos e, if_pos e, e, hpc]
      · rw [if_neg e, if_neg e, hpc, Nat.mul_one]
        have := bn_scl (show 0 < P by omega) (bn_swp hB F r) r (swp M F r r c ^ (P - 2) % P) i c
        rw [show scl P (swp M F r) r (swp M F r r c ^ (P - 2) % P) i c + (P - scl P (swp M F r) r (swp M F r r c ^ (P - 2) % P) i c) = P by omega]
        exact Nat.mod_self P
    have hrz : ∀ j, j < c → scl P (swp M F r) r (swp M F r r c ^ (P - 2) % P) r j = 0 := by
      intro j hj
      simp only [scl]
      rw [if_pos trivial, hz r (Nat.le_refl r) hy.1 j hj]
      simp
    have hold : ∀ i j, i < n → j < c → clr P (scl P (swp M F r) r (swp M F r r c ^ (P - 2) % P)) r c i j = swp M F r i j := by
      intro i j hi hj
      by_cases e : i = r
      · subst e
        simp only [clr]
        rw [if_pos trivial, hrz j hj, hz i (Nat.le_refl i) hi j hj]
      · simp only [clr]
        rw [if_neg e, hrz j hj, Nat.mul_zero, Nat.add_zero]
        simp only [scl]
        rw [if_neg e]
        exact Nat.mod_eq_of_lt (bn_swp hB F r i j)
    refine ⟨by show r + 1 ≤ c + 1; omega, hst.trans h2, ?_, ?_⟩
    · intro i hi hin j hj
      have hi2 : r + 1 ≤ i := hi
      show clr P _ r c i j = 0
      rcases Nat.lt_or_ge j c with q | q
      · rw [hold i j hin q]
        exact hz i (by omega) hin j q
      · rw [show j = c by omega, hcl i hin, if_neg (by omega)]
    · intro hrc j hj i hi
      have hrc2 : r = c := by have : r + 1 = c + 1 := hrc; omega
      show clr P _ r c i j = _
      rcases Nat.lt_or_ge j c with q | q
      · rw [hold i j hi q]
        have h5 := h4 hrc2 j q
        simp only [swp]
        split
        · rename_i e
          rw [h3 r (Nat.le_refl r) hy.1 j q, if_neg (by omega)]
        · split
          · rename_i e
            rw [h3 F hle.2 hy.2 j q, if_neg (by omega)]
          · exact h5 i hi
      · have ej : j = c := by omega
        subst ej
        rw [hcl i hi, hrc2]
  · rw [redS_no (q := (M, r, d, pc)) hy]
    refine ⟨Nat.le_succ_of_le h1, h2, ?_, fun e => by have : r = c + 1 := e; omega⟩
    intro i hi hin j hj
    rcases Nat.lt_or_ge j c with q | q
    · exact h3 i hi hin j q
    · rw [show j = c by omega]
      have hi2 : r ≤ i := hi
      exact fnd_all (M := M) (c := c) (n - r) r (fun z => hy ⟨by omega, by omega⟩) i hi2 (by omega)
theorem dInv_all {P n : Nat} {A : Mat} (hp : PrimeN P) (hn : n ≤ 10) (hB : bnd P A) : ∀ c, c ≤ n → dInv P n A c (redN P n (q00 n A) c) := by
  intro c
  have h2 := hp.1
  induction c with
  | zero =>
    intro _
    refine ⟨Nat.le_refl 0, ?_, fun i _ _ j hj => absurd hj (Nat.not_lt_zero j), fun _ j hj => absurd hj (Nat.not_lt_zero j)⟩
    show ((1 : Nat) : Int) * det n (zM (G0 n A)) % (P : Int) = _
    rw [show det n (zM (G0 n A)) = det n (zM A) from DD_ext n full (fun i _ k hk => by simp only [zM]; rw [G0_A hk hn])]
    simp
  | succ c ih =>
    intro hc
    obtain ⟨-, hok2, hok3⟩ := redN_ok (P := P) (m := n) (q0 := q00 n A) (by omega) (Nat.zero_le _) (bn_G0 h2 hB) (show 1 < P by omega) c
    exact dInv_step hp (by omega) hok2 hok3 (ih (by omega))
/-- the product of the pivots is the determinant -/
theorem det_red {P n : Nat} {A : Mat} (hp : PrimeN P) (hn : n ≤ 10) (hB : bnd P A) : (((if (redN P n (q00 n A) n).2.1 < n then 0 else (redN P n (q00 n A) n).2.2.1 : Nat)) : Int) = det n (zM A) % (P : Int) := by
  have h2 := hp.1
  obtain ⟨h1, h3, h4, h5⟩ := dInv_all hp hn hB n (Nat.le_refl n)
  obtain ⟨hok1, hok2, hok3⟩ := redN_ok (P := P) (m := n) (q0 := q00 n A) (by omega) (Nat.zero_le _) (bn_G0 h2 hB) (show 1 < P by omega) n
  generalize redN P n (q00 n A) n = q at h1 h3 h4 h5 hok1 hok2 hok3 ⊢
  split
  · rename_i hlt
    rw [← h3, dt_zero (i := n - 1) (by omega) (fun c hc => by show ((q.1 (n - 1) c : Nat) : Int) = 0; rw [h4 (n - 1) (by omega) (by omega) c hc]; rfl)]
    simp
  · rename_i hlt
    have e : q.2.1 = n := by omega
    rw [← h3, dt_one (fun i hi c hc => by show ((q.1 i c : Nat) : Int) = _; rw [h5 e c hc i hi]; split <;> rfl), Int.mul_one, Int.emod_eq_of_lt (by omega) (by omega)]
end
section
/-! the reference's determinant: sums over sets of columns, the sets as bits -/
def tb (s : Nat) : Cols := fun j => decide (s / 2 ^ j % 2 = 1)
theorem tb_bit (s j : Nat) : tb s j = s.testBit j := by
  unfold tb
  rw [Nat.testBit_eq_decide_div_mod_eq]
def EE (P n : Nat) (A : Mat) (s : Nat) : Nat := (DD n (zM A) (cu (tb s) n 0) (tb s) % (P : Int)).toNat
theorem EE_c {P n : Nat} (h : 0 < P) (A : Mat) (s : Nat) : (EE P n A s : Int) = DD n (zM A) (cu (tb s) n 0) (tb s) % (P : Int) := Int.toNat_of_nonneg (Int.emod_nonneg _ (by omega))
theorem EE_lt {P n : Nat} (h : 0 < P) (A : Mat) (s : Nat) : EE P n A s < P := by
  have h1 := EE_c h A s (n := n)
  have h2 := Int.emod_lt_of_pos (DD n (zM A) (cu (tb s) n 0) (tb s)) (show (0 : Int) < (P : Int) by omega)
  omega
theorem cu_f {S : Cols} : ∀ n k, (∀ c, c < n → S c = false) → cu S n k = 0 := by
  intro n
  induction n with
  | zero => intro k _; rfl
  | succ n ih => intro k h; simp only [cu]; rw [ih k (fun c hc => h c (by omega)), h n (by omega), if_neg (by simp)]
theorem EE_0 {P n : Nat} (h : 2 ≤ P) (A : Mat) : EE P n A 0 = 1 := by
  have e : cu (tb 0) n 0 = 0 := cu_f n 0 (fun c _ => by simp [tb])
  unfold EE
  rw [e]
  show ((1 : Int) % (P : Int)).toNat = 1
  rw [Int.emod_eq_of_lt (by omega) (by omega)]
  rfl
theorem cu_le (S : Cols) (k : Nat) : ∀ n, cu S n k ≤ n := by
  intro n
  induction n with
  | zero => exact Nat.le_refl 0
  | succ n ih =>
    simp only [cu]
    split <;> omega
theorem tb_t {s k : Nat} (h : s / 2 ^ k % 2 = 1) : tb s k = true := by
  unfold tb
  exact decide_eq_true h
theorem tb_f {s k : Nat} (h : ¬ s / 2 ^ k % 2 = 1) : ¬ tb s k = true := by
  unfold tb
  rw [decide_eq_true_eq]
  exact h
theorem cu_tb (s k : Nat) : cu (tb s) k 0 + s / 2 ^ k % 2 = cu (tb s) (k + 1) 0 := by
  simp only [cu]
  by_cases h : s / 2 ^ k % 2 = 1
  · rw [if_pos ⟨Nat.zero_le _, tb_t h⟩, h]
  · rw [if_neg (fun z => tb_f h z.2)]
    omega
theorem cu_pos {S : Cols} {k n : Nat} (hk : k < n) (h : S k = true) : 1 ≤ cu S n 0 := by
  have key : ∀ j, j ≤ k → 1 ≤ cu S n j := by
    intro j hj
    have : ∀ d j, j + d = k → 1 ≤ cu S n j := by
      intro d
      induction d with
      | zero => intro j e; rw [show j = k by omega, cu_step n hk, if_pos h]; omega
      | succ d ih =>
        intro j e
        rw [cu_step n (by omega)]
        have := ih (j + 1) (by omega)
        omega
    exact this (k - j) j (by omega)
  exact key 0 (Nat.zero_le k)
theorem tb_pos {s : Nat} (h0 : 0 < s) : ∀ n, s < 2 ^ n → 1 ≤ cu (tb s) n 0 := by
  intro n
  induction n with
  | zero => intro h; simp at h; omega
  | succ n ih =>
    intro h
    rw [← cu_tb]
    rcases Nat.lt_or_ge s (2 ^ n) with q | q
    · have := ih q
      omega
    · have h1 : s / 2 ^ n = 1 := by
        rw [Nat.pow_succ] at h
        exact Nat.div_eq_of_lt_le (by omega) (by omega)
      rw [h1]
      omega
theorem tb_xor {s k : Nat} (h : tb s k = true) : tb (s ^^^ (1 * 2 ^ k)) = del (tb s) k := by
  funext j
  rw [Nat.one_mul, tb_bit, Nat.testBit_xor, Nat.testBit_two_pow, del, tb_bit]
  rw [tb_bit] at h
  by_cases e : k = j
  · subst e
    simp [h]
  · simp [e, show j ≠ k from fun q => e q.symm]
theorem xor_lt0 : ∀ k s : Nat, s / 2 ^ k % 2 = 1 → s ^^^ 2 ^ k < s := by
  intro k
  induction k with
  | zero =>
    intro s h
    rw [Nat.pow_zero, Nat.div_one] at h
    have h1 : (s ^^^ 2 ^ 0) / 2 = s / 2 ^^^ 2 ^ 0 / 2 := Nat.xor_div_two
    have h2 : ¬ (s ^^^ 2 ^ 0) % 2 = 1 := by
      rw [Nat.xor_mod_two_eq_one]
      simp [h]
    rw [show (2 : Nat) ^ 0 / 2 = 0 by decide, Nat.xor_zero] at h1
    rw [Nat.pow_zero] at h1 h2 ⊢
    omega
  | succ k ih =>
    intro s h
    have h1 : (s ^^^ 2 ^ (k + 1)) / 2 = s / 2 ^^^ 2 ^ (k + 1) / 2 := Nat.xor_div_two
    rw [show (2 : Nat) ^ (k + 1) / 2 = 2 ^ k by rw [Nat.pow_succ]; omega] at h1
    have h2 := ih (s / 2) (by rw [Nat.div_div_eq_div_mul, Nat.mul_comm, ← Nat.pow_succ]; exact h)
    omega
theorem xor_lt {s k : Nat} (h : s / 2 ^ k % 2 = 1) : s ^^^ (1 * 2 ^ k) < s := by
  rw [Nat.one_mul]
  exact xor_lt0 k s h
def FF (n : Nat) (A : Mat) (s : Nat) : Nat → Int := fun c => if tb s c = true then sg (cu (tb s) n (c + 1)) * zM A (cu (tb s) n 0 - 1) c * DD n (zM A) (cu (tb s) n 0 - 1) (del (tb s) c) else 0
theorem EE_s {P n : Nat} (h : 0 < P) {A : Mat} {s x : Nat} (h0 : 0 < s) (h1 : s < 2 ^ n) (hx : (x : Int) = su n (FF n A s) 0 % (P : Int)) : x = EE P n A s := by
  have h2 := tb_pos h0 n h1
  have e : (x : Int) = (EE P n A s : Int) := by
    rw [hx, EE_c h, su_0]
    have e3 : cu (tb s) n 0 = (cu (tb s) n 0 - 1) + 1 := by omega
    rw [show DD n (zM A) (cu (tb s) n 0) (tb s) = DD n (zM A) ((cu (tb s) n 0 - 1) + 1) (tb s) by rw [← e3]]
    rfl
  omega
theorem EE_x {P n : Nat} (h : 0 < P) {A : Mat} {s k : Nat} (hk : k < n) (hb : tb s k = true) : (EE P n A (s ^^^ (1 * 2 ^ k)) : Int) = DD n (zM A) (cu (tb s) n 0 - 1) (del (tb s) k) % (P : Int) := by
  rw [EE_c h, tb_xor hb]
  have h1 := cu_del (S := tb s) (d := k) n 0
  rw [if_pos ⟨Nat.zero_le _, hk, hb⟩] at h1
  rw [show cu (tb s) n 0 - 1 = cu (del (tb s) k) n 0 by omega]
theorem dp_no {n k s : Nat} {A : Mat} (hk : k < n) (hb : ¬ s / 2 ^ k % 2 = 1) : su n (FF n A s) k = su n (FF n A s) (k + 1) ∧ cu (tb s) n k = cu (tb s) n (k + 1) := by
  have h : ¬ tb s k = true := tb_f hb
  refine ⟨?_, ?_⟩
  · rw [su_step _ n hk]
    simp [FF, h]
  · rw [cu_step n hk, if_neg h]
    rfl
theorem dp_cu {n k s : Nat} (hk : k < n) (hb : s / 2 ^ k % 2 = 1) : cu (tb s) n k = cu (tb s) n (k + 1) + 1 := by
  rw [cu_step n hk, if_pos (tb_t hb)]
theorem dp_even {P n : Nat} (h : 0 < P) {A : Mat} {s k x : Nat} (hk : k < n) (hb : s / 2 ^ k % 2 = 1) (hx : (x : Int) = su n (FF n A s) (k + 1) % (P : Int)) (he : cu (tb s) n (k + 1) % 2 = 0) : (((x + A (cu (tb s) n 0 - 1) k * EE P n A (s ^^^ (1 * 2 ^ k)) % P) % P : Nat) : Int) = su n (FF n A s) k % (P : Int) := by
  have hb2 : tb s k = true := tb_t hb
  rw [su_step _ n hk, Int.natCast_emod, Int.natCast_add]
  refine md_add (by rw [hx, Int.emod_emod_of_dvd _ (Int.dvd_refl _)]) ?_
  rw [zM_mod, Int.natCast_mul, EE_x h hk hb2]
  simp only [FF]
  rw [if_pos hb2, sg, if_pos he, Int.one_mul]
  exact md_mul rfl (Int.emod_emod_of_dvd _ (Int.dvd_refl _))
theorem dp_odd {P n : Nat} (h : 0 < P) {A : Mat} {s k x : Nat} (hk : k < n) (hb : s / 2 ^ k % 2 = 1) (hx : (x : Int) = su n (FF n A s) (k + 1) % (P : Int)) (he : cu (tb s) n (k + 1) % 2 ≠ 0) : (((x + P - A (cu (tb s) n 0 - 1) k * EE P n A (s ^^^ (1 * 2 ^ k)) % P) % P : Nat) : Int) = su n (FF n A s) k % (P : Int) := by
  have hb2 : tb s k = true := tb_t hb
  have hlt := Nat.mod_lt (A (cu (tb s) n 0 - 1) k * EE P n A (s ^^^ (1 * 2 ^ k))) h
  rw [su_step _ n hk, Int.natCast_emod, Int.natCast_sub (by omega), Int.natCast_add]
  have e1 : (x : Int) + (P : Int) - ((A (cu (tb s) n 0 - 1) k * EE P n A (s ^^^ (1 * 2 ^ k)) % P : Nat) : Int) = ((x : Int) + -1 * ((A (cu (tb s) n 0 - 1) k * EE P n A (s ^^^ (1 * 2 ^ k)) % P : Nat) : Int)) + (P : Int) * 1 := by omega
  rw [e1, Int.add_mul_emod_self_left]
  refine md_add (by rw [hx, Int.emod_emod_of_dvd _ (Int.dvd_refl _)]) ?_
  simp only [FF]
  rw [if_pos hb2, sg, if_neg he, Int.mul_assoc]
  refine md_mul rfl ?_
  rw [zM_mod, Int.natCast_mul, EE_x h hk hb2]
  exact md_mul rfl (Int.emod_emod_of_dvd _ (Int.dvd_refl _))
theorem EE_full {P n : Nat} (h : 0 < P) {A : Mat} : (EE P n A (1 * 2 ^ n - 1) : Int) = det n (zM A) % (P : Int) := by
  have e : ∀ c, c < n → tb (1 * 2 ^ n - 1) c = true := fun c hc => by rw [tb_bit, Nat.one_mul, Nat.testBit_two_pow_sub_one]; simp [hc]
  have e2 : cu (tb (1 * 2 ^ n - 1)) n 0 = n := by
    have key : ∀ k, k ≤ n → cu (tb (1 * 2 ^ n - 1)) k 0 = k := by
      intro k
      induction k with
      | zero => intro _; rfl
      | succ k ih => intro hk; simp only [cu]; rw [ih (by omega), if_pos ⟨Nat.zero_le _, e k (by omega)⟩]
    exact key n (Nat.le_refl n)
  rw [EE_c h, e2, DD_extS n _ full (fun c hc => e c hc)]
theorem p2_le {k : Nat} (h : k ≤ 10) : 2 ^ k ≤ 1024 := Nat.pow_le_pow_right (n := 2) (by decide) h
theorem p2_pos (k : Nat) : 0 < 2 ^ k := Nat.pos_of_ne_zero (fun z => by have := Nat.pow_eq_zero.mp z; omega)
theorem dn_p {n : Nat} (h : 0 < n) : nI (n - 1) = dn n := by
  obtain ⟨k, rfl⟩ : ∃ k, n = k + 1 := ⟨n - 1, by omega⟩
  rw [dn_s]
  rfl
end
section
set_option maxHeartbeats 4000000 in
set_option maxRecDepth 100000 in
theorem c_X1_det (l : Launch) (D : va_G) {h b1 b2 b3 b4 b5 : Nat} {cJ cI : ClassId} {gA gB : Nat → Int64} {rd rk : Nat} {gR : Nat → Int64} {gP : Nat → Int32} {gS : Nat → Int64} {pj : Int64} {mi ni : Int32} {vd P mR nC : Nat} {M : Mat} {pc : Nat → Nat} {A0 : Mat} (hvd : vd < 2) (hV : vd ≠ 0 → MdV pj mi ni P mR nC) (hI : vd = 0 → mR = 0 ∧ nC = 0) (hrd : rd < 2) (hQ : rd ≠ 0 → vd ≠ 0 ∧ MdQ P mR nC rk gR gP M pc) (hAb : vd ≠ 0 → bnd P A0) (hA0 : ∀ a, a < mR → ∀ k, k < nC → gA (10 * a + k) = lN (A0 a k)) : WrI (U := Nat → Int64) l yX1_det wsX1_det ({ frames := 0, cells := 0, slots := 0, locals := 0 }) [.ref h] D (mdW h b1 b2 b3 b4 b5 cJ cI pj mi ni vd gA gB rd rk gR gP gS) [(cJ, .long), (cI, .int)] (fun r _ => r = if rd ≠ 0 ∧ mR = nC then nI (EE P nC A0 (1 * 2 ^ nC - 1)) else -1) (fun u => mdW h b1 b2 b3 b4 b5 cJ cI pj mi ni vd gA gB rd rk gR gP u) := by
  refine WrI.mk (cc := cX1_det) (maxL := 9) (rt := .int) (by decide) rfl (Nat.le_of_ble_eq_true rfl) ?_
  intro p e s mm args below meth c Q ls A S hK hP hD hA hS hl hret
  have hx := S.1
  have hb := S.2.1
  have hts := S.2.2.2.2
  have hown := S.2.2.2.1
  have hin : ∀ w ∈ wsX10, w ∈ wsX1_det := fun w h => List.mem_cons_of_mem _ (List.mem_append_right _ h)
  have hl : lv_has ls 9 [(0, .ref h)] := hl
  refine lv_aload_n hx hb dX1_det_0 rfl (lv_at hl 0 rfl) ?_
  refine lv_iconst (v := nI 0) hx hb dX1_det_1 (by decide +kernel) ?_
  refine x1_put S hin hK hP hD hS rfl 0 (by decide) rfl (by decide +kernel) rfl (ty := .int) (v := .int (nI 0)) rfl rfl rfl (Nat.le_of_ble_eq_true rfl) dX1_det_2 (fun H locs hP hD hS => ?_)
  have hP : va_P D vwCl (mdW h b1 b2 b3 b4 b5 cJ cI pj mi ni vd gA gB rd rk gR gP gS) H := hP
  have hD : va_D A (mdW h b1 b2 b3 b4 b5 cJ cI pj mi ni vd gA gB rd rk gR gP gS) := hD
  refine lv_aload_n hx hb dX1_det_5 rfl (lv_at hl 0 rfl) ?_
  refine x1_get S hin hK hP rfl 7 (by decide) rfl (by decide +kernel) (v := .int (nI rd)) rfl dX1_det_6 ?_
  refine nv_if_eq (tgt := 23) hx hb dX1_det_9 (by decide) (by omega) (fun c_1 => ?_) (fun c_1 => ?_)
  · refine lv_iconst (v := (-1)) hx hb dX1_det_23 (by decide +kernel) ?_
    exact hret ((-1)) gS 24 ls _ _ dX1_det_24 (rfl) hP hD hS (by
        rw [if_neg]
        simp [c_1])
  · have hrd0 : rd ≠ 0 := by omega
    obtain ⟨hV0, hM, hB, hrm, hrn, hg, hpc, hcnt⟩ := hQ hrd0
    have hV9 := hV hV0
    obtain ⟨rfl, rfl, rfl, hP2, hPl, hm1, hm, hn1, hn⟩ := hV9
    refine lv_aload_n hx hb dX1_det_12 rfl (lv_at hl 0 rfl) ?_
    refine x1_get S hin hK hP rfl 2 (by decide) rfl (by decide +kernel) (v := .int (nI mR)) rfl dX1_det_13 ?_
    refine lv_aload_n hx hb dX1_det_16 rfl (lv_at hl 0 rfl) ?_
    refine x1_get S hin hK hP rfl 3 (by decide) rfl (by decide +kernel) (v := .int (nI nC)) rfl dX1_det_17 ?_
    refine nv_icmp_eq (tgt := 25) hx hb dX1_det_20 (by decide) (by omega) (by omega) (fun c_2 => ?_) (fun c_2 => ?_)
    · refine lv_aload_n hx hb dX1_det_25 rfl (lv_at hl 0 rfl) ?_
      refine x1_get S hin hK hP rfl 11 (by decide) rfl (by decide +kernel) (v := .ref b5) rfl dX1_det_26 ?_
      refine lv_iconst (v := nI 0) hx hb dX1_det_29 (by decide +kernel) ?_
      refine lv_lconst (v := lN 1) hx hb dX1_det_30 rfl ?_
      refine nv_last hx hb hK hP hD hS 5 0 rfl rfl (by omega) (by decide) dX1_det_31 (fun H locs hP hD hS => ?_)
      have hP : va_P D vwCl (mdW h b1 b2 b3 b4 b5 cJ cI (lN P) (nI mR) (nI nC) vd gA gB rd rk gR gP (vp_updL gS 0 (lN 1))) H := hP
      have hD : va_D A (mdW h b1 b2 b3 b4 b5 cJ cI (lN P) (nI mR) (nI nC) vd gA gB rd rk gR gP (vp_updL gS 0 (lN 1))) := hD
      refine lv_iconst (v := nI 1) hx hb dX1_det_32 (by decide +kernel) ?_
      refine lv_istore_n (lv' := [(1, .int (nI 1)), (0, .ref h)]) hx hb dX1_det_33 rfl hl (by decide) rfl (fun ls hl => ?_)
      have hp2 := p2_le hn
      have hp0 := p2_pos nC
      have hP0 : 0 < P := by omega
      have hAb1 := hAb hV0
      have L : ∀ (nL : Nat) (g : Nat → Int64) (t : Nat), (1 ≤ t) → (t ≤ 2 ^ nC) → (∀ q, q < t → g q = lN (EE P nC A0 q)) → (2 ^ nC + 1 ≤ t + nL) → ∀ (ls : Array Slot) (H : Heap) (locs : List Loc), lv_has ls 9 [(0, .ref h), (1, .int (nI t))] → va_P D vwCl (mdW h b1 b2 b3 b4 b5 cJ cI (lN P) (nI mR) (nI nC) vd gA gB rd rk gR gP g) H → va_D A (mdW h b1 b2 b3 b4 b5 cJ cI (lN P) (nI mR) (nI nC) vd gA gB rd rk gR gP g) → va_S A s.heap H locs → W p l e ({ frames := 0, cells := 0, slots := 0, locals := 0 }) s mm args below meth c H locs 0 0 Q (F0 mm 34 ls []) := by
        intro nL
        induction nL with
        | zero => intro g t ht0 ht1 hs1 hfuel; exfalso; omega
        | succ nL ihL =>
          intro g t ht0 ht1 hs1 hfuel ls H locs hl hP hD hS
          refine lv_iload_n hx hb dX1_det_34 rfl (lv_at hl 1 rfl) ?_
          refine lv_iconst (v := nI 1) hx hb dX1_det_35 (by decide +kernel) ?_
          refine lv_aload_n hx hb dX1_det_36 rfl (lv_at hl 0 rfl) ?_
          refine x1_get S hin hK hP rfl 3 (by decide) rfl (by decide +kernel) (v := .int (nI nC)) rfl dX1_det_37 ?_
          refine nv_ishl hx hb (by omega) (by omega) dX1_det_40 ?_
          refine nv_icmp_ge (tgt := 182) hx hb dX1_det_41 (by decide) (by omega) (by omega) (fun c_3 => ?_) (fun c_3 => ?_)
          · refine lv_aload_n hx hb dX1_det_182 rfl (lv_at hl 0 rfl) ?_
            refine x1_get S hin hK hP rfl 11 (by decide) rfl (by decide +kernel) (v := .ref b5) rfl dX1_det_183 ?_
            refine lv_iconst (v := nI 1) hx hb dX1_det_186 (by decide +kernel) ?_
            refine lv_aload_n hx hb dX1_det_187 rfl (lv_at hl 0 rfl) ?_
            refine x1_get S hin hK hP rfl 3 (by decide) rfl (by decide +kernel) (v := .int (nI nC)) rfl dX1_det_188 ?_
            refine nv_ishl hx hb (by omega) (by omega) dX1_det_191 ?_
            refine lv_iconst (v := nI 1) hx hb dX1_det_192 (by decide +kernel) ?_
            refine nv_isub hx hb (by omega) dX1_det_193 ?_
            refine nv_lald hx hb hK hP 5 0 rfl rfl (v := lN (EE P nC A0 (1 * 2 ^ nC - 1))) (by omega) (by decide) (hs1 _ (by omega)) dX1_det_194 ?_
            refine lv_aload_n hx hb dX1_det_195 rfl (lv_at hl 0 rfl) ?_
            refine x1_get S hin hK hP rfl 1 (by decide) rfl (by decide +kernel) (v := .long (lN P)) rfl dX1_det_196 ?_
            refine nv_lrem hx hb (Nat.lt_trans (EE_lt hP0 A0 _) (by omega)) (by omega) (by omega) dX1_det_199 ?_
            refine nv_l2i hx hb dX1_det_200 ?_
            exact hret (nI ((EE P nC A0 (1 * 2 ^ nC - 1)) % P)) g 201 ls _ _ dX1_det_201 (rfl) hP hD hS (by
                rw [if_pos ⟨hrd0, c_2⟩, Nat.mod_eq_of_lt (EE_lt hP0 A0 _)])
          · refine lv_iconst (v := nI 0) hx hb dX1_det_44 (by decide +kernel) ?_
            refine lv_istore_n (lv' := [(2, .int (nI 0)), (0, .ref h), (1, .int (nI t))]) hx hb dX1_det_45 rfl hl (by decide) rfl (fun ls hl => ?_)
            refine lv_iconst (v := nI 0) hx hb dX1_det_46 (by decide +kernel) ?_
            refine lv_istore_n (lv' := [(3, .int (nI 0)), (2, .int (nI 0)), (0, .ref h), (1, .int (nI t))]) hx hb dX1_det_47 rfl hl (by decide) rfl (fun ls hl => ?_)
            have L1 : ∀ (nL1 : Nat) (rw1 : Nat) (k : Nat), (k ≤ nC) → (rw1 = cu (tb t) k 0) → (nC + 1 ≤ k + nL1) → ∀ (ls : Array Slot) (H : Heap) (locs : List Loc), lv_has ls 9 [(0, .ref h), (1, .int (nI t)), (2, .int (nI rw1)), (3, .int (nI k))] → va_P D vwCl (mdW h b1 b2 b3 b4 b5 cJ cI (lN P) (nI mR) (nI nC) vd gA gB rd rk gR gP g) H → va_D A (mdW h b1 b2 b3 b4 b5 cJ cI (lN P) (nI mR) (nI nC) vd gA gB rd rk gR gP g) → va_S A s.heap H locs → W p l e ({ frames := 0, cells := 0, slots := 0, locals := 0 }) s mm args below meth c H locs 0 0 Q (F0 mm 48 ls []) := by
              intro nL1
              induction nL1 with
              | zero => intro rw1 k hk hrw hfuel; exfalso; omega
              | succ nL1 ihL1 =>
                intro rw1 k hk hrw hfuel ls H locs hl hP hD hS
                refine lv_iload_n hx hb dX1_det_48 rfl (lv_at hl 3 rfl) ?_
                refine lv_aload_n hx hb dX1_det_49 rfl (lv_at hl 0 rfl) ?_
                refine x1_get S hin hK hP rfl 3 (by decide) rfl (by decide +kernel) (v := .int (nI nC)) rfl dX1_det_50 ?_
                refine nv_icmp_ge (tgt := 70) hx hb dX1_det_53 (by decide) (by omega) (by omega) (fun c_4 => ?_) (fun c_4 => ?_)
                · have hrw2 : rw1 = cu (tb t) nC 0 := by rw [hrw, show k = nC by omega]
                  refine lv_lconst (v := lN 0) hx hb dX1_det_70 rfl ?_
                  refine lv_lstore_n (lv' := [(3, .long (lN 0)), (0, .ref h), (1, .int (nI t)), (2, .int (nI rw1))]) hx hb dX1_det_71 rfl hl (by decide) rfl (fun ls hl => ?_)
                  refine lv_iconst (v := nI 0) hx hb dX1_det_72 (by decide +kernel) ?_
                  refine lv_istore (lv' := [(5, .int (nI 0)), (3, .long (lN 0)), (0, .ref h), (1, .int (nI t)), (2, .int (nI rw1))]) hx hb dX1_det_73 hl (by decide) rfl (fun ls hl => ?_)
                  refine lv_aload_n hx hb dX1_det_75 rfl (lv_at hl 2 rfl) ?_
                  refine x1_get S hin hK hP rfl 3 (by decide) rfl (by decide +kernel) (v := .int (nI nC)) rfl dX1_det_76 ?_
                  refine lv_iconst (v := nI 1) hx hb dX1_det_79 (by decide +kernel) ?_
                  refine nv_isub hx hb (by omega) dX1_det_80 ?_
                  refine lv_istore (lv' := [(6, .int (nI (nC - 1))), (5, .int (nI 0)), (3, .long (lN 0)), (0, .ref h), (1, .int (nI t)), (2, .int (nI rw1))]) hx hb dX1_det_81 hl (by decide) rfl (fun ls hl => ?_)
                  rw [dn_p (by omega)] at hl
                  have hrl := cu_le (tb t) 0 nC
                  have L2 : ∀ (nL2 : Nat) (sm1 : Nat) (bh : Nat) (j : Nat), (j ≤ nC) → (sm1 < P) → ((sm1 : Int) = su nC (FF nC A0 t) j % (P : Int)) → (bh = cu (tb t) nC j) → (j < nL2) → ∀ (ls : Array Slot) (H : Heap) (locs : List Loc), lv_has ls 9 [(0, .ref h), (1, .int (nI t)), (2, .int (nI rw1)), (3, .long (lN sm1)), (5, .int (nI bh)), (6, .int (dn j))] → va_P D vwCl (mdW h b1 b2 b3 b4 b5 cJ cI (lN P) (nI mR) (nI nC) vd gA gB rd rk gR gP g) H → va_D A (mdW h b1 b2 b3 b4 b5 cJ cI (lN P) (nI mR) (nI nC) vd gA gB rd rk gR gP g) → va_S A s.heap H locs → W p l e ({ frames := 0, cells := 0, slots := 0, locals := 0 }) s mm args below meth c H locs 0 0 Q (F0 mm 83 ls []) := by
                    intro nL2
                    induction nL2 with
                    | zero => intro sm1 bh j hj hsP hsum hbh hfuel; exfalso; omega
                    | succ nL2 ihL2 =>
                      intro sm1 bh j hj hsP hsum hbh hfuel ls H locs hl hP hD hS
                      refine lv_iload hx hb dX1_det_83 (lv_at hl 5 rfl) ?_
                      refine lv_if_lt (tgt := 169) hx hb dX1_det_85 (by decide) (fun c_5 => ?_) (fun c_5 => ?_)
                      · have hj0 := dn_lt (by omega) c_5
                        subst hj0
                        have hE := EE_s hP0 (by omega) (by omega) hsum
                        refine lv_aload_n hx hb dX1_det_169 rfl (lv_at hl 0 rfl) ?_
                        refine x1_get S hin hK hP rfl 11 (by decide) rfl (by decide +kernel) (v := .ref b5) rfl dX1_det_170 ?_
                        refine lv_iload_n hx hb dX1_det_173 rfl (lv_at hl 1 rfl) ?_
                        refine lv_lload_n hx hb dX1_det_174 rfl (lv_at hl 3 rfl) ?_
                        refine nv_last hx hb hK hP hD hS 5 0 rfl rfl (by omega) (by decide) dX1_det_175 (fun H locs hP hD hS => ?_)
                        have hP : va_P D vwCl (mdW h b1 b2 b3 b4 b5 cJ cI (lN P) (nI mR) (nI nC) vd gA gB rd rk gR gP (vp_updL g t (lN sm1))) H := hP
                        have hD : va_D A (mdW h b1 b2 b3 b4 b5 cJ cI (lN P) (nI mR) (nI nC) vd gA gB rd rk gR gP (vp_updL g t (lN sm1))) := hD
                        refine lv_iinc (v := nI (t + 1)) (lv' := [(1, .int (nI (t + 1))), (0, .ref h), (2, .int (nI rw1)), (3, .long (lN sm1)), (5, .int (nI bh)), (6, .int (dn 0))]) hx hb dX1_det_176 hl (k := 1) rfl (nv_inc t 1) (by decide) rfl (fun ls hl => ?_)
                        refine lv_goto (tgt := 34) hx hb dX1_det_179 (by decide) ?_
                        exact ihL (vp_updL g t (lN sm1)) (t + 1) (by omega) (by omega) (fun q hq => by unfold vp_updL; split; rename_i e; rw [e, hE]; exact hs1 q (by omega)) (by omega) ls _ _ (lv_sub hl [1, 0] rfl) hP hD hS
                      · obtain ⟨k, rfl⟩ := dn_ge c_5
                        rw [dn_s k] at hl
                        have hk2 := p2_le (show k ≤ 10 by omega)
                        have hbl := cu_le (tb t) (k + 1) nC
                        refine lv_iload_n hx hb dX1_det_88 rfl (lv_at hl 1 rfl) ?_
                        refine lv_iload hx hb dX1_det_89 (lv_at hl 5 rfl) ?_
                        refine nv_ishr hx hb (by omega) (by omega) dX1_det_91 ?_
                        refine lv_iconst (v := nI 1) hx hb dX1_det_92 (by decide +kernel) ?_
                        refine nv_iand1 hx hb (Nat.lt_of_le_of_lt (Nat.div_le_self _ _) (by omega)) dX1_det_93 ?_
                        refine lv_iconst (v := nI 1) hx hb dX1_det_94 (by decide +kernel) ?_
                        refine nv_icmp_ne (tgt := 163) hx hb dX1_det_95 (by decide) (by omega) (by decide) (fun c_6 => ?_) (fun c_6 => ?_)
                        · refine lv_iinc (v := dn k) (lv' := [(6, .int (dn k)), (0, .ref h), (1, .int (nI t)), (2, .int (nI rw1)), (3, .long (lN sm1)), (5, .int (nI bh))]) hx hb dX1_det_163 hl (k := 5) rfl rfl (by decide) rfl (fun ls hl => ?_)
                          refine lv_goto (tgt := 83) hx hb dX1_det_166 (by decide) ?_
                          exact ihL2 sm1 bh k (by omega) hsP (by rw [(dp_no (by omega) c_6).1]; exact hsum) (by rw [(dp_no (A := A0) (by omega) c_6).2]; exact hbh) (by omega) ls _ _ (lv_sub hl [1, 2, 3, 4, 5, 0] rfl) hP hD hS
                        · have hb2 := tb_t c_6
                          have hx1 := xor_lt c_6
                          have hcp := cu_pos (show k < nC by omega) hb2
                          subst hrw2
                          have hE1 := EE_lt hP0 A0 (n := nC) (t ^^^ (1 * 2 ^ k))
                          have hA1 := hAb1 (cu (tb t) nC 0 - 1) k
                          have hpl := Nat.mod_lt (A0 (cu (tb t) nC 0 - 1) k * EE P nC A0 (t ^^^ (1 * 2 ^ k))) hP0
                          refine lv_aload_n hx hb dX1_det_98 rfl (lv_at hl 0 rfl) ?_
                          refine x1_get S hin hK hP rfl 5 (by decide) rfl (by decide +kernel) (v := .ref b1) rfl dX1_det_99 ?_
                          refine lv_bipush (v := nI 10) hx hb dX1_det_102 (by decide +kernel) ?_
                          refine lv_iload_n hx hb dX1_det_104 rfl (lv_at hl 2 rfl) ?_
                          refine lv_iconst (v := nI 1) hx hb dX1_det_105 (by decide +kernel) ?_
                          refine nv_isub hx hb (by omega) dX1_det_106 ?_
                          refine nv_imul hx hb dX1_det_107 ?_
                          refine lv_iload hx hb dX1_det_108 (lv_at hl 5 rfl) ?_
                          refine nv_iadd hx hb dX1_det_110 ?_
                          refine nv_lald hx hb hK hP 1 0 rfl rfl (v := lN (A0 (cu (tb t) nC 0 - 1) k)) (by omega) (by decide) (hA0 _ (by omega) k (by omega)) dX1_det_111 ?_
                          refine lv_aload_n hx hb dX1_det_112 rfl (lv_at hl 0 rfl) ?_
                          refine x1_get S hin hK hP rfl 11 (by decide) rfl (by decide +kernel) (v := .ref b5) rfl dX1_det_113 ?_
                          refine lv_iload_n hx hb dX1_det_116 rfl (lv_at hl 1 rfl) ?_
                          refine lv_iconst (v := nI 1) hx hb dX1_det_117 (by decide +kernel) ?_
                          refine lv_iload hx hb dX1_det_118 (lv_at hl 5 rfl) ?_
                          refine nv_ishl hx hb (by omega) (by omega) dX1_det_120 ?_
                          refine nv_ixor hx hb dX1_det_121 ?_
                          refine nv_lald hx hb hK hP 5 0 rfl rfl (v := lN (EE P nC A0 (t ^^^ (1 * 2 ^ k)))) (by omega) (by decide) (hs1 _ hx1) dX1_det_122 ?_
                          refine nv_lmul hx hb dX1_det_123 ?_
                          refine lv_aload_n hx hb dX1_det_124 rfl (lv_at hl 0 rfl) ?_
                          refine x1_get S hin hK hP rfl 1 (by decide) rfl (by decide +kernel) (v := .long (lN P)) rfl dX1_det_125 ?_
                          refine nv_lrem hx hb (mul_b (by omega) (by omega)) (by omega) (by omega) dX1_det_128 ?_
                          refine lv_lstore (lv' := [(7, .long (lN (((A0 (cu (tb t) nC 0 - 1) k) * (EE P nC A0 (t ^^^ (1 * 2 ^ k)))) % P))), (0, .ref h), (1, .int (nI t)), (2, .int (nI (cu (tb t) nC 0))), (3, .long (lN sm1)), (5, .int (nI bh)), (6, .int (nI k))]) hx hb dX1_det_129 hl (by decide) rfl (fun ls hl => ?_)
                          refine lv_iload hx hb dX1_det_131 (lv_at hl 5 rfl) ?_
                          refine lv_iconst (v := nI 2) hx hb dX1_det_133 (by decide +kernel) ?_
                          refine nv_irem hx hb (by omega) (by decide) (by decide) dX1_det_134 ?_
                          refine nv_if_ne (tgt := 145) hx hb dX1_det_135 (by decide) (by omega) (fun c_7 => ?_) (fun c_7 => ?_)
                          · refine lv_lload_n hx hb dX1_det_145 rfl (lv_at hl 4 rfl) ?_
                            refine lv_aload_n hx hb dX1_det_146 rfl (lv_at hl 1 rfl) ?_
                            refine x1_get S hin hK hP rfl 1 (by decide) rfl (by decide +kernel) (v := .long (lN P)) rfl dX1_det_147 ?_
                            refine nv_ladd hx hb dX1_det_150 ?_
                            refine lv_lload hx hb dX1_det_151 (lv_at hl 0 rfl) ?_
                            refine nv_lsub hx hb (by omega) dX1_det_153 ?_
                            refine lv_aload_n hx hb dX1_det_154 rfl (lv_at hl 1 rfl) ?_
                            refine x1_get S hin hK hP rfl 1 (by decide) rfl (by decide +kernel) (v := .long (lN P)) rfl dX1_det_155 ?_
                            refine nv_lrem hx hb (by omega) (by omega) (by omega) dX1_det_158 ?_
                            refine lv_lstore_n (lv' := [(3, .long (lN (((sm1 + P) - (((A0 (cu (tb t) nC 0 - 1) k) * (EE P nC A0 (t ^^^ (1 * 2 ^ k)))) % P)) % P))), (7, .long (lN (((A0 (cu (tb t) nC 0 - 1) k) * (EE P nC A0 (t ^^^ (1 * 2 ^ k)))) % P))), (0, .ref h), (1, .int (nI t)), (2, .int (nI (cu (tb t) nC 0))), (5, .int (nI bh)), (6, .int (nI k))]) hx hb dX1_det_159 rfl hl (by decide) rfl (fun ls hl => ?_)
                            refine lv_iinc (v := nI (bh + 1)) (lv' := [(5, .int (nI (bh + 1))), (3, .long (lN (((sm1 + P) - (((A0 (cu (tb t) nC 0 - 1) k) * (EE P nC A0 (t ^^^ (1 * 2 ^ k)))) % P)) % P))), (7, .long (lN (((A0 (cu (tb t) nC 0 - 1) k) * (EE P nC A0 (t ^^^ (1 * 2 ^ k)))) % P))), (0, .ref h), (1, .int (nI t)), (2, .int (nI (cu (tb t) nC 0))), (6, .int (nI k))]) hx hb dX1_det_160 hl (k := 5) rfl (nv_inc bh 1) (by decide) rfl (fun ls hl => ?_)
                            refine lv_iinc (v := dn k) (lv' := [(6, .int (dn k)), (5, .int (nI (bh + 1))), (3, .long (lN (((sm1 + P) - (((A0 (cu (tb t) nC 0 - 1) k) * (EE P nC A0 (t ^^^ (1 * 2 ^ k)))) % P)) % P))), (7, .long (lN (((A0 (cu (tb t) nC 0 - 1) k) * (EE P nC A0 (t ^^^ (1 * 2 ^ k)))) % P))), (0, .ref h), (1, .int (nI t)), (2, .int (nI (cu (tb t) nC 0)))]) hx hb dX1_det_163 hl (k := 6) rfl rfl (by decide) rfl (fun ls hl => ?_)
                            refine lv_goto (tgt := 83) hx hb dX1_det_166 (by decide) ?_
                            exact ihL2 ((sm1 + P - A0 (cu (tb t) nC 0 - 1) k * EE P nC A0 (t ^^^ (1 * 2 ^ k)) % P) % P) (bh + 1) k (by omega) (Nat.mod_lt _ hP0) (dp_odd hP0 (by omega) c_6 hsum (by rw [← hbh]; exact c_7)) (by rw [dp_cu (by omega) c_6, hbh]) (by omega) ls _ _ (lv_sub hl [4, 5, 6, 2, 1, 0] rfl) hP hD hS
                          · refine lv_lload_n hx hb dX1_det_138 rfl (lv_at hl 4 rfl) ?_
                            refine lv_lload hx hb dX1_det_139 (lv_at hl 0 rfl) ?_
                            refine nv_ladd hx hb dX1_det_141 ?_
                            refine lv_goto (tgt := 154) hx hb dX1_det_142 (by decide) ?_
                            refine lv_aload_n hx hb dX1_det_154 rfl (lv_at hl 1 rfl) ?_
                            refine x1_get S hin hK hP rfl 1 (by decide) rfl (by decide +kernel) (v := .long (lN P)) rfl dX1_det_155 ?_
                            refine nv_lrem hx hb (by omega) (by omega) (by omega) dX1_det_158 ?_
                            refine lv_lstore_n (lv' := [(3, .long (lN ((sm1 + (((A0 (cu (tb t) nC 0 - 1) k) * (EE P nC A0 (t ^^^ (1 * 2 ^ k)))) % P)) % P))), (7, .long (lN (((A0 (cu (tb t) nC 0 - 1) k) * (EE P nC A0 (t ^^^ (1 * 2 ^ k)))) % P))), (0, .ref h), (1, .int (nI t)), (2, .int (nI (cu (tb t) nC 0))), (5, .int (nI bh)), (6, .int (nI k))]) hx hb dX1_det_159 rfl hl (by decide) rfl (fun ls hl => ?_)
                            refine lv_iinc (v := nI (bh + 1)) (lv' := [(5, .int (nI (bh + 1))), (3, .long (lN ((sm1 + (((A0 (cu (tb t) nC 0 - 1) k) * (EE P nC A0 (t ^^^ (1 * 2 ^ k)))) % P)) % P))), (7, .long (lN (((A0 (cu (tb t) nC 0 - 1) k) * (EE P nC A0 (t ^^^ (1 * 2 ^ k)))) % P))), (0, .ref h), (1, .int (nI t)), (2, .int (nI (cu (tb t) nC 0))), (6, .int (nI k))]) hx hb dX1_det_160 hl (k := 5) rfl (nv_inc bh 1) (by decide) rfl (fun ls hl => ?_)
                            refine lv_iinc (v := dn k) (lv' := [(6, .int (dn k)), (5, .int (nI (bh + 1))), (3, .long (lN ((sm1 + (((A0 (cu (tb t) nC 0 - 1) k) * (EE P nC A0 (t ^^^ (1 * 2 ^ k)))) % P)) % P))), (7, .long (lN (((A0 (cu (tb t) nC 0 - 1) k) * (EE P nC A0 (t ^^^ (1 * 2 ^ k)))) % P))), (0, .ref h), (1, .int (nI t)), (2, .int (nI (cu (tb t) nC 0)))]) hx hb dX1_det_163 hl (k := 6) rfl rfl (by decide) rfl (fun ls hl => ?_)
                            refine lv_goto (tgt := 83) hx hb dX1_det_166 (by decide) ?_
                            exact ihL2 ((sm1 + A0 (cu (tb t) nC 0 - 1) k * EE P nC A0 (t ^^^ (1 * 2 ^ k)) % P) % P) (bh + 1) k (by omega) (Nat.mod_lt _ hP0) (dp_even hP0 (by omega) c_6 hsum (by rw [← hbh]; exact c_7)) (by rw [dp_cu (by omega) c_6, hbh]) (by omega) ls _ _ (lv_sub hl [4, 5, 6, 2, 1, 0] rfl) hP hD hS
                  exact L2 (nC + 1) 0 0 nC (by omega) (by omega) (by rw [su_n _ (Nat.le_refl _)]; simp) (by rw [cu_n _ _ (Nat.le_refl _)]) (by omega) ls _ _ (lv_sub hl [3, 4, 5, 2, 1, 0] rfl) hP hD hS
                · refine lv_iload_n hx hb dX1_det_56 rfl (lv_at hl 2 rfl) ?_
                  refine lv_iload_n hx hb dX1_det_57 rfl (lv_at hl 1 rfl) ?_
                  refine lv_iload_n hx hb dX1_det_58 rfl (lv_at hl 3 rfl) ?_
                  refine nv_ishr hx hb (by omega) (by omega) dX1_det_59 ?_
                  refine lv_iconst (v := nI 1) hx hb dX1_det_60 (by decide +kernel) ?_
                  refine nv_iand1 hx hb (Nat.lt_of_le_of_lt (Nat.div_le_self _ _) (by omega)) dX1_det_61 ?_
                  refine nv_iadd hx hb dX1_det_62 ?_
                  refine lv_istore_n (lv' := [(2, .int (nI (rw1 + ((t / 2 ^ k) % 2)))), (0, .ref h), (1, .int (nI t)), (3, .int (nI k))]) hx hb dX1_det_63 rfl hl (by decide) rfl (fun ls hl => ?_)
                  refine lv_iinc (v := nI (k + 1)) (lv' := [(3, .int (nI (k + 1))), (2, .int (nI (rw1 + ((t / 2 ^ k) % 2)))), (0, .ref h), (1, .int (nI t))]) hx hb dX1_det_64 hl (k := 3) rfl (nv_inc k 1) (by decide) rfl (fun ls hl => ?_)
                  refine lv_goto (tgt := 48) hx hb dX1_det_67 (by decide) ?_
                  exact ihL1 (rw1 + t / 2 ^ k % 2) (k + 1) (by omega) (by rw [hrw]; exact cu_tb t k) (by omega) ls _ _ (lv_sub hl [2, 3, 1, 0] rfl) hP hD hS
            exact L1 (nC + 1) 0 0 (by omega) rfl (by omega) ls _ _ (lv_sub hl [2, 3, 1, 0] rfl) hP hD hS
      exact L (2 ^ nC + 1) (vp_updL gS 0 (lN 1)) 1 (by omega) (by omega) (fun q hq => by rw [show q = 0 by omega, EE_0 hP2]; exact pk_uLs) (by omega) ls _ _ (lv_sub hl [1, 0] rfl) hP hD hS
    · refine lv_iconst (v := (-1)) hx hb dX1_det_23 (by decide +kernel) ?_
      exact hret ((-1)) gS 24 ls _ _ dX1_det_24 (rfl) hP hD hS (by
          rw [if_neg]
          simp [c_2])
end
section
/-! constructors -/
def MkV {U : Type} (l : Launch) (y : MethodName) (ws : List Cond) (rm : Room) (av : List Value) (D : va_G) (w : va_W) (mc ms : Nat) (post : U → Prop) (w' : U → va_W) (tys' : U → List (ClassId × FieldType)) : Prop :=
  ∀ sz : Nat, Met l y ws rm (PcW D w [] av sz) (va_Qv post (fun u t => va_P D vwCl (w' u) t.heap ∧ va_D (va_A w sz) (w' u) ∧ va_K D vwCl (tys' u) t) (va_A w sz)) mc ms (va_A w sz)
theorem MkV.mk {U : Type} {l : Launch} {y : MethodName} {ws ws' : List Cond} {rm : Room} {av : List Value} {D : va_G} {w : va_W} {mc ms : Nat} {post : U → Prop} {w' : U → va_W} {tys' : U → List (ClassId × FieldType)} {cc : ByteArray} {maxL : Nat} (hy : plainName y.cls = true) (hyi : y.name = "<init>") (hw : ws = Cond.code y cc maxL none :: ws') (hav : (lg_sl av).length ≤ maxL)
    (body : ∀ (p : Program) (e : Env) (s : State) (mm : MethodId) (args : Array Value) (below : List Frame) (meth : Method) (c : Code) (Q : State → Prop) (ls : Array Slot) (A : Nat → Prop), CallFix p mm c cc maxL s args ws y.cls → meth.name = "<init>" → va_K D vwCl [] s → va_P D vwCl w s.heap → va_D A w → (∀ q, s.heap.size ≤ q → A q) → va_S A s.heap s.heap [] → lv_has ls maxL (lv_args 0 av) →
      (∀ (u : U) (pc : Nat) (ls : Array Slot) (H : Heap) (locs : List Loc), decode cc pc = .ok (.return_, 1) → va_P D vwCl (w' u) H → va_D A (w' u) → va_K D vwCl (tys' u) s → va_S A s.heap H locs → post u → W p l e rm s mm args below meth c H locs mc ms Q (F0 mm pc ls [])) →
      W p l e rm s mm args below meth c s.heap [] 0 0 Q (F0 mm 0 ls [])) : MkV l y ws rm av D w mc ms post w' tys' := by
  intro sz
  refine Met.ofW (cc := cc) (maxL := maxL) (ret := none) hy hw ?_
  intro p e s m args below meth c s₁ B hml hv
  obtain ⟨rfl, hsz, hP, hK, hD⟩ := hv
  subst hsz
  have hts := atoms_spec (ws := ws) B.pre
  have hlocks := B.notSynchronized
  have hin : meth.name = "<init>" := (name_of_methodNamed B.named B.method).1.trans hyi
  have hl := lv_entry av (n := maxL) hav
  rw [lg_entry_eq]
  generalize (lg_sl av ++ List.replicate (maxL - (lg_sl av).length) Slot.unset).toArray = ls at hl ⊢
  refine body p e s m _ below meth c _ ls (va_A w s.heap.size) ⟨B.exec, B.bytes, hml, findClass_of_methodNamed B.named, hts⟩ hin hK hP (hD.self) (fun q h => Or.inr h) va_S.rf hl ?_
  intro u pc ls H locs hd hP1 hD1 hK1 hS hpost
  exact W.vret B.exec B.bytes B.returns (fun t ht hW => ⟨⟨u, rfl, hpost, by rw [ht]; exact hP1, hD1, va_K.moved hW.alike hK1⟩, hS.F ht⟩) hS.2.2 hd
theorem K_eq {D : va_G} {tys : List (ClassId × FieldType)} {s : State} {c1 c2 : ClassId} (h : va_K D vwCl tys s) (i j : Nat) (h1 : tys[i]? = some (c1, .int)) (h2 : tys[j]? = some (c2, .int)) : c1 = c2 := by
  have e1 : s.vm.findClass ("[" ++ FieldType.int.toString) = some c1 := (h.2 i _ h1).2
  have e2 : s.vm.findClass ("[" ++ FieldType.int.toString) = some c2 := (h.2 j _ h2).2
  exact Option.some.inj (e1.symm.trans e2)
theorem K_eqL {D : va_G} {tys : List (ClassId × FieldType)} {s : State} {c1 c2 : ClassId} (h : va_K D vwCl tys s) (i j : Nat) (h1 : tys[i]? = some (c1, .long)) (h2 : tys[j]? = some (c2, .long)) : c1 = c2 := by
  have e1 : s.vm.findClass ("[" ++ FieldType.long.toString) = some c1 := (h.2 i _ h1).2
  have e2 : s.vm.findClass ("[" ++ FieldType.long.toString) = some c2 := (h.2 j _ h2).2
  exact Option.some.inj (e1.symm.trans e2)
section GPF
variable {p : Program} {l : Launch} {e : Env} {R : Room} {s : State} {m : MethodId} {args : Array Value} {below : List Frame} {meth : Method} {c : Code} {H H0 : Heap} {locs : List Loc} {cells slots : Nat} {Q : State → Prop} {cc : ByteArray} {pc nL index : Nat} {ls : Array Slot} {D : va_G} {w : va_W} {tys : List (ClassId × FieldType)} {a : Nat} {fs : List Value} {A : Nat → Prop} {Ts : List Cond} {rest : List Value} {v : Value}
theorem x0_putF (S : CallFix p m c cc nL s args Ts RX0) (hin : ∀ w ∈ wsX00, w ∈ Ts) (hin2 : meth.name = "<init>") (hK : va_K D vwCl tys s) (hP : va_P D vwCl w H) (hD : va_D A w) (hS : va_S A H0 H locs) (he : w[0]? = some (a, .inr (0, fs))) (k : Nat) (hk : k < 11) (h1 : (TX0 k).1 = "PrimeBench") (hl : Cond.fieldLink RX0 index "PrimeBench" (TX0 k).2.1 (TX0 k).2.2.1 ∈ Ts) (hfin : (TX0 k).2.2.2 = true) {ty : FieldType} (hd : parseFieldDescriptor (TX0 k).2.2.1 = some ty) (hn : narrow ty v = v) (hfit : fits ty v = true) (hlen : k < fs.length) (hdg : decode cc pc = .ok (.putfield index, 3))
    (kk : ∀ (H1 : Heap) (locs1 : List Loc), va_P D vwCl (w.set 0 (a, .inr (0, fs.set k v))) H1 → va_D A (w.set 0 (a, .inr (0, fs.set k v))) → va_S A H0 H1 locs1 → W p l e R s m args below meth c H1 locs1 cells slots Q (F0 m (pc + 3) ls rest)) : W p l e R s m args below meth c H locs cells slots Q (F0 m pc ls (v :: .ref a :: rest)) :=
  va_putF (D := D) (ci := 0) (C := RX0) (T := TX0) (N := 11) S.1 S.2.1 S.2.2.2.2 hin tyX0 tyX0_ok nmX0 S.2.2.2.1 hK hP hD hS 0 he rfl k hk (S.2.2.2.2 _ hl) (by rw [h1]; exact fun _ h => h) hfin hin2 h1 hd hn hfit hlen hdg kk
theorem x1_putF (S : CallFix p m c cc nL s args Ts RX1) (hin : ∀ w ∈ wsX10, w ∈ Ts) (hin2 : meth.name = "<init>") (hK : va_K D vwCl tys s) (hP : va_P D vwCl w H) (hD : va_D A w) (hS : va_S A H0 H locs) (he : w[0]? = some (a, .inr (1, fs))) (k : Nat) (hk : k < 12) (h1 : (TX1 k).1 = "PrimeBenchModel") (hl : Cond.fieldLink RX1 index "PrimeBenchModel" (TX1 k).2.1 (TX1 k).2.2.1 ∈ Ts) (hfin : (TX1 k).2.2.2 = true) {ty : FieldType} (hd : parseFieldDescriptor (TX1 k).2.2.1 = some ty) (hn : narrow ty v = v) (hfit : fits ty v = true) (hlen : k < fs.length) (hdg : decode cc pc = .ok (.putfield index, 3))
    (kk : ∀ (H1 : Heap) (locs1 : List Loc), va_P D vwCl (w.set 0 (a, .inr (1, fs.set k v))) H1 → va_D A (w.set 0 (a, .inr (1, fs.set k v))) → va_S A H0 H1 locs1 → W p l e R s m args below meth c H1 locs1 cells slots Q (F0 m (pc + 3) ls rest)) : W p l e R s m args below meth c H locs cells slots Q (F0 m pc ls (v :: .ref a :: rest)) :=
  va_putF (D := D) (ci := 1) (C := RX1) (T := TX1) (N := 12) S.1 S.2.1 S.2.2.2.2 hin tyX1 tyX1_ok nmX1 S.2.2.2.1 hK hP hD hS 0 he rfl k hk (S.2.2.2.2 _ hl) (by rw [h1]; exact fun _ h => h) hfin hin2 h1 hd hn hfit hlen hdg kk
end GPF
/-- the numbers of a valid object -/
def Ok3 (p m n : Int32) (P mR nC : Nat) : Prop := p = nI P ∧ P < 2 ^ 31 ∧ PrimeN P ∧ m = nI mR ∧ n = nI nC ∧ 1 ≤ mR ∧ mR ≤ 10 ∧ 1 ≤ nC ∧ nC ≤ 10
def Dims (p m n : Int32) (P mR nC : Nat) : Prop := Ok3 p m n P mR nC ∨ (mR = 0 ∧ nC = 0 ∧ P = 0 ∧ ¬ ∃ P mR nC, Ok3 p m n P mR nC)
theorem Dims.uniq {p m n : Int32} {P mR nC P' mR' nC' : Nat} (h : Dims p m n P mR nC) (h' : Dims p m n P' mR' nC') : P = P' ∧ mR = mR' ∧ nC = nC' := by
  rcases h with h | ⟨rfl, rfl, rfl, h⟩
  · rcases h' with h' | ⟨_, _, _, h'⟩
    · obtain ⟨a1, a2, -, a3, a4, a5, a6, a7, a8⟩ := h
      obtain ⟨b1, b2, -, b3, b4, b5, b6, b7, b8⟩ := h'
      exact ⟨(nI_eq a2 b2).mp (a1.symm.trans b1), (nI_eq (by omega) (by omega)).mp (a3.symm.trans b3), (nI_eq (by omega) (by omega)).mp (a4.symm.trans b4)⟩
    · exact absurd ⟨_, _, _, h⟩ h'
  · rcases h' with h' | ⟨rfl, rfl, rfl, _⟩
    · exact absurd ⟨_, _, _, h'⟩ h
    · exact ⟨rfl, rfl, rfl⟩
theorem side11 {m : Int32} (h0 : ¬ m ≤ 0) (h1 : ¬ nI 11 ≤ m) : ∃ k : Nat, m = nI k ∧ 1 ≤ k ∧ k ≤ 10 := by
  obtain ⟨k, hk, rfl⟩ := nI_of (x := m) (fun q => h0 (by rw [Int32.lt_iff_toInt_lt] at q; rw [Int32.le_iff_toInt_le]; omega))
  rw [nI_leI (by decide) hk] at h1
  rw [← nI_0, nI_leI hk (by decide)] at h0
  exact ⟨k, rfl, by omega, by omega⟩
theorem inval_s {p m n : Int32} (h : ∀ k : Nat, 1 ≤ k → k ≤ 10 → m ≠ nI k) : Dims p m n 0 0 0 := Or.inr ⟨rfl, rfl, rfl, fun ⟨_, _, _, _, _, _, a3, _, a5, a6, _⟩ => h _ a5 a6 a3⟩
theorem inval_t {p m n : Int32} (h : ∀ k : Nat, 1 ≤ k → k ≤ 10 → n ≠ nI k) : Dims p m n 0 0 0 := Or.inr ⟨rfl, rfl, rfl, fun ⟨_, _, _, _, _, _, _, a4, _, _, a7, a8⟩ => h _ a7 a8 a4⟩
theorem inval_p {p m n : Int32} (h : ∀ v : Nat, v < 2 ^ 31 → PrimeN v → p ≠ nI v) : Dims p m n 0 0 0 := Or.inr ⟨rfl, rfl, rfl, fun ⟨_, _, _, a1, a2, a3, _⟩ => h _ a2 a3 a1⟩
theorem no_le {m : Int32} (h : m ≤ 0) : ∀ k : Nat, 1 ≤ k → k ≤ 10 → m ≠ nI k := by
  intro k h1 h2 e
  subst e
  rw [← nI_0, nI_leI (by omega) (by decide)] at h
  omega
theorem no_ge {m : Int32} (h : nI 11 ≤ m) : ∀ k : Nat, 1 ≤ k → k ≤ 10 → m ≠ nI k := by
  intro k h1 h2 e
  subst e
  rw [nI_leI (by decide) (by omega)] at h
  omega
end
section
set_option maxHeartbeats 4000000 in
set_option maxRecDepth 100000 in
theorem c_X0_init (l : Launch) (D : va_G) {h : Nat} (p9 m9 n9 : Int32)  : MkV (U := Nat × Nat × Nat × Nat × ClassId × Nat × Nat × Nat) l yX0_init wsX0_init ({ frames := 1, cells := 4, slots := 320, locals := 21 }) [.ref h, .int p9, .int m9, .int n9] D [(h, .inr (0, [.int 0, .int 0, .int 0, .null, .null, .null, .int 0, .null, .int 0, .int 0, .long 0]))] 4 320 (fun u => Dims p9 m9 n9 u.2.2.2.2.2.1 u.2.2.2.2.2.2.1 u.2.2.2.2.2.2.2) (fun u => pbW h u.1 u.2.1 u.2.2.1 u.2.2.2.1 u.2.2.2.2.1 p9 u.2.2.2.2.2.2.1 u.2.2.2.2.2.2.2 (fun _ => 0) (fun _ => 0) (fun _ => 0) (fun _ => 0) 0 0 1) (fun u => [(u.2.2.2.2.1, .int)]) := by
  refine MkV.mk (cc := cX0_init) (maxL := 5) (by decide) rfl rfl (Nat.le_of_ble_eq_true rfl) ?_
  intro p e s mm args below meth c Q ls A S hini hK hP hD hA hS hl hret
  have hx := S.1
  have hb := S.2.1
  have hml := S.2.2.1
  have hts := S.2.2.2.2
  have hown := S.2.2.2.1
  have hin : ∀ w ∈ wsX00, w ∈ wsX0_init := fun w h => List.mem_cons_of_mem _ (List.mem_append_right _ h)
  have hl : lv_has ls 5 [(0, .ref h), (1, .int p9), (2, .int m9), (3, .int n9)] := hl
  refine lv_aload_n hx hb dX0_init_0 rfl (lv_at hl 0 rfl) ?_
  refine W.objInit hx hb hown (hts (.methodLink RX0 1 objectInit) (by decide +kernel)) (hts (.instanceMethod objectInit) (by decide +kernel)) (hts (.code objectInit ⟨#[0xb1]⟩ 1 none) (by decide +kernel)) rfl (by rw [hml]; exact hl.1) rfl dX0_init_1 (Nat.le_of_ble_eq_true rfl) (Nat.le_of_ble_eq_true rfl) ?_
  refine W.eq (g2 := F0 mm 4 ls []) rfl ?_
  refine lv_iload_n hx hb dX0_init_4 rfl (lv_at hl 2 rfl) ?_
  refine rds_i S (c_X0_isSide l D m9) (va_cwS 1 hts gX0_init_X0_isSide rfl rfl rfl (by decide +kernel) ⟨Nat.le_of_ble_eq_true rfl, Nat.le_of_ble_eq_true rfl⟩) rfl (hK.sub [] rfl) (hP.sub [] rfl) hl.1 (rest := []) rfl (Nat.le_of_ble_eq_true rfl) dX0_init_5 ⟨Nat.zero_le _, Nat.zero_le _⟩ hP hS hA (fun r_1 H locs er_1 hP hS => ?_)
  rcases er_1 with ⟨k1, hk1a, hk1b, rfl, rfl⟩ | ⟨nok1, rfl⟩
  · refine nv_if_eq (tgt := 29) hx hb dX0_init_8 (by decide) (by decide) (fun q => absurd q (by decide)) (fun _ => ?_)
    refine lv_iload_n hx hb dX0_init_11 rfl (lv_at hl 3 rfl) ?_
    refine rds_i S (c_X0_isSide l D n9) (va_cwS 1 hts gX0_init_X0_isSide rfl rfl rfl (by decide +kernel) ⟨Nat.le_of_ble_eq_true rfl, Nat.le_of_ble_eq_true rfl⟩) rfl (hK.sub [] rfl) (hP.sub [] rfl) hl.1 (rest := []) rfl (Nat.le_of_ble_eq_true rfl) dX0_init_12 ⟨Nat.zero_le _, Nat.zero_le _⟩ hP hS hA (fun r_3 H locs er_3 hP hS => ?_)
    rcases er_3 with ⟨k2, hk2a, hk2b, rfl, rfl⟩ | ⟨nok2, rfl⟩
    · refine nv_if_eq (tgt := 29) hx hb dX0_init_15 (by decide) (by decide) (fun q => absurd q (by decide)) (fun _ => ?_)
      refine lv_iload_n hx hb dX0_init_18 rfl (lv_at hl 1 rfl) ?_
      refine rds_i S (c_X0_isPrime l D p9) (va_cwS 1 hts gX0_init_X0_isPrime rfl rfl rfl (by decide +kernel) ⟨Nat.le_of_ble_eq_true rfl, Nat.le_of_ble_eq_true rfl⟩) rfl (hK.sub [] rfl) (hP.sub [] rfl) hl.1 (rest := []) rfl (Nat.le_of_ble_eq_true rfl) dX0_init_19 ⟨Nat.zero_le _, Nat.zero_le _⟩ hP hS hA (fun r_5 H locs er_5 hP hS => ?_)
      rcases er_5 with ⟨v, hvl, hvp, hpe, rfl⟩ | ⟨nop, rfl⟩
      · have hz1 : k1 * k2 ≤ 10 * 10 := Nat.mul_le_mul hk1b hk2b
        have hz2 : k1 * (k2 + k1) ≤ 10 * 20 := Nat.mul_le_mul hk1b (by omega)
        refine nv_if_eq (tgt := 29) hx hb dX0_init_22 (by decide) (by decide) (fun q => absurd q (by decide)) (fun _ => ?_)
        refine lv_iconst (v := nI 1) hx hb dX0_init_25 (by decide +kernel) ?_
        refine lv_goto (tgt := 30) hx hb dX0_init_26 (by decide) ?_
        refine lv_istore (lv' := [(4, .int (nI 1)), (0, .ref h), (1, .int p9), (2, .int (nI k1)), (3, .int (nI k2))]) hx hb dX0_init_30 hl (by decide) rfl (fun ls hl => ?_)
        refine lv_aload_n hx hb dX0_init_32 rfl (lv_at hl 1 rfl) ?_
        refine lv_iload_n hx hb dX0_init_33 rfl (lv_at hl 2 rfl) ?_
        refine x0_putF S hin hini hK hP hD hS rfl 0 (by decide) rfl (by decide +kernel) rfl (ty := .int) (v := .int p9) rfl rfl rfl (Nat.le_of_ble_eq_true rfl) dX0_init_34 (fun H locs hP hD hS => ?_)
        have hP : va_P D vwCl ([(h, .inr (0, [.int p9, .int 0, .int 0, .null, .null, .null, .int 0, .null, .int 0, .int 0, .long 0]))]) H := hP
        have hD : va_D A ([(h, .inr (0, [.int p9, .int 0, .int 0, .null, .null, .null, .int 0, .null, .int 0, .int 0, .long 0]))]) := hD
        refine lv_aload_n hx hb dX0_init_37 rfl (lv_at hl 1 rfl) ?_
        refine lv_iload hx hb dX0_init_38 (lv_at hl 0 rfl) ?_
        refine nv_if_eq (tgt := 47) hx hb dX0_init_40 (by decide) (by decide) (fun q => absurd q (by decide)) (fun _ => ?_)
        refine lv_iload_n hx hb dX0_init_43 rfl (lv_at hl 3 rfl) ?_
        refine lv_goto (tgt := 48) hx hb dX0_init_44 (by decide) ?_
        refine x0_putF S hin hini hK hP hD hS rfl 1 (by decide) rfl (by decide +kernel) rfl (ty := .int) (v := .int (nI k1)) rfl rfl rfl (Nat.le_of_ble_eq_true rfl) dX0_init_48 (fun H locs hP hD hS => ?_)
        have hP : va_P D vwCl ([(h, .inr (0, [.int p9, .int (nI k1), .int 0, .null, .null, .null, .int 0, .null, .int 0, .int 0, .long 0]))]) H := hP
        have hD : va_D A ([(h, .inr (0, [.int p9, .int (nI k1), .int 0, .null, .null, .null, .int 0, .null, .int 0, .int 0, .long 0]))]) := hD
        refine lv_aload_n hx hb dX0_init_51 rfl (lv_at hl 1 rfl) ?_
        refine lv_iload hx hb dX0_init_52 (lv_at hl 0 rfl) ?_
        refine nv_if_eq (tgt := 61) hx hb dX0_init_54 (by decide) (by decide) (fun q => absurd q (by decide)) (fun _ => ?_)
        refine lv_iload_n hx hb dX0_init_57 rfl (lv_at hl 4 rfl) ?_
        refine lv_goto (tgt := 62) hx hb dX0_init_58 (by decide) ?_
        refine x0_putF S hin hini hK hP hD hS rfl 2 (by decide) rfl (by decide +kernel) rfl (ty := .int) (v := .int (nI k2)) rfl rfl rfl (Nat.le_of_ble_eq_true rfl) dX0_init_62 (fun H locs hP hD hS => ?_)
        have hP : va_P D vwCl ([(h, .inr (0, [.int p9, .int (nI k1), .int (nI k2), .null, .null, .null, .int 0, .null, .int 0, .int 0, .long 0]))]) H := hP
        have hD : va_D A ([(h, .inr (0, [.int p9, .int (nI k1), .int (nI k2), .null, .null, .null, .int 0, .null, .int 0, .int 0, .long 0]))]) := hD
        refine lv_aload_n hx hb dX0_init_65 rfl (lv_at hl 1 rfl) ?_
        refine lv_aload_n hx hb dX0_init_66 rfl (lv_at hl 1 rfl) ?_
        refine x0_get S hin hK hP rfl 2 (by decide) rfl (by decide +kernel) (v := .int (nI k2)) rfl dX0_init_67 ?_
        refine lv_aload_n hx hb dX0_init_70 rfl (lv_at hl 1 rfl) ?_
        refine x0_get S hin hK hP rfl 1 (by decide) rfl (by decide +kernel) (v := .int (nI k1)) rfl dX0_init_71 ?_
        refine nv_iadd hx hb dX0_init_74 ?_
        refine x0_putF S hin hini hK hP hD hS rfl 6 (by decide) rfl (by decide +kernel) rfl (ty := .int) (v := .int (nI (k2 + k1))) rfl rfl rfl (Nat.le_of_ble_eq_true rfl) dX0_init_75 (fun H locs hP hD hS => ?_)
        have hP : va_P D vwCl ([(h, .inr (0, [.int p9, .int (nI k1), .int (nI k2), .null, .null, .null, .int (nI (k2 + k1)), .null, .int 0, .int 0, .long 0]))]) H := hP
        have hD : va_D A ([(h, .inr (0, [.int p9, .int (nI k1), .int (nI k2), .null, .null, .null, .int (nI (k2 + k1)), .null, .int 0, .int 0, .long 0]))]) := hD
        refine lv_aload_n hx hb dX0_init_78 rfl (lv_at hl 1 rfl) ?_
        refine lv_aload_n hx hb dX0_init_79 rfl (lv_at hl 1 rfl) ?_
        refine x0_get S hin hK hP rfl 1 (by decide) rfl (by decide +kernel) (v := .int (nI k1)) rfl dX0_init_80 ?_
        refine lv_aload_n hx hb dX0_init_83 rfl (lv_at hl 1 rfl) ?_
        refine x0_get S hin hK hP rfl 2 (by decide) rfl (by decide +kernel) (v := .int (nI k2)) rfl dX0_init_84 ?_
        refine nv_imul hx hb dX0_init_87 ?_
        refine va_newa hx hb (atype := .int) (hts (.arrayClass .int) (by decide +kernel)) rfl hK hP hD hS hA (N' := (k1 * k2)) (a0 := (k1 * k2, .inl (fun _ => 0))) (fun _ => rfl) (nI_pos (by omega)) (nI_clamp (by omega)) (by show _ * 4 ≤ _; omega) (Nat.le_of_ble_eq_true rfl) (by show _ ≤ 320; omega) dX0_init_88 (fun q1 c1 H hK hP hD hS => ?_)
        have hK : va_K D vwCl [(c1, .int)] s := hK
        have hP : va_P D vwCl ([(h, .inr (0, [.int p9, .int (nI k1), .int (nI k2), .null, .null, .null, .int (nI (k2 + k1)), .null, .int 0, .int 0, .long 0])), (q1, .inl (c1, k1 * k2, .inl (fun _ => 0)))]) H := hP
        have hD : va_D A ([(h, .inr (0, [.int p9, .int (nI k1), .int (nI k2), .null, .null, .null, .int (nI (k2 + k1)), .null, .int 0, .int 0, .long 0])), (q1, .inl (c1, k1 * k2, .inl (fun _ => 0)))]) := hD
        refine x0_putF S hin hini hK hP hD hS rfl 3 (by decide) rfl (by decide +kernel) rfl (ty := .array .int) (v := .ref q1) rfl rfl rfl (Nat.le_of_ble_eq_true rfl) dX0_init_90 (fun H locs hP hD hS => ?_)
        have hP : va_P D vwCl ([(h, .inr (0, [.int p9, .int (nI k1), .int (nI k2), .ref q1, .null, .null, .int (nI (k2 + k1)), .null, .int 0, .int 0, .long 0])), (q1, .inl (c1, k1 * k2, .inl (fun _ => 0)))]) H := hP
        have hD : va_D A ([(h, .inr (0, [.int p9, .int (nI k1), .int (nI k2), .ref q1, .null, .null, .int (nI (k2 + k1)), .null, .int 0, .int 0, .long 0])), (q1, .inl (c1, k1 * k2, .inl (fun _ => 0)))]) := hD
        refine lv_aload_n hx hb dX0_init_93 rfl (lv_at hl 1 rfl) ?_
        refine lv_aload_n hx hb dX0_init_94 rfl (lv_at hl 1 rfl) ?_
        refine x0_get S hin hK hP rfl 1 (by decide) rfl (by decide +kernel) (v := .int (nI k1)) rfl dX0_init_95 ?_
        refine va_newa hx hb (atype := .int) (hts (.arrayClass .int) (by decide +kernel)) rfl hK hP hD hS hA (N' := k1) (a0 := (k1, .inl (fun _ => 0))) (fun _ => rfl) (nI_pos (by omega)) (nI_clamp (by omega)) (by show _ * 4 ≤ _; omega) (Nat.le_of_ble_eq_true rfl) (by show _ ≤ 320; omega) dX0_init_98 (fun q2 c2 H hK hP hD hS => ?_)
        have hK : va_K D vwCl [(c1, .int), (c2, .int)] s := hK
        have hP : va_P D vwCl ([(h, .inr (0, [.int p9, .int (nI k1), .int (nI k2), .ref q1, .null, .null, .int (nI (k2 + k1)), .null, .int 0, .int 0, .long 0])), (q1, .inl (c1, k1 * k2, .inl (fun _ => 0))), (q2, .inl (c2, k1, .inl (fun _ => 0)))]) H := hP
        have hD : va_D A ([(h, .inr (0, [.int p9, .int (nI k1), .int (nI k2), .ref q1, .null, .null, .int (nI (k2 + k1)), .null, .int 0, .int 0, .long 0])), (q1, .inl (c1, k1 * k2, .inl (fun _ => 0))), (q2, .inl (c2, k1, .inl (fun _ => 0)))]) := hD
        refine x0_putF S hin hini hK hP hD hS rfl 4 (by decide) rfl (by decide +kernel) rfl (ty := .array .int) (v := .ref q2) rfl rfl rfl (Nat.le_of_ble_eq_true rfl) dX0_init_100 (fun H locs hP hD hS => ?_)
        have hP : va_P D vwCl ([(h, .inr (0, [.int p9, .int (nI k1), .int (nI k2), .ref q1, .ref q2, .null, .int (nI (k2 + k1)), .null, .int 0, .int 0, .long 0])), (q1, .inl (c1, k1 * k2, .inl (fun _ => 0))), (q2, .inl (c2, k1, .inl (fun _ => 0)))]) H := hP
        have hD : va_D A ([(h, .inr (0, [.int p9, .int (nI k1), .int (nI k2), .ref q1, .ref q2, .null, .int (nI (k2 + k1)), .null, .int 0, .int 0, .long 0])), (q1, .inl (c1, k1 * k2, .inl (fun _ => 0))), (q2, .inl (c2, k1, .inl (fun _ => 0)))]) := hD
        refine lv_aload_n hx hb dX0_init_103 rfl (lv_at hl 1 rfl) ?_
        refine lv_aload_n hx hb dX0_init_104 rfl (lv_at hl 1 rfl) ?_
        refine x0_get S hin hK hP rfl 1 (by decide) rfl (by decide +kernel) (v := .int (nI k1)) rfl dX0_init_105 ?_
        refine lv_aload_n hx hb dX0_init_108 rfl (lv_at hl 1 rfl) ?_
        refine x0_get S hin hK hP rfl 6 (by decide) rfl (by decide +kernel) (v := .int (nI (k2 + k1))) rfl dX0_init_109 ?_
        refine nv_imul hx hb dX0_init_112 ?_
        refine va_newa hx hb (atype := .int) (hts (.arrayClass .int) (by decide +kernel)) rfl hK hP hD hS hA (N' := (k1 * (k2 + k1))) (a0 := (k1 * (k2 + k1), .inl (fun _ => 0))) (fun _ => rfl) (nI_pos (by omega)) (nI_clamp (by omega)) (by show _ * 4 ≤ _; omega) (Nat.le_of_ble_eq_true rfl) (by show _ ≤ 320; omega) dX0_init_113 (fun q3 c3 H hK hP hD hS => ?_)
        have hK : va_K D vwCl [(c1, .int), (c2, .int), (c3, .int)] s := hK
        have hP : va_P D vwCl ([(h, .inr (0, [.int p9, .int (nI k1), .int (nI k2), .ref q1, .ref q2, .null, .int (nI (k2 + k1)), .null, .int 0, .int 0, .long 0])), (q1, .inl (c1, k1 * k2, .inl (fun _ => 0))), (q2, .inl (c2, k1, .inl (fun _ => 0))), (q3, .inl (c3, k1 * (k2 + k1), .inl (fun _ => 0)))]) H := hP
        have hD : va_D A ([(h, .inr (0, [.int p9, .int (nI k1), .int (nI k2), .ref q1, .ref q2, .null, .int (nI (k2 + k1)), .null, .int 0, .int 0, .long 0])), (q1, .inl (c1, k1 * k2, .inl (fun _ => 0))), (q2, .inl (c2, k1, .inl (fun _ => 0))), (q3, .inl (c3, k1 * (k2 + k1), .inl (fun _ => 0)))]) := hD
        refine x0_putF S hin hini hK hP hD hS rfl 5 (by decide) rfl (by decide +kernel) rfl (ty := .array .int) (v := .ref q3) rfl rfl rfl (Nat.le_of_ble_eq_true rfl) dX0_init_115 (fun H locs hP hD hS => ?_)
        have hP : va_P D vwCl ([(h, .inr (0, [.int p9, .int (nI k1), .int (nI k2), .ref q1, .ref q2, .ref q3, .int (nI (k2 + k1)), .null, .int 0, .int 0, .long 0])), (q1, .inl (c1, k1 * k2, .inl (fun _ => 0))), (q2, .inl (c2, k1, .inl (fun _ => 0))), (q3, .inl (c3, k1 * (k2 + k1), .inl (fun _ => 0)))]) H := hP
        have hD : va_D A ([(h, .inr (0, [.int p9, .int (nI k1), .int (nI k2), .ref q1, .ref q2, .ref q3, .int (nI (k2 + k1)), .null, .int 0, .int 0, .long 0])), (q1, .inl (c1, k1 * k2, .inl (fun _ => 0))), (q2, .inl (c2, k1, .inl (fun _ => 0))), (q3, .inl (c3, k1 * (k2 + k1), .inl (fun _ => 0)))]) := hD
        refine lv_aload_n hx hb dX0_init_118 rfl (lv_at hl 1 rfl) ?_
        refine lv_aload_n hx hb dX0_init_119 rfl (lv_at hl 1 rfl) ?_
        refine x0_get S hin hK hP rfl 2 (by decide) rfl (by decide +kernel) (v := .int (nI k2)) rfl dX0_init_120 ?_
        refine va_newa hx hb (atype := .int) (hts (.arrayClass .int) (by decide +kernel)) rfl hK hP hD hS hA (N' := k2) (a0 := (k2, .inl (fun _ => 0))) (fun _ => rfl) (nI_pos (by omega)) (nI_clamp (by omega)) (by show _ * 4 ≤ _; omega) (Nat.le_of_ble_eq_true rfl) (by show _ ≤ 320; omega) dX0_init_123 (fun q4 c4 H hK hP hD hS => ?_)
        have hK : va_K D vwCl [(c1, .int), (c2, .int), (c3, .int), (c4, .int)] s := hK
        have hP : va_P D vwCl ([(h, .inr (0, [.int p9, .int (nI k1), .int (nI k2), .ref q1, .ref q2, .ref q3, .int (nI (k2 + k1)), .null, .int 0, .int 0, .long 0])), (q1, .inl (c1, k1 * k2, .inl (fun _ => 0))), (q2, .inl (c2, k1, .inl (fun _ => 0))), (q3, .inl (c3, k1 * (k2 + k1), .inl (fun _ => 0))), (q4, .inl (c4, k2, .inl (fun _ => 0)))]) H := hP
        have hD : va_D A ([(h, .inr (0, [.int p9, .int (nI k1), .int (nI k2), .ref q1, .ref q2, .ref q3, .int (nI (k2 + k1)), .null, .int 0, .int 0, .long 0])), (q1, .inl (c1, k1 * k2, .inl (fun _ => 0))), (q2, .inl (c2, k1, .inl (fun _ => 0))), (q3, .inl (c3, k1 * (k2 + k1), .inl (fun _ => 0))), (q4, .inl (c4, k2, .inl (fun _ => 0)))]) := hD
        refine x0_putF S hin hini hK hP hD hS rfl 7 (by decide) rfl (by decide +kernel) rfl (ty := .array .int) (v := .ref q4) rfl rfl rfl (Nat.le_of_ble_eq_true rfl) dX0_init_125 (fun H locs hP hD hS => ?_)
        have hP : va_P D vwCl ([(h, .inr (0, [.int p9, .int (nI k1), .int (nI k2), .ref q1, .ref q2, .ref q3, .int (nI (k2 + k1)), .ref q4, .int 0, .int 0, .long 0])), (q1, .inl (c1, k1 * k2, .inl (fun _ => 0))), (q2, .inl (c2, k1, .inl (fun _ => 0))), (q3, .inl (c3, k1 * (k2 + k1), .inl (fun _ => 0))), (q4, .inl (c4, k2, .inl (fun _ => 0)))]) H := hP
        have hD : va_D A ([(h, .inr (0, [.int p9, .int (nI k1), .int (nI k2), .ref q1, .ref q2, .ref q3, .int (nI (k2 + k1)), .ref q4, .int 0, .int 0, .long 0])), (q1, .inl (c1, k1 * k2, .inl (fun _ => 0))), (q2, .inl (c2, k1, .inl (fun _ => 0))), (q3, .inl (c3, k1 * (k2 + k1), .inl (fun _ => 0))), (q4, .inl (c4, k2, .inl (fun _ => 0)))]) := hD
        refine lv_aload_n hx hb dX0_init_128 rfl (lv_at hl 1 rfl) ?_
        refine lv_iconst (v := nI 0) hx hb dX0_init_129 (by decide +kernel) ?_
        refine x0_put S hin hK hP hD hS rfl 8 (by decide) rfl (by decide +kernel) rfl (ty := .boolean) (v := .int (nI 0)) rfl (by decide +kernel) rfl (Nat.le_of_ble_eq_true rfl) dX0_init_130 (fun H locs hP hD hS => ?_)
        have hP : va_P D vwCl ([(h, .inr (0, [.int p9, .int (nI k1), .int (nI k2), .ref q1, .ref q2, .ref q3, .int (nI (k2 + k1)), .ref q4, .int (nI 0), .int 0, .long 0])), (q1, .inl (c1, k1 * k2, .inl (fun _ => 0))), (q2, .inl (c2, k1, .inl (fun _ => 0))), (q3, .inl (c3, k1 * (k2 + k1), .inl (fun _ => 0))), (q4, .inl (c4, k2, .inl (fun _ => 0)))]) H := hP
        have hD : va_D A ([(h, .inr (0, [.int p9, .int (nI k1), .int (nI k2), .ref q1, .ref q2, .ref q3, .int (nI (k2 + k1)), .ref q4, .int (nI 0), .int 0, .long 0])), (q1, .inl (c1, k1 * k2, .inl (fun _ => 0))), (q2, .inl (c2, k1, .inl (fun _ => 0))), (q3, .inl (c3, k1 * (k2 + k1), .inl (fun _ => 0))), (q4, .inl (c4, k2, .inl (fun _ => 0)))]) := hD
        refine lv_aload_n hx hb dX0_init_133 rfl (lv_at hl 1 rfl) ?_
        refine lv_iconst (v := nI 0) hx hb dX0_init_134 (by decide +kernel) ?_
        refine x0_put S hin hK hP hD hS rfl 9 (by decide) rfl (by decide +kernel) rfl (ty := .int) (v := .int (nI 0)) rfl rfl rfl (Nat.le_of_ble_eq_true rfl) dX0_init_135 (fun H locs hP hD hS => ?_)
        have hP : va_P D vwCl ([(h, .inr (0, [.int p9, .int (nI k1), .int (nI k2), .ref q1, .ref q2, .ref q3, .int (nI (k2 + k1)), .ref q4, .int (nI 0), .int (nI 0), .long 0])), (q1, .inl (c1, k1 * k2, .inl (fun _ => 0))), (q2, .inl (c2, k1, .inl (fun _ => 0))), (q3, .inl (c3, k1 * (k2 + k1), .inl (fun _ => 0))), (q4, .inl (c4, k2, .inl (fun _ => 0)))]) H := hP
        have hD : va_D A ([(h, .inr (0, [.int p9, .int (nI k1), .int (nI k2), .ref q1, .ref q2, .ref q3, .int (nI (k2 + k1)), .ref q4, .int (nI 0), .int (nI 0), .long 0])), (q1, .inl (c1, k1 * k2, .inl (fun _ => 0))), (q2, .inl (c2, k1, .inl (fun _ => 0))), (q3, .inl (c3, k1 * (k2 + k1), .inl (fun _ => 0))), (q4, .inl (c4, k2, .inl (fun _ => 0)))]) := hD
        refine lv_aload_n hx hb dX0_init_138 rfl (lv_at hl 1 rfl) ?_
        refine lv_lconst (v := lN 1) hx hb dX0_init_139 rfl ?_
        refine x0_put S hin hK hP hD hS rfl 10 (by decide) rfl (by decide +kernel) rfl (ty := .long) (v := .long (lN 1)) rfl rfl rfl (Nat.le_of_ble_eq_true rfl) dX0_init_140 (fun H locs hP hD hS => ?_)
        have hP : va_P D vwCl ([(h, .inr (0, [.int p9, .int (nI k1), .int (nI k2), .ref q1, .ref q2, .ref q3, .int (nI (k2 + k1)), .ref q4, .int (nI 0), .int (nI 0), .long (lN 1)])), (q1, .inl (c1, k1 * k2, .inl (fun _ => 0))), (q2, .inl (c2, k1, .inl (fun _ => 0))), (q3, .inl (c3, k1 * (k2 + k1), .inl (fun _ => 0))), (q4, .inl (c4, k2, .inl (fun _ => 0)))]) H := hP
        have hD : va_D A ([(h, .inr (0, [.int p9, .int (nI k1), .int (nI k2), .ref q1, .ref q2, .ref q3, .int (nI (k2 + k1)), .ref q4, .int (nI 0), .int (nI 0), .long (lN 1)])), (q1, .inl (c1, k1 * k2, .inl (fun _ => 0))), (q2, .inl (c2, k1, .inl (fun _ => 0))), (q3, .inl (c3, k1 * (k2 + k1), .inl (fun _ => 0))), (q4, .inl (c4, k2, .inl (fun _ => 0)))]) := hD
        have ec2 := K_eq hK 0 1 rfl rfl
        have ec3 := K_eq hK 0 2 rfl rfl
        have ec4 := K_eq hK 0 3 rfl rfl
        subst ec2 ec3 ec4
        refine W.widen (k := 4) (n := 320) (by omega) (by omega) ?_
        exact hret (q1, q2, q3, q4, c1, v, k1, k2) 143 ls _ _ dX0_init_143 hP hD (hK.sub [0] rfl) hS (Or.inl ⟨hpe, hvl, hvp, rfl, rfl, hk1a, hk1b, hk2a, hk2b⟩)
      · refine nv_if_eq (tgt := 29) hx hb dX0_init_22 (by decide) (by decide) (fun _ => ?_) (fun q => absurd q (by decide))
        refine lv_iconst (v := nI 0) hx hb dX0_init_29 (by decide +kernel) ?_
        refine lv_istore (lv' := [(4, .int (nI 0)), (0, .ref h), (1, .int p9), (2, .int (nI k1)), (3, .int (nI k2))]) hx hb dX0_init_30 hl (by decide) rfl (fun ls hl => ?_)
        refine lv_aload_n hx hb dX0_init_32 rfl (lv_at hl 1 rfl) ?_
        refine lv_iload_n hx hb dX0_init_33 rfl (lv_at hl 2 rfl) ?_
        refine x0_putF S hin hini hK hP hD hS rfl 0 (by decide) rfl (by decide +kernel) rfl (ty := .int) (v := .int p9) rfl rfl rfl (Nat.le_of_ble_eq_true rfl) dX0_init_34 (fun H locs hP hD hS => ?_)
        have hP : va_P D vwCl ([(h, .inr (0, [.int p9, .int 0, .int 0, .null, .null, .null, .int 0, .null, .int 0, .int 0, .long 0]))]) H := hP
        have hD : va_D A ([(h, .inr (0, [.int p9, .int 0, .int 0, .null, .null, .null, .int 0, .null, .int 0, .int 0, .long 0]))]) := hD
        refine lv_aload_n hx hb dX0_init_37 rfl (lv_at hl 1 rfl) ?_
        refine lv_iload hx hb dX0_init_38 (lv_at hl 0 rfl) ?_
        refine nv_if_eq (tgt := 47) hx hb dX0_init_40 (by decide) (by decide) (fun _ => ?_) (fun q => absurd q (by decide))
        refine lv_iconst (v := nI 0) hx hb dX0_init_47 (by decide +kernel) ?_
        refine x0_putF S hin hini hK hP hD hS rfl 1 (by decide) rfl (by decide +kernel) rfl (ty := .int) (v := .int (nI 0)) rfl rfl rfl (Nat.le_of_ble_eq_true rfl) dX0_init_48 (fun H locs hP hD hS => ?_)
        have hP : va_P D vwCl ([(h, .inr (0, [.int p9, .int (nI 0), .int 0, .null, .null, .null, .int 0, .null, .int 0, .int 0, .long 0]))]) H := hP
        have hD : va_D A ([(h, .inr (0, [.int p9, .int (nI 0), .int 0, .null, .null, .null, .int 0, .null, .int 0, .int 0, .long 0]))]) := hD
        refine lv_aload_n hx hb dX0_init_51 rfl (lv_at hl 1 rfl) ?_
        refine lv_iload hx hb dX0_init_52 (lv_at hl 0 rfl) ?_
        refine nv_if_eq (tgt := 61) hx hb dX0_init_54 (by decide) (by decide) (fun _ => ?_) (fun q => absurd q (by decide))
        refine lv_iconst (v := nI 0) hx hb dX0_init_61 (by decide +kernel) ?_
        refine x0_putF S hin hini hK hP hD hS rfl 2 (by decide) rfl (by decide +kernel) rfl (ty := .int) (v := .int (nI 0)) rfl rfl rfl (Nat.le_of_ble_eq_true rfl) dX0_init_62 (fun H locs hP hD hS => ?_)
        have hP : va_P D vwCl ([(h, .inr (0, [.int p9, .int (nI 0), .int (nI 0), .null, .null, .null, .int 0, .null, .int 0, .int 0, .long 0]))]) H := hP
        have hD : va_D A ([(h, .inr (0, [.int p9, .int (nI 0), .int (nI 0), .null, .null, .null, .int 0, .null, .int 0, .int 0, .long 0]))]) := hD
        refine lv_aload_n hx hb dX0_init_65 rfl (lv_at hl 1 rfl) ?_
        refine lv_aload_n hx hb dX0_init_66 rfl (lv_at hl 1 rfl) ?_
        refine x0_get S hin hK hP rfl 2 (by decide) rfl (by decide +kernel) (v := .int (nI 0)) rfl dX0_init_67 ?_
        refine lv_aload_n hx hb dX0_init_70 rfl (lv_at hl 1 rfl) ?_
        refine x0_get S hin hK hP rfl 1 (by decide) rfl (by decide +kernel) (v := .int (nI 0)) rfl dX0_init_71 ?_
        refine nv_iadd hx hb dX0_init_74 ?_
        refine x0_putF S hin hini hK hP hD hS rfl 6 (by decide) rfl (by decide +kernel) rfl (ty := .int) (v := .int (nI (0 + 0))) rfl rfl rfl (Nat.le_of_ble_eq_true rfl) dX0_init_75 (fun H locs hP hD hS => ?_)
        have hP : va_P D vwCl ([(h, .inr (0, [.int p9, .int (nI 0), .int (nI 0), .null, .null, .null, .int (nI (0 + 0)), .null, .int 0, .int 0, .long 0]))]) H := hP
        have hD : va_D A ([(h, .inr (0, [.int p9, .int (nI 0), .int (nI 0), .null, .null, .null, .int (nI (0 + 0)), .null, .int 0, .int 0, .long 0]))]) := hD
        refine lv_aload_n hx hb dX0_init_78 rfl (lv_at hl 1 rfl) ?_
        refine lv_aload_n hx hb dX0_init_79 rfl (lv_at hl 1 rfl) ?_
        refine x0_get S hin hK hP rfl 1 (by decide) rfl (by decide +kernel) (v := .int (nI 0)) rfl dX0_init_80 ?_
        refine lv_aload_n hx hb dX0_init_83 rfl (lv_at hl 1 rfl) ?_
        refine x0_get S hin hK hP rfl 2 (by decide) rfl (by decide +kernel) (v := .int (nI 0)) rfl dX0_init_84 ?_
        refine nv_imul hx hb dX0_init_87 ?_
        refine va_newa hx hb (atype := .int) (hts (.arrayClass .int) (by decide +kernel)) rfl hK hP hD hS hA (N' := (0 * 0)) (a0 := (0 * 0, .inl (fun _ => 0))) (fun _ => rfl) (nI_pos (by omega)) (nI_clamp (by omega)) (by show _ * 4 ≤ _; omega) (Nat.le_of_ble_eq_true rfl) (by show _ ≤ 320; omega) dX0_init_88 (fun q1 c1 H hK hP hD hS => ?_)
        have hK : va_K D vwCl [(c1, .int)] s := hK
        have hP : va_P D vwCl ([(h, .inr (0, [.int p9, .int (nI 0), .int (nI 0), .null, .null, .null, .int (nI (0 + 0)), .null, .int 0, .int 0, .long 0])), (q1, .inl (c1, 0 * 0, .inl (fun _ => 0)))]) H := hP
        have hD : va_D A ([(h, .inr (0, [.int p9, .int (nI 0), .int (nI 0), .null, .null, .null, .int (nI (0 + 0)), .null, .int 0, .int 0, .long 0])), (q1, .inl (c1, 0 * 0, .inl (fun _ => 0)))]) := hD
        refine x0_putF S hin hini hK hP hD hS rfl 3 (by decide) rfl (by decide +kernel) rfl (ty := .array .int) (v := .ref q1) rfl rfl rfl (Nat.le_of_ble_eq_true rfl) dX0_init_90 (fun H locs hP hD hS => ?_)
        have hP : va_P D vwCl ([(h, .inr (0, [.int p9, .int (nI 0), .int (nI 0), .ref q1, .null, .null, .int (nI (0 + 0)), .null, .int 0, .int 0, .long 0])), (q1, .inl (c1, 0 * 0, .inl (fun _ => 0)))]) H := hP
        have hD : va_D A ([(h, .inr (0, [.int p9, .int (nI 0), .int (nI 0), .ref q1, .null, .null, .int (nI (0 + 0)), .null, .int 0, .int 0, .long 0])), (q1, .inl (c1, 0 * 0, .inl (fun _ => 0)))]) := hD
        refine lv_aload_n hx hb dX0_init_93 rfl (lv_at hl 1 rfl) ?_
        refine lv_aload_n hx hb dX0_init_94 rfl (lv_at hl 1 rfl) ?_
        refine x0_get S hin hK hP rfl 1 (by decide) rfl (by decide +kernel) (v := .int (nI 0)) rfl dX0_init_95 ?_
        refine va_newa hx hb (atype := .int) (hts (.arrayClass .int) (by decide +kernel)) rfl hK hP hD hS hA (N' := 0) (a0 := (0, .inl (fun _ => 0))) (fun _ => rfl) (nI_pos (by omega)) (nI_clamp (by omega)) (by show _ * 4 ≤ _; omega) (Nat.le_of_ble_eq_true rfl) (by show _ ≤ 320; omega) dX0_init_98 (fun q2 c2 H hK hP hD hS => ?_)
        have hK : va_K D vwCl [(c1, .int), (c2, .int)] s := hK
        have hP : va_P D vwCl ([(h, .inr (0, [.int p9, .int (nI 0), .int (nI 0), .ref q1, .null, .null, .int (nI (0 + 0)), .null, .int 0, .int 0, .long 0])), (q1, .inl (c1, 0 * 0, .inl (fun _ => 0))), (q2, .inl (c2, 0, .inl (fun _ => 0)))]) H := hP
        have hD : va_D A ([(h, .inr (0, [.int p9, .int (nI 0), .int (nI 0), .ref q1, .null, .null, .int (nI (0 + 0)), .null, .int 0, .int 0, .long 0])), (q1, .inl (c1, 0 * 0, .inl (fun _ => 0))), (q2, .inl (c2, 0, .inl (fun _ => 0)))]) := hD
        refine x0_putF S hin hini hK hP hD hS rfl 4 (by decide) rfl (by decide +kernel) rfl (ty := .array .int) (v := .ref q2) rfl rfl rfl (Nat.le_of_ble_eq_true rfl) dX0_init_100 (fun H locs hP hD hS => ?_)
        have hP : va_P D vwCl ([(h, .inr (0, [.int p9, .int (nI 0), .int (nI 0), .ref q1, .ref q2, .null, .int (nI (0 + 0)), .null, .int 0, .int 0, .long 0])), (q1, .inl (c1, 0 * 0, .inl (fun _ => 0))), (q2, .inl (c2, 0, .inl (fun _ => 0)))]) H := hP
        have hD : va_D A ([(h, .inr (0, [.int p9, .int (nI 0), .int (nI 0), .ref q1, .ref q2, .null, .int (nI (0 + 0)), .null, .int 0, .int 0, .long 0])), (q1, .inl (c1, 0 * 0, .inl (fun _ => 0))), (q2, .inl (c2, 0, .inl (fun _ => 0)))]) := hD
        refine lv_aload_n hx hb dX0_init_103 rfl (lv_at hl 1 rfl) ?_
        refine lv_aload_n hx hb dX0_init_104 rfl (lv_at hl 1 rfl) ?_
        refine x0_get S hin hK hP rfl 1 (by decide) rfl (by decide +kernel) (v := .int (nI 0)) rfl dX0_init_105 ?_
        refine lv_aload_n hx hb dX0_init_108 rfl (lv_at hl 1 rfl) ?_
        refine x0_get S hin hK hP rfl 6 (by decide) rfl (by decide +kernel) (v := .int (nI (0 + 0))) rfl dX0_init_109 ?_
        refine nv_imul hx hb dX0_init_112 ?_
        refine va_newa hx hb (atype := .int) (hts (.arrayClass .int) (by decide +kernel)) rfl hK hP hD hS hA (N' := (0 * (0 + 0))) (a0 := (0 * (0 + 0), .inl (fun _ => 0))) (fun _ => rfl) (nI_pos (by omega)) (nI_clamp (by omega)) (by show _ * 4 ≤ _; omega) (Nat.le_of_ble_eq_true rfl) (by show _ ≤ 320; omega) dX0_init_113 (fun q3 c3 H hK hP hD hS => ?_)
        have hK : va_K D vwCl [(c1, .int), (c2, .int), (c3, .int)] s := hK
        have hP : va_P D vwCl ([(h, .inr (0, [.int p9, .int (nI 0), .int (nI 0), .ref q1, .ref q2, .null, .int (nI (0 + 0)), .null, .int 0, .int 0, .long 0])), (q1, .inl (c1, 0 * 0, .inl (fun _ => 0))), (q2, .inl (c2, 0, .inl (fun _ => 0))), (q3, .inl (c3, 0 * (0 + 0), .inl (fun _ => 0)))]) H := hP
        have hD : va_D A ([(h, .inr (0, [.int p9, .int (nI 0), .int (nI 0), .ref q1, .ref q2, .null, .int (nI (0 + 0)), .null, .int 0, .int 0, .long 0])), (q1, .inl (c1, 0 * 0, .inl (fun _ => 0))), (q2, .inl (c2, 0, .inl (fun _ => 0))), (q3, .inl (c3, 0 * (0 + 0), .inl (fun _ => 0)))]) := hD
        refine x0_putF S hin hini hK hP hD hS rfl 5 (by decide) rfl (by decide +kernel) rfl (ty := .array .int) (v := .ref q3) rfl rfl rfl (Nat.le_of_ble_eq_true rfl) dX0_init_115 (fun H locs hP hD hS => ?_)
        have hP : va_P D vwCl ([(h, .inr (0, [.int p9, .int (nI 0), .int (nI 0), .ref q1, .ref q2, .ref q3, .int (nI (0 + 0)), .null, .int 0, .int 0, .long 0])), (q1, .inl (c1, 0 * 0, .inl (fun _ => 0))), (q2, .inl (c2, 0, .inl (fun _ => 0))), (q3, .inl (c3, 0 * (0 + 0), .inl (fun _ => 0)))]) H := hP
        have hD : va_D A ([(h, .inr (0, [.int p9, .int (nI 0), .int (nI 0), .ref q1, .ref q2, .ref q3, .int (nI (0 + 0)), .null, .int 0, .int 0, .long 0])), (q1, .inl (c1, 0 * 0, .inl (fun _ => 0))), (q2, .inl (c2, 0, .inl (fun _ => 0))), (q3, .inl (c3, 0 * (0 + 0), .inl (fun _ => 0)))]) := hD
        refine lv_aload_n hx hb dX0_init_118 rfl (lv_at hl 1 rfl) ?_
        refine lv_aload_n hx hb dX0_init_119 rfl (lv_at hl 1 rfl) ?_
        refine x0_get S hin hK hP rfl 2 (by decide) rfl (by decide +kernel) (v := .int (nI 0)) rfl dX0_init_120 ?_
        refine va_newa hx hb (atype := .int) (hts (.arrayClass .int) (by decide +kernel)) rfl hK hP hD hS hA (N' := 0) (a0 := (0, .inl (fun _ => 0))) (fun _ => rfl) (nI_pos (by omega)) (nI_clamp (by omega)) (by show _ * 4 ≤ _; omega) (Nat.le_of_ble_eq_true rfl) (by show _ ≤ 320; omega) dX0_init_123 (fun q4 c4 H hK hP hD hS => ?_)
        have hK : va_K D vwCl [(c1, .int), (c2, .int), (c3, .int), (c4, .int)] s := hK
        have hP : va_P D vwCl ([(h, .inr (0, [.int p9, .int (nI 0), .int (nI 0), .ref q1, .ref q2, .ref q3, .int (nI (0 + 0)), .null, .int 0, .int 0, .long 0])), (q1, .inl (c1, 0 * 0, .inl (fun _ => 0))), (q2, .inl (c2, 0, .inl (fun _ => 0))), (q3, .inl (c3, 0 * (0 + 0), .inl (fun _ => 0))), (q4, .inl (c4, 0, .inl (fun _ => 0)))]) H := hP
        have hD : va_D A ([(h, .inr (0, [.int p9, .int (nI 0), .int (nI 0), .ref q1, .ref q2, .ref q3, .int (nI (0 + 0)), .null, .int 0, .int 0, .long 0])), (q1, .inl (c1, 0 * 0, .inl (fun _ => 0))), (q2, .inl (c2, 0, .inl (fun _ => 0))), (q3, .inl (c3, 0 * (0 + 0), .inl (fun _ => 0))), (q4, .inl (c4, 0, .inl (fun _ => 0)))]) := hD
        refine x0_putF S hin hini hK hP hD hS rfl 7 (by decide) rfl (by decide +kernel) rfl (ty := .array .int) (v := .ref q4) rfl rfl rfl (Nat.le_of_ble_eq_true rfl) dX0_init_125 (fun H locs hP hD hS => ?_)
        have hP : va_P D vwCl ([(h, .inr (0, [.int p9, .int (nI 0), .int (nI 0), .ref q1, .ref q2, .ref q3, .int (nI (0 + 0)), .ref q4, .int 0, .int 0, .long 0])), (q1, .inl (c1, 0 * 0, .inl (fun _ => 0))), (q2, .inl (c2, 0, .inl (fun _ => 0))), (q3, .inl (c3, 0 * (0 + 0), .inl (fun _ => 0))), (q4, .inl (c4, 0, .inl (fun _ => 0)))]) H := hP
        have hD : va_D A ([(h, .inr (0, [.int p9, .int (nI 0), .int (nI 0), .ref q1, .ref q2, .ref q3, .int (nI (0 + 0)), .ref q4, .int 0, .int 0, .long 0])), (q1, .inl (c1, 0 * 0, .inl (fun _ => 0))), (q2, .inl (c2, 0, .inl (fun _ => 0))), (q3, .inl (c3, 0 * (0 + 0), .inl (fun _ => 0))), (q4, .inl (c4, 0, .inl (fun _ => 0)))]) := hD
        refine lv_aload_n hx hb dX0_init_128 rfl (lv_at hl 1 rfl) ?_
        refine lv_iconst (v := nI 0) hx hb dX0_init_129 (by decide +kernel) ?_
        refine x0_put S hin hK hP hD hS rfl 8 (by decide) rfl (by decide +kernel) rfl (ty := .boolean) (v := .int (nI 0)) rfl (by decide +kernel) rfl (Nat.le_of_ble_eq_true rfl) dX0_init_130 (fun H locs hP hD hS => ?_)
        have hP : va_P D vwCl ([(h, .inr (0, [.int p9, .int (nI 0), .int (nI 0), .ref q1, .ref q2, .ref q3, .int (nI (0 + 0)), .ref q4, .int (nI 0), .int 0, .long 0])), (q1, .inl (c1, 0 * 0, .inl (fun _ => 0))), (q2, .inl (c2, 0, .inl (fun _ => 0))), (q3, .inl (c3, 0 * (0 + 0), .inl (fun _ => 0))), (q4, .inl (c4, 0, .inl (fun _ => 0)))]) H := hP
        have hD : va_D A ([(h, .inr (0, [.int p9, .int (nI 0), .int (nI 0), .ref q1, .ref q2, .ref q3, .int (nI (0 + 0)), .ref q4, .int (nI 0), .int 0, .long 0])), (q1, .inl (c1, 0 * 0, .inl (fun _ => 0))), (q2, .inl (c2, 0, .inl (fun _ => 0))), (q3, .inl (c3, 0 * (0 + 0), .inl (fun _ => 0))), (q4, .inl (c4, 0, .inl (fun _ => 0)))]) := hD
        refine lv_aload_n hx hb dX0_init_133 rfl (lv_at hl 1 rfl) ?_
        refine lv_iconst (v := nI 0) hx hb dX0_init_134 (by decide +kernel) ?_
        refine x0_put S hin hK hP hD hS rfl 9 (by decide) rfl (by decide +kernel) rfl (ty := .int) (v := .int (nI 0)) rfl rfl rfl (Nat.le_of_ble_eq_true rfl) dX0_init_135 (fun H locs hP hD hS => ?_)
        have hP : va_P D vwCl ([(h, .inr (0, [.int p9, .int (nI 0), .int (nI 0), .ref q1, .ref q2, .ref q3, .int (nI (0 + 0)), .ref q4, .int (nI 0), .int (nI 0), .long 0])), (q1, .inl (c1, 0 * 0, .inl (fun _ => 0))), (q2, .inl (c2, 0, .inl (fun _ => 0))), (q3, .inl (c3, 0 * (0 + 0), .inl (fun _ => 0))), (q4, .inl (c4, 0, .inl (fun _ => 0)))]) H := hP
        have hD : va_D A ([(h, .inr (0, [.int p9, .int (nI 0), .int (nI 0), .ref q1, .ref q2, .ref q3, .int (nI (0 + 0)), .ref q4, .int (nI 0), .int (nI 0), .long 0])), (q1, .inl (c1, 0 * 0, .inl (fun _ => 0))), (q2, .inl (c2, 0, .inl (fun _ => 0))), (q3, .inl (c3, 0 * (0 + 0), .inl (fun _ => 0))), (q4, .inl (c4, 0, .inl (fun _ => 0)))]) := hD
        refine lv_aload_n hx hb dX0_init_138 rfl (lv_at hl 1 rfl) ?_
        refine lv_lconst (v := lN 1) hx hb dX0_init_139 rfl ?_
        refine x0_put S hin hK hP hD hS rfl 10 (by decide) rfl (by decide +kernel) rfl (ty := .long) (v := .long (lN 1)) rfl rfl rfl (Nat.le_of_ble_eq_true rfl) dX0_init_140 (fun H locs hP hD hS => ?_)
        have hP : va_P D vwCl ([(h, .inr (0, [.int p9, .int (nI 0), .int (nI 0), .ref q1, .ref q2, .ref q3, .int (nI (0 + 0)), .ref q4, .int (nI 0), .int (nI 0), .long (lN 1)])), (q1, .inl (c1, 0 * 0, .inl (fun _ => 0))), (q2, .inl (c2, 0, .inl (fun _ => 0))), (q3, .inl (c3, 0 * (0 + 0), .inl (fun _ => 0))), (q4, .inl (c4, 0, .inl (fun _ => 0)))]) H := hP
        have hD : va_D A ([(h, .inr (0, [.int p9, .int (nI 0), .int (nI 0), .ref q1, .ref q2, .ref q3, .int (nI (0 + 0)), .ref q4, .int (nI 0), .int (nI 0), .long (lN 1)])), (q1, .inl (c1, 0 * 0, .inl (fun _ => 0))), (q2, .inl (c2, 0, .inl (fun _ => 0))), (q3, .inl (c3, 0 * (0 + 0), .inl (fun _ => 0))), (q4, .inl (c4, 0, .inl (fun _ => 0)))]) := hD
        have ec2 := K_eq hK 0 1 rfl rfl
        have ec3 := K_eq hK 0 2 rfl rfl
        have ec4 := K_eq hK 0 3 rfl rfl
        subst ec2 ec3 ec4
        refine W.widen (k := 4) (n := 320) (by omega) (by omega) ?_
        exact hret (q1, q2, q3, q4, c1, 0, 0, 0) 143 ls _ _ dX0_init_143 hP hD (hK.sub [0] rfl) hS (inval_p nop)
    · refine nv_if_eq (tgt := 29) hx hb dX0_init_15 (by decide) (by decide) (fun _ => ?_) (fun q => absurd q (by decide))
      refine lv_iconst (v := nI 0) hx hb dX0_init_29 (by decide +kernel) ?_
      refine lv_istore (lv' := [(4, .int (nI 0)), (0, .ref h), (1, .int p9), (2, .int (nI k1)), (3, .int n9)]) hx hb dX0_init_30 hl (by decide) rfl (fun ls hl => ?_)
      refine lv_aload_n hx hb dX0_init_32 rfl (lv_at hl 1 rfl) ?_
      refine lv_iload_n hx hb dX0_init_33 rfl (lv_at hl 2 rfl) ?_
      refine x0_putF S hin hini hK hP hD hS rfl 0 (by decide) rfl (by decide +kernel) rfl (ty := .int) (v := .int p9) rfl rfl rfl (Nat.le_of_ble_eq_true rfl) dX0_init_34 (fun H locs hP hD hS => ?_)
      have hP : va_P D vwCl ([(h, .inr (0, [.int p9, .int 0, .int 0, .null, .null, .null, .int 0, .null, .int 0, .int 0, .long 0]))]) H := hP
      have hD : va_D A ([(h, .inr (0, [.int p9, .int 0, .int 0, .null, .null, .null, .int 0, .null, .int 0, .int 0, .long 0]))]) := hD
      refine lv_aload_n hx hb dX0_init_37 rfl (lv_at hl 1 rfl) ?_
      refine lv_iload hx hb dX0_init_38 (lv_at hl 0 rfl) ?_
      refine nv_if_eq (tgt := 47) hx hb dX0_init_40 (by decide) (by decide) (fun _ => ?_) (fun q => absurd q (by decide))
      refine lv_iconst (v := nI 0) hx hb dX0_init_47 (by decide +kernel) ?_
      refine x0_putF S hin hini hK hP hD hS rfl 1 (by decide) rfl (by decide +kernel) rfl (ty := .int) (v := .int (nI 0)) rfl rfl rfl (Nat.le_of_ble_eq_true rfl) dX0_init_48 (fun H locs hP hD hS => ?_)
      have hP : va_P D vwCl ([(h, .inr (0, [.int p9, .int (nI 0), .int 0, .null, .null, .null, .int 0, .null, .int 0, .int 0, .long 0]))]) H := hP
      have hD : va_D A ([(h, .inr (0, [.int p9, .int (nI 0), .int 0, .null, .null, .null, .int 0, .null, .int 0, .int 0, .long 0]))]) := hD
      refine lv_aload_n hx hb dX0_init_51 rfl (lv_at hl 1 rfl) ?_
      refine lv_iload hx hb dX0_init_52 (lv_at hl 0 rfl) ?_
      refine nv_if_eq (tgt := 61) hx hb dX0_init_54 (by decide) (by decide) (fun _ => ?_) (fun q => absurd q (by decide))
      refine lv_iconst (v := nI 0) hx hb dX0_init_61 (by decide +kernel) ?_
      refine x0_putF S hin hini hK hP hD hS rfl 2 (by decide) rfl (by decide +kernel) rfl (ty := .int) (v := .int (nI 0)) rfl rfl rfl (Nat.le_of_ble_eq_true rfl) dX0_init_62 (fun H locs hP hD hS => ?_)
      have hP : va_P D vwCl ([(h, .inr (0, [.int p9, .int (nI 0), .int (nI 0), .null, .null, .null, .int 0, .null, .int 0, .int 0, .long 0]))]) H := hP
      have hD : va_D A ([(h, .inr (0, [.int p9, .int (nI 0), .int (nI 0), .null, .null, .null, .int 0, .null, .int 0, .int 0, .long 0]))]) := hD
      refine lv_aload_n hx hb dX0_init_65 rfl (lv_at hl 1 rfl) ?_
      refine lv_aload_n hx hb dX0_init_66 rfl (lv_at hl 1 rfl) ?_
      refine x0_get S hin hK hP rfl 2 (by decide) rfl (by decide +kernel) (v := .int (nI 0)) rfl dX0_init_67 ?_
      refine lv_aload_n hx hb dX0_init_70 rfl (lv_at hl 1 rfl) ?_
      refine x0_get S hin hK hP rfl 1 (by decide) rfl (by decide +kernel) (v := .int (nI 0)) rfl dX0_init_71 ?_
      refine nv_iadd hx hb dX0_init_74 ?_
      refine x0_putF S hin hini hK hP hD hS rfl 6 (by decide) rfl (by decide +kernel) rfl (ty := .int) (v := .int (nI (0 + 0))) rfl rfl rfl (Nat.le_of_ble_eq_true rfl) dX0_init_75 (fun H locs hP hD hS => ?_)
      have hP : va_P D vwCl ([(h, .inr (0, [.int p9, .int (nI 0), .int (nI 0), .null, .null, .null, .int (nI (0 + 0)), .null, .int 0, .int 0, .long 0]))]) H := hP
      have hD : va_D A ([(h, .inr (0, [.int p9, .int (nI 0), .int (nI 0), .null, .null, .null, .int (nI (0 + 0)), .null, .int 0, .int 0, .long 0]))]) := hD
      refine lv_aload_n hx hb dX0_init_78 rfl (lv_at hl 1 rfl) ?_
      refine lv_aload_n hx hb dX0_init_79 rfl (lv_at hl 1 rfl) ?_
      refine x0_get S hin hK hP rfl 1 (by decide) rfl (by decide +kernel) (v := .int (nI 0)) rfl dX0_init_80 ?_
      refine lv_aload_n hx hb dX0_init_83 rfl (lv_at hl 1 rfl) ?_
      refine x0_get S hin hK hP rfl 2 (by decide) rfl (by decide +kernel) (v := .int (nI 0)) rfl dX0_init_84 ?_
      refine nv_imul hx hb dX0_init_87 ?_
      refine va_newa hx hb (atype := .int) (hts (.arrayClass .int) (by decide +kernel)) rfl hK hP hD hS hA (N' := (0 * 0)) (a0 := (0 * 0, .inl (fun _ => 0))) (fun _ => rfl) (nI_pos (by omega)) (nI_clamp (by omega)) (by show _ * 4 ≤ _; omega) (Nat.le_of_ble_eq_true rfl) (by show _ ≤ 320; omega) dX0_init_88 (fun q1 c1 H hK hP hD hS => ?_)
      have hK : va_K D vwCl [(c1, .int)] s := hK
      have hP : va_P D vwCl ([(h, .inr (0, [.int p9, .int (nI 0), .int (nI 0), .null, .null, .null, .int (nI (0 + 0)), .null, .int 0, .int 0, .long 0])), (q1, .inl (c1, 0 * 0, .inl (fun _ => 0)))]) H := hP
      have hD : va_D A ([(h, .inr (0, [.int p9, .int (nI 0), .int (nI 0), .null, .null, .null, .int (nI (0 + 0)), .null, .int 0, .int 0, .long 0])), (q1, .inl (c1, 0 * 0, .inl (fun _ => 0)))]) := hD
      refine x0_putF S hin hini hK hP hD hS rfl 3 (by decide) rfl (by decide +kernel) rfl (ty := .array .int) (v := .ref q1) rfl rfl rfl (Nat.le_of_ble_eq_true rfl) dX0_init_90 (fun H locs hP hD hS => ?_)
      have hP : va_P D vwCl ([(h, .inr (0, [.int p9, .int (nI 0), .int (nI 0), .ref q1, .null, .null, .int (nI (0 + 0)), .null, .int 0, .int 0, .long 0])), (q1, .inl (c1, 0 * 0, .inl (fun _ => 0)))]) H := hP
      have hD : va_D A ([(h, .inr (0, [.int p9, .int (nI 0), .int (nI 0), .ref q1, .null, .null, .int (nI (0 + 0)), .null, .int 0, .int 0, .long 0])), (q1, .inl (c1, 0 * 0, .inl (fun _ => 0)))]) := hD
      refine lv_aload_n hx hb dX0_init_93 rfl (lv_at hl 1 rfl) ?_
      refine lv_aload_n hx hb dX0_init_94 rfl (lv_at hl 1 rfl) ?_
      refine x0_get S hin hK hP rfl 1 (by decide) rfl (by decide +kernel) (v := .int (nI 0)) rfl dX0_init_95 ?_
      refine va_newa hx hb (atype := .int) (hts (.arrayClass .int) (by decide +kernel)) rfl hK hP hD hS hA (N' := 0) (a0 := (0, .inl (fun _ => 0))) (fun _ => rfl) (nI_pos (by omega)) (nI_clamp (by omega)) (by show _ * 4 ≤ _; omega) (Nat.le_of_ble_eq_true rfl) (by show _ ≤ 320; omega) dX0_init_98 (fun q2 c2 H hK hP hD hS => ?_)
      have hK : va_K D vwCl [(c1, .int), (c2, .int)] s := hK
      have hP : va_P D vwCl ([(h, .inr (0, [.int p9, .int (nI 0), .int (nI 0), .ref q1, .null, .null, .int (nI (0 + 0)), .null, .int 0, .int 0, .long 0])), (q1, .inl (c1, 0 * 0, .inl (fun _ => 0))), (q2, .inl (c2, 0, .inl (fun _ => 0)))]) H := hP
      have hD : va_D A ([(h, .inr (0, [.int p9, .int (nI 0), .int (nI 0), .ref q1, .null, .null, .int (nI (0 + 0)), .null, .int 0, .int 0, .long 0])), (q1, .inl (c1, 0 * 0, .inl (fun _ => 0))), (q2, .inl (c2, 0, .inl (fun _ => 0)))]) := hD
      refine x0_putF S hin hini hK hP hD hS rfl 4 (by decide) rfl (by decide +kernel) rfl (ty := .array .int) (v := .ref q2) rfl rfl rfl (Nat.le_of_ble_eq_true rfl) dX0_init_100 (fun H locs hP hD hS => ?_)
      have hP : va_P D vwCl ([(h, .inr (0, [.int p9, .int (nI 0), .int (nI 0), .ref q1, .ref q2, .null, .int (nI (0 + 0)), .null, .int 0, .int 0, .long 0])), (q1, .inl (c1, 0 * 0, .inl (fun _ => 0))), (q2, .inl (c2, 0, .inl (fun _ => 0)))]) H := hP
      have hD : va_D A ([(h, .inr (0, [.int p9, .int (nI 0), .int (nI 0), .ref q1, .ref q2, .null, .int (nI (0 + 0)), .null, .int 0, .int 0, .long 0])), (q1, .inl (c1, 0 * 0, .inl (fun _ => 0))), (q2, .inl (c2, 0, .inl (fun _ => 0)))]) := hD
      refine lv_aload_n hx hb dX0_init_103 rfl (lv_at hl 1 rfl) ?_
      refine lv_aload_n hx hb dX0_init_104 rfl (lv_at hl 1 rfl) ?_
      refine x0_get S hin hK hP rfl 1 (by decide) rfl (by decide +kernel) (v := .int (nI 0)) rfl dX0_init_105 ?_
      refine lv_aload_n hx hb dX0_init_108 rfl (lv_at hl 1 rfl) ?_
      refine x0_get S hin hK hP rfl 6 (by decide) rfl (by decide +kernel) (v := .int (nI (0 + 0))) rfl dX0_init_109 ?_
      refine nv_imul hx hb dX0_init_112 ?_
      refine va_newa hx hb (atype := .int) (hts (.arrayClass .int) (by decide +kernel)) rfl hK hP hD hS hA (N' := (0 * (0 + 0))) (a0 := (0 * (0 + 0), .inl (fun _ => 0))) (fun _ => rfl) (nI_pos (by omega)) (nI_clamp (by omega)) (by show _ * 4 ≤ _; omega) (Nat.le_of_ble_eq_true rfl) (by show _ ≤ 320; omega) dX0_init_113 (fun q3 c3 H hK hP hD hS => ?_)
      have hK : va_K D vwCl [(c1, .int), (c2, .int), (c3, .int)] s := hK
      have hP : va_P D vwCl ([(h, .inr (0, [.int p9, .int (nI 0), .int (nI 0), .ref q1, .ref q2, .null, .int (nI (0 + 0)), .null, .int 0, .int 0, .long 0])), (q1, .inl (c1, 0 * 0, .inl (fun _ => 0))), (q2, .inl (c2, 0, .inl (fun _ => 0))), (q3, .inl (c3, 0 * (0 + 0), .inl (fun _ => 0)))]) H := hP
      have hD : va_D A ([(h, .inr (0, [.int p9, .int (nI 0), .int (nI 0), .ref q1, .ref q2, .null, .int (nI (0 + 0)), .null, .int 0, .int 0, .long 0])), (q1, .inl (c1, 0 * 0, .inl (fun _ => 0))), (q2, .inl (c2, 0, .inl (fun _ => 0))), (q3, .inl (c3, 0 * (0 + 0), .inl (fun _ => 0)))]) := hD
      refine x0_putF S hin hini hK hP hD hS rfl 5 (by decide) rfl (by decide +kernel) rfl (ty := .array .int) (v := .ref q3) rfl rfl rfl (Nat.le_of_ble_eq_true rfl) dX0_init_115 (fun H locs hP hD hS => ?_)
      have hP : va_P D vwCl ([(h, .inr (0, [.int p9, .int (nI 0), .int (nI 0), .ref q1, .ref q2, .ref q3, .int (nI (0 + 0)), .null, .int 0, .int 0, .long 0])), (q1, .inl (c1, 0 * 0, .inl (fun _ => 0))), (q2, .inl (c2, 0, .inl (fun _ => 0))), (q3, .inl (c3, 0 * (0 + 0), .inl (fun _ => 0)))]) H := hP
      have hD : va_D A ([(h, .inr (0, [.int p9, .int (nI 0), .int (nI 0), .ref q1, .ref q2, .ref q3, .int (nI (0 + 0)), .null, .int 0, .int 0, .long 0])), (q1, .inl (c1, 0 * 0, .inl (fun _ => 0))), (q2, .inl (c2, 0, .inl (fun _ => 0))), (q3, .inl (c3, 0 * (0 + 0), .inl (fun _ => 0)))]) := hD
      refine lv_aload_n hx hb dX0_init_118 rfl (lv_at hl 1 rfl) ?_
      refine lv_aload_n hx hb dX0_init_119 rfl (lv_at hl 1 rfl) ?_
      refine x0_get S hin hK hP rfl 2 (by decide) rfl (by decide +kernel) (v := .int (nI 0)) rfl dX0_init_120 ?_
      refine va_newa hx hb (atype := .int) (hts (.arrayClass .int) (by decide +kernel)) rfl hK hP hD hS hA (N' := 0) (a0 := (0, .inl (fun _ => 0))) (fun _ => rfl) (nI_pos (by omega)) (nI_clamp (by omega)) (by show _ * 4 ≤ _; omega) (Nat.le_of_ble_eq_true rfl) (by show _ ≤ 320; omega) dX0_init_123 (fun q4 c4 H hK hP hD hS => ?_)
      have hK : va_K D vwCl [(c1, .int), (c2, .int), (c3, .int), (c4, .int)] s := hK
      have hP : va_P D vwCl ([(h, .inr (0, [.int p9, .int (nI 0), .int (nI 0), .ref q1, .ref q2, .ref q3, .int (nI (0 + 0)), .null, .int 0, .int 0, .long 0])), (q1, .inl (c1, 0 * 0, .inl (fun _ => 0))), (q2, .inl (c2, 0, .inl (fun _ => 0))), (q3, .inl (c3, 0 * (0 + 0), .inl (fun _ => 0))), (q4, .inl (c4, 0, .inl (fun _ => 0)))]) H := hP
      have hD : va_D A ([(h, .inr (0, [.int p9, .int (nI 0), .int (nI 0), .ref q1, .ref q2, .ref q3, .int (nI (0 + 0)), .null, .int 0, .int 0, .long 0])), (q1, .inl (c1, 0 * 0, .inl (fun _ => 0))), (q2, .inl (c2, 0, .inl (fun _ => 0))), (q3, .inl (c3, 0 * (0 + 0), .inl (fun _ => 0))), (q4, .inl (c4, 0, .inl (fun _ => 0)))]) := hD
      refine x0_putF S hin hini hK hP hD hS rfl 7 (by decide) rfl (by decide +kernel) rfl (ty := .array .int) (v := .ref q4) rfl rfl rfl (Nat.le_of_ble_eq_true rfl) dX0_init_125 (fun H locs hP hD hS => ?_)
      have hP : va_P D vwCl ([(h, .inr (0, [.int p9, .int (nI 0), .int (nI 0), .ref q1, .ref q2, .ref q3, .int (nI (0 + 0)), .ref q4, .int 0, .int 0, .long 0])), (q1, .inl (c1, 0 * 0, .inl (fun _ => 0))), (q2, .inl (c2, 0, .inl (fun _ => 0))), (q3, .inl (c3, 0 * (0 + 0), .inl (fun _ => 0))), (q4, .inl (c4, 0, .inl (fun _ => 0)))]) H := hP
      have hD : va_D A ([(h, .inr (0, [.int p9, .int (nI 0), .int (nI 0), .ref q1, .ref q2, .ref q3, .int (nI (0 + 0)), .ref q4, .int 0, .int 0, .long 0])), (q1, .inl (c1, 0 * 0, .inl (fun _ => 0))), (q2, .inl (c2, 0, .inl (fun _ => 0))), (q3, .inl (c3, 0 * (0 + 0), .inl (fun _ => 0))), (q4, .inl (c4, 0, .inl (fun _ => 0)))]) := hD
      refine lv_aload_n hx hb dX0_init_128 rfl (lv_at hl 1 rfl) ?_
      refine lv_iconst (v := nI 0) hx hb dX0_init_129 (by decide +kernel) ?_
      refine x0_put S hin hK hP hD hS rfl 8 (by decide) rfl (by decide +kernel) rfl (ty := .boolean) (v := .int (nI 0)) rfl (by decide +kernel) rfl (Nat.le_of_ble_eq_true rfl) dX0_init_130 (fun H locs hP hD hS => ?_)
      have hP : va_P D vwCl ([(h, .inr (0, [.int p9, .int (nI 0), .int (nI 0), .ref q1, .ref q2, .ref q3, .int (nI (0 + 0)), .ref q4, .int (nI 0), .int 0, .long 0])), (q1, .inl (c1, 0 * 0, .inl (fun _ => 0))), (q2, .inl (c2, 0, .inl (fun _ => 0))), (q3, .inl (c3, 0 * (0 + 0), .inl (fun _ => 0))), (q4, .inl (c4, 0, .inl (fun _ => 0)))]) H := hP
      have hD : va_D A ([(h, .inr (0, [.int p9, .int (nI 0), .int (nI 0), .ref q1, .ref q2, .ref q3, .int (nI (0 + 0)), .ref q4, .int (nI 0), .int 0, .long 0])), (q1, .inl (c1, 0 * 0, .inl (fun _ => 0))), (q2, .inl (c2, 0, .inl (fun _ => 0))), (q3, .inl (c3, 0 * (0 + 0), .inl (fun _ => 0))), (q4, .inl (c4, 0, .inl (fun _ => 0)))]) := hD
      refine lv_aload_n hx hb dX0_init_133 rfl (lv_at hl 1 rfl) ?_
      refine lv_iconst (v := nI 0) hx hb dX0_init_134 (by decide +kernel) ?_
      refine x0_put S hin hK hP hD hS rfl 9 (by decide) rfl (by decide +kernel) rfl (ty := .int) (v := .int (nI 0)) rfl rfl rfl (Nat.le_of_ble_eq_true rfl) dX0_init_135 (fun H locs hP hD hS => ?_)
      have hP : va_P D vwCl ([(h, .inr (0, [.int p9, .int (nI 0), .int (nI 0), .ref q1, .ref q2, .ref q3, .int (nI (0 + 0)), .ref q4, .int (nI 0), .int (nI 0), .long 0])), (q1, .inl (c1, 0 * 0, .inl (fun _ => 0))), (q2, .inl (c2, 0, .inl (fun _ => 0))), (q3, .inl (c3, 0 * (0 + 0), .inl (fun _ => 0))), (q4, .inl (c4, 0, .inl (fun _ => 0)))]) H := hP
      have hD : va_D A ([(h, .inr (0, [.int p9, .int (nI 0), .int (nI 0), .ref q1, .ref q2, .ref q3, .int (nI (0 + 0)), .ref q4, .int (nI 0), .int (nI 0), .long 0])), (q1, .inl (c1, 0 * 0, .inl (fun _ => 0))), (q2, .inl (c2, 0, .inl (fun _ => 0))), (q3, .inl (c3, 0 * (0 + 0), .inl (fun _ => 0))), (q4, .inl (c4, 0, .inl (fun _ => 0)))]) := hD
      refine lv_aload_n hx hb dX0_init_138 rfl (lv_at hl 1 rfl) ?_
      refine lv_lconst (v := lN 1) hx hb dX0_init_139 rfl ?_
      refine x0_put S hin hK hP hD hS rfl 10 (by decide) rfl (by decide +kernel) rfl (ty := .long) (v := .long (lN 1)) rfl rfl rfl (Nat.le_of_ble_eq_true rfl) dX0_init_140 (fun H locs hP hD hS => ?_)
      have hP : va_P D vwCl ([(h, .inr (0, [.int p9, .int (nI 0), .int (nI 0), .ref q1, .ref q2, .ref q3, .int (nI (0 + 0)), .ref q4, .int (nI 0), .int (nI 0), .long (lN 1)])), (q1, .inl (c1, 0 * 0, .inl (fun _ => 0))), (q2, .inl (c2, 0, .inl (fun _ => 0))), (q3, .inl (c3, 0 * (0 + 0), .inl (fun _ => 0))), (q4, .inl (c4, 0, .inl (fun _ => 0)))]) H := hP
      have hD : va_D A ([(h, .inr (0, [.int p9, .int (nI 0), .int (nI 0), .ref q1, .ref q2, .ref q3, .int (nI (0 + 0)), .ref q4, .int (nI 0), .int (nI 0), .long (lN 1)])), (q1, .inl (c1, 0 * 0, .inl (fun _ => 0))), (q2, .inl (c2, 0, .inl (fun _ => 0))), (q3, .inl (c3, 0 * (0 + 0), .inl (fun _ => 0))), (q4, .inl (c4, 0, .inl (fun _ => 0)))]) := hD
      have ec2 := K_eq hK 0 1 rfl rfl
      have ec3 := K_eq hK 0 2 rfl rfl
      have ec4 := K_eq hK 0 3 rfl rfl
      subst ec2 ec3 ec4
      refine W.widen (k := 4) (n := 320) (by omega) (by omega) ?_
      exact hret (q1, q2, q3, q4, c1, 0, 0, 0) 143 ls _ _ dX0_init_143 hP hD (hK.sub [0] rfl) hS (inval_t nok2)
  · refine nv_if_eq (tgt := 29) hx hb dX0_init_8 (by decide) (by decide) (fun _ => ?_) (fun q => absurd q (by decide))
    refine lv_iconst (v := nI 0) hx hb dX0_init_29 (by decide +kernel) ?_
    refine lv_istore (lv' := [(4, .int (nI 0)), (0, .ref h), (1, .int p9), (2, .int m9), (3, .int n9)]) hx hb dX0_init_30 hl (by decide) rfl (fun ls hl => ?_)
    refine lv_aload_n hx hb dX0_init_32 rfl (lv_at hl 1 rfl) ?_
    refine lv_iload_n hx hb dX0_init_33 rfl (lv_at hl 2 rfl) ?_
    refine x0_putF S hin hini hK hP hD hS rfl 0 (by decide) rfl (by decide +kernel) rfl (ty := .int) (v := .int p9) rfl rfl rfl (Nat.le_of_ble_eq_true rfl) dX0_init_34 (fun H locs hP hD hS => ?_)
    have hP : va_P D vwCl ([(h, .inr (0, [.int p9, .int 0, .int 0, .null, .null, .null, .int 0, .null, .int 0, .int 0, .long 0]))]) H := hP
    have hD : va_D A ([(h, .inr (0, [.int p9, .int 0, .int 0, .null, .null, .null, .int 0, .null, .int 0, .int 0, .long 0]))]) := hD
    refine lv_aload_n hx hb dX0_init_37 rfl (lv_at hl 1 rfl) ?_
    refine lv_iload hx hb dX0_init_38 (lv_at hl 0 rfl) ?_
    refine nv_if_eq (tgt := 47) hx hb dX0_init_40 (by decide) (by decide) (fun _ => ?_) (fun q => absurd q (by decide))
    refine lv_iconst (v := nI 0) hx hb dX0_init_47 (by decide +kernel) ?_
    refine x0_putF S hin hini hK hP hD hS rfl 1 (by decide) rfl (by decide +kernel) rfl (ty := .int) (v := .int (nI 0)) rfl rfl rfl (Nat.le_of_ble_eq_true rfl) dX0_init_48 (fun H locs hP hD hS => ?_)
    have hP : va_P D vwCl ([(h, .inr (0, [.int p9, .int (nI 0), .int 0, .null, .null, .null, .int 0, .null, .int 0, .int 0, .long 0]))]) H := hP
    have hD : va_D A ([(h, .inr (0, [.int p9, .int (nI 0), .int 0, .null, .null, .null, .int 0, .null, .int 0, .int 0, .long 0]))]) := hD
    refine lv_aload_n hx hb dX0_init_51 rfl (lv_at hl 1 rfl) ?_
    refine lv_iload hx hb dX0_init_52 (lv_at hl 0 rfl) ?_
    refine nv_if_eq (tgt := 61) hx hb dX0_init_54 (by decide) (by decide) (fun _ => ?_) (fun q => absurd q (by decide))
    refine lv_iconst (v := nI 0) hx hb dX0_init_61 (by decide +kernel) ?_
    refine x0_putF S hin hini hK hP hD hS rfl 2 (by decide) rfl (by decide +kernel) rfl (ty := .int) (v := .int (nI 0)) rfl rfl rfl (Nat.le_of_ble_eq_true rfl) dX0_init_62 (fun H locs hP hD hS => ?_)
    have hP : va_P D vwCl ([(h, .inr (0, [.int p9, .int (nI 0), .int (nI 0), .null, .null, .null, .int 0, .null, .int 0, .int 0, .long 0]))]) H := hP
    have hD : va_D A ([(h, .inr (0, [.int p9, .int (nI 0), .int (nI 0), .null, .null, .null, .int 0, .null, .int 0, .int 0, .long 0]))]) := hD
    refine lv_aload_n hx hb dX0_init_65 rfl (lv_at hl 1 rfl) ?_
    refine lv_aload_n hx hb dX0_init_66 rfl (lv_at hl 1 rfl) ?_
    refine x0_get S hin hK hP rfl 2 (by decide) rfl (by decide +kernel) (v := .int (nI 0)) rfl dX0_init_67 ?_
    refine lv_aload_n hx hb dX0_init_70 rfl (lv_at hl 1 rfl) ?_
    refine x0_get S hin hK hP rfl 1 (by decide) rfl (by decide +kernel) (v := .int (nI 0)) rfl dX0_init_71 ?_
    refine nv_iadd hx hb dX0_init_74 ?_
    refine x0_putF S hin hini hK hP hD hS rfl 6 (by decide) rfl (by decide +kernel) rfl (ty := .int) (v := .int (nI (0 + 0))) rfl rfl rfl (Nat.le_of_ble_eq_true rfl) dX0_init_75 (fun H locs hP hD hS => ?_)
    have hP : va_P D vwCl ([(h, .inr (0, [.int p9, .int (nI 0), .int (nI 0), .null, .null, .null, .int (nI (0 + 0)), .null, .int 0, .int 0, .long 0]))]) H := hP
    have hD : va_D A ([(h, .inr (0, [.int p9, .int (nI 0), .int (nI 0), .null, .null, .null, .int (nI (0 + 0)), .null, .int 0, .int 0, .long 0]))]) := hD
    refine lv_aload_n hx hb dX0_init_78 rfl (lv_at hl 1 rfl) ?_
    refine lv_aload_n hx hb dX0_init_79 rfl (lv_at hl 1 rfl) ?_
    refine x0_get S hin hK hP rfl 1 (by decide) rfl (by decide +kernel) (v := .int (nI 0)) rfl dX0_init_80 ?_
    refine lv_aload_n hx hb dX0_init_83 rfl (lv_at hl 1 rfl) ?_
    refine x0_get S hin hK hP rfl 2 (by decide) rfl (by decide +kernel) (v := .int (nI 0)) rfl dX0_init_84 ?_
    refine nv_imul hx hb dX0_init_87 ?_
    refine va_newa hx hb (atype := .int) (hts (.arrayClass .int) (by decide +kernel)) rfl hK hP hD hS hA (N' := (0 * 0)) (a0 := (0 * 0, .inl (fun _ => 0))) (fun _ => rfl) (nI_pos (by omega)) (nI_clamp (by omega)) (by show _ * 4 ≤ _; omega) (Nat.le_of_ble_eq_true rfl) (by show _ ≤ 320; omega) dX0_init_88 (fun q1 c1 H hK hP hD hS => ?_)
    have hK : va_K D vwCl [(c1, .int)] s := hK
    have hP : va_P D vwCl ([(h, .inr (0, [.int p9, .int (nI 0), .int (nI 0), .null, .null, .null, .int (nI (0 + 0)), .null, .int 0, .int 0, .long 0])), (q1, .inl (c1, 0 * 0, .inl (fun _ => 0)))]) H := hP
    have hD : va_D A ([(h, .inr (0, [.int p9, .int (nI 0), .int (nI 0), .null, .null, .null, .int (nI (0 + 0)), .null, .int 0, .int 0, .long 0])), (q1, .inl (c1, 0 * 0, .inl (fun _ => 0)))]) := hD
    refine x0_putF S hin hini hK hP hD hS rfl 3 (by decide) rfl (by decide +kernel) rfl (ty := .array .int) (v := .ref q1) rfl rfl rfl (Nat.le_of_ble_eq_true rfl) dX0_init_90 (fun H locs hP hD hS => ?_)
    have hP : va_P D vwCl ([(h, .inr (0, [.int p9, .int (nI 0), .int (nI 0), .ref q1, .null, .null, .int (nI (0 + 0)), .null, .int 0, .int 0, .long 0])), (q1, .inl (c1, 0 * 0, .inl (fun _ => 0)))]) H := hP
    have hD : va_D A ([(h, .inr (0, [.int p9, .int (nI 0), .int (nI 0), .ref q1, .null, .null, .int (nI (0 + 0)), .null, .int 0, .int 0, .long 0])), (q1, .inl (c1, 0 * 0, .inl (fun _ => 0)))]) := hD
    refine lv_aload_n hx hb dX0_init_93 rfl (lv_at hl 1 rfl) ?_
    refine lv_aload_n hx hb dX0_init_94 rfl (lv_at hl 1 rfl) ?_
    refine x0_get S hin hK hP rfl 1 (by decide) rfl (by decide +kernel) (v := .int (nI 0)) rfl dX0_init_95 ?_
    refine va_newa hx hb (atype := .int) (hts (.arrayClass .int) (by decide +kernel)) rfl hK hP hD hS hA (N' := 0) (a0 := (0, .inl (fun _ => 0))) (fun _ => rfl) (nI_pos (by omega)) (nI_clamp (by omega)) (by show _ * 4 ≤ _; omega) (Nat.le_of_ble_eq_true rfl) (by show _ ≤ 320; omega) dX0_init_98 (fun q2 c2 H hK hP hD hS => ?_)
    have hK : va_K D vwCl [(c1, .int), (c2, .int)] s := hK
    have hP : va_P D vwCl ([(h, .inr (0, [.int p9, .int (nI 0), .int (nI 0), .ref q1, .null, .null, .int (nI (0 + 0)), .null, .int 0, .int 0, .long 0])), (q1, .inl (c1, 0 * 0, .inl (fun _ => 0))), (q2, .inl (c2, 0, .inl (fun _ => 0)))]) H := hP
    have hD : va_D A ([(h, .inr (0, [.int p9, .int (nI 0), .int (nI 0), .ref q1, .null, .null, .int (nI (0 + 0)), .null, .int 0, .int 0, .long 0])), (q1, .inl (c1, 0 * 0, .inl (fun _ => 0))), (q2, .inl (c2, 0, .inl (fun _ => 0)))]) := hD
    refine x0_putF S hin hini hK hP hD hS rfl 4 (by decide) rfl (by decide +kernel) rfl (ty := .array .int) (v := .ref q2) rfl rfl rfl (Nat.le_of_ble_eq_true rfl) dX0_init_100 (fun H locs hP hD hS => ?_)
    have hP : va_P D vwCl ([(h, .inr (0, [.int p9, .int (nI 0), .int (nI 0), .ref q1, .ref q2, .null, .int (nI (0 + 0)), .null, .int 0, .int 0, .long 0])), (q1, .inl (c1, 0 * 0, .inl (fun _ => 0))), (q2, .inl (c2, 0, .inl (fun _ => 0)))]) H := hP
    have hD : va_D A ([(h, .inr (0, [.int p9, .int (nI 0), .int (nI 0), .ref q1, .ref q2, .null, .int (nI (0 + 0)), .null, .int 0, .int 0, .long 0])), (q1, .inl (c1, 0 * 0, .inl (fun _ => 0))), (q2, .inl (c2, 0, .inl (fun _ => 0)))]) := hD
    refine lv_aload_n hx hb dX0_init_103 rfl (lv_at hl 1 rfl) ?_
    refine lv_aload_n hx hb dX0_init_104 rfl (lv_at hl 1 rfl) ?_
    refine x0_get S hin hK hP rfl 1 (by decide) rfl (by decide +kernel) (v := .int (nI 0)) rfl dX0_init_105 ?_
    refine lv_aload_n hx hb dX0_init_108 rfl (lv_at hl 1 rfl) ?_
    refine x0_get S hin hK hP rfl 6 (by decide) rfl (by decide +kernel) (v := .int (nI (0 + 0))) rfl dX0_init_109 ?_
    refine nv_imul hx hb dX0_init_112 ?_
    refine va_newa hx hb (atype := .int) (hts (.arrayClass .int) (by decide +kernel)) rfl hK hP hD hS hA (N' := (0 * (0 + 0))) (a0 := (0 * (0 + 0), .inl (fun _ => 0))) (fun _ => rfl) (nI_pos (by omega)) (nI_clamp (by omega)) (by show _ * 4 ≤ _; omega) (Nat.le_of_ble_eq_true rfl) (by show _ ≤ 320; omega) dX0_init_113 (fun q3 c3 H hK hP hD hS => ?_)
    have hK : va_K D vwCl [(c1, .int), (c2, .int), (c3, .int)] s := hK
    have hP : va_P D vwCl ([(h, .inr (0, [.int p9, .int (nI 0), .int (nI 0), .ref q1, .ref q2, .null, .int (nI (0 + 0)), .null, .int 0, .int 0, .long 0])), (q1, .inl (c1, 0 * 0, .inl (fun _ => 0))), (q2, .inl (c2, 0, .inl (fun _ => 0))), (q3, .inl (c3, 0 * (0 + 0), .inl (fun _ => 0)))]) H := hP
    have hD : va_D A ([(h, .inr (0, [.int p9, .int (nI 0), .int (nI 0), .ref q1, .ref q2, .null, .int (nI (0 + 0)), .null, .int 0, .int 0, .long 0])), (q1, .inl (c1, 0 * 0, .inl (fun _ => 0))), (q2, .inl (c2, 0, .inl (fun _ => 0))), (q3, .inl (c3, 0 * (0 + 0), .inl (fun _ => 0)))]) := hD
    refine x0_putF S hin hini hK hP hD hS rfl 5 (by decide) rfl (by decide +kernel) rfl (ty := .array .int) (v := .ref q3) rfl rfl rfl (Nat.le_of_ble_eq_true rfl) dX0_init_115 (fun H locs hP hD hS => ?_)
    have hP : va_P D vwCl ([(h, .inr (0, [.int p9, .int (nI 0), .int (nI 0), .ref q1, .ref q2, .ref q3, .int (nI (0 + 0)), .null, .int 0, .int 0, .long 0])), (q1, .inl (c1, 0 * 0, .inl (fun _ => 0))), (q2, .inl (c2, 0, .inl (fun _ => 0))), (q3, .inl (c3, 0 * (0 + 0), .inl (fun _ => 0)))]) H := hP
    have hD : va_D A ([(h, .inr (0, [.int p9, .int (nI 0), .int (nI 0), .ref q1, .ref q2, .ref q3, .int (nI (0 + 0)), .null, .int 0, .int 0, .long 0])), (q1, .inl (c1, 0 * 0, .inl (fun _ => 0))), (q2, .inl (c2, 0, .inl (fun _ => 0))), (q3, .inl (c3, 0 * (0 + 0), .inl (fun _ => 0)))]) := hD
    refine lv_aload_n hx hb dX0_init_118 rfl (lv_at hl 1 rfl) ?_
    refine lv_aload_n hx hb dX0_init_119 rfl (lv_at hl 1 rfl) ?_
    refine x0_get S hin hK hP rfl 2 (by decide) rfl (by decide +kernel) (v := .int (nI 0)) rfl dX0_init_120 ?_
    refine va_newa hx hb (atype := .int) (hts (.arrayClass .int) (by decide +kernel)) rfl hK hP hD hS hA (N' := 0) (a0 := (0, .inl (fun _ => 0))) (fun _ => rfl) (nI_pos (by omega)) (nI_clamp (by omega)) (by show _ * 4 ≤ _; omega) (Nat.le_of_ble_eq_true rfl) (by show _ ≤ 320; omega) dX0_init_123 (fun q4 c4 H hK hP hD hS => ?_)
    have hK : va_K D vwCl [(c1, .int), (c2, .int), (c3, .int), (c4, .int)] s := hK
    have hP : va_P D vwCl ([(h, .inr (0, [.int p9, .int (nI 0), .int (nI 0), .ref q1, .ref q2, .ref q3, .int (nI (0 + 0)), .null, .int 0, .int 0, .long 0])), (q1, .inl (c1, 0 * 0, .inl (fun _ => 0))), (q2, .inl (c2, 0, .inl (fun _ => 0))), (q3, .inl (c3, 0 * (0 + 0), .inl (fun _ => 0))), (q4, .inl (c4, 0, .inl (fun _ => 0)))]) H := hP
    have hD : va_D A ([(h, .inr (0, [.int p9, .int (nI 0), .int (nI 0), .ref q1, .ref q2, .ref q3, .int (nI (0 + 0)), .null, .int 0, .int 0, .long 0])), (q1, .inl (c1, 0 * 0, .inl (fun _ => 0))), (q2, .inl (c2, 0, .inl (fun _ => 0))), (q3, .inl (c3, 0 * (0 + 0), .inl (fun _ => 0))), (q4, .inl (c4, 0, .inl (fun _ => 0)))]) := hD
    refine x0_putF S hin hini hK hP hD hS rfl 7 (by decide) rfl (by decide +kernel) rfl (ty := .array .int) (v := .ref q4) rfl rfl rfl (Nat.le_of_ble_eq_true rfl) dX0_init_125 (fun H locs hP hD hS => ?_)
    have hP : va_P D vwCl ([(h, .inr (0, [.int p9, .int (nI 0), .int (nI 0), .ref q1, .ref q2, .ref q3, .int (nI (0 + 0)), .ref q4, .int 0, .int 0, .long 0])), (q1, .inl (c1, 0 * 0, .inl (fun _ => 0))), (q2, .inl (c2, 0, .inl (fun _ => 0))), (q3, .inl (c3, 0 * (0 + 0), .inl (fun _ => 0))), (q4, .inl (c4, 0, .inl (fun _ => 0)))]) H := hP
    have hD : va_D A ([(h, .inr (0, [.int p9, .int (nI 0), .int (nI 0), .ref q1, .ref q2, .ref q3, .int (nI (0 + 0)), .ref q4, .int 0, .int 0, .long 0])), (q1, .inl (c1, 0 * 0, .inl (fun _ => 0))), (q2, .inl (c2, 0, .inl (fun _ => 0))), (q3, .inl (c3, 0 * (0 + 0), .inl (fun _ => 0))), (q4, .inl (c4, 0, .inl (fun _ => 0)))]) := hD
    refine lv_aload_n hx hb dX0_init_128 rfl (lv_at hl 1 rfl) ?_
    refine lv_iconst (v := nI 0) hx hb dX0_init_129 (by decide +kernel) ?_
    refine x0_put S hin hK hP hD hS rfl 8 (by decide) rfl (by decide +kernel) rfl (ty := .boolean) (v := .int (nI 0)) rfl (by decide +kernel) rfl (Nat.le_of_ble_eq_true rfl) dX0_init_130 (fun H locs hP hD hS => ?_)
    have hP : va_P D vwCl ([(h, .inr (0, [.int p9, .int (nI 0), .int (nI 0), .ref q1, .ref q2, .ref q3, .int (nI (0 + 0)), .ref q4, .int (nI 0), .int 0, .long 0])), (q1, .inl (c1, 0 * 0, .inl (fun _ => 0))), (q2, .inl (c2, 0, .inl (fun _ => 0))), (q3, .inl (c3, 0 * (0 + 0), .inl (fun _ => 0))), (q4, .inl (c4, 0, .inl (fun _ => 0)))]) H := hP
    have hD : va_D A ([(h, .inr (0, [.int p9, .int (nI 0), .int (nI 0), .ref q1, .ref q2, .ref q3, .int (nI (0 + 0)), .ref q4, .int (nI 0), .int 0, .long 0])), (q1, .inl (c1, 0 * 0, .inl (fun _ => 0))), (q2, .inl (c2, 0, .inl (fun _ => 0))), (q3, .inl (c3, 0 * (0 + 0), .inl (fun _ => 0))), (q4, .inl (c4, 0, .inl (fun _ => 0)))]) := hD
    refine lv_aload_n hx hb dX0_init_133 rfl (lv_at hl 1 rfl) ?_
    refine lv_iconst (v := nI 0) hx hb dX0_init_134 (by decide +kernel) ?_
    refine x0_put S hin hK hP hD hS rfl 9 (by decide) rfl (by decide +kernel) rfl (ty := .int) (v := .int (nI 0)) rfl rfl rfl (Nat.le_of_ble_eq_true rfl) dX0_init_135 (fun H locs hP hD hS => ?_)
    have hP : va_P D vwCl ([(h, .inr (0, [.int p9, .int (nI 0), .int (nI 0), .ref q1, .ref q2, .ref q3, .int (nI (0 + 0)), .ref q4, .int (nI 0), .int (nI 0), .long 0])), (q1, .inl (c1, 0 * 0, .inl (fun _ => 0))), (q2, .inl (c2, 0, .inl (fun _ => 0))), (q3, .inl (c3, 0 * (0 + 0), .inl (fun _ => 0))), (q4, .inl (c4, 0, .inl (fun _ => 0)))]) H := hP
    have hD : va_D A ([(h, .inr (0, [.int p9, .int (nI 0), .int (nI 0), .ref q1, .ref q2, .ref q3, .int (nI (0 + 0)), .ref q4, .int (nI 0), .int (nI 0), .long 0])), (q1, .inl (c1, 0 * 0, .inl (fun _ => 0))), (q2, .inl (c2, 0, .inl (fun _ => 0))), (q3, .inl (c3, 0 * (0 + 0), .inl (fun _ => 0))), (q4, .inl (c4, 0, .inl (fun _ => 0)))]) := hD
    refine lv_aload_n hx hb dX0_init_138 rfl (lv_at hl 1 rfl) ?_
    refine lv_lconst (v := lN 1) hx hb dX0_init_139 rfl ?_
    refine x0_put S hin hK hP hD hS rfl 10 (by decide) rfl (by decide +kernel) rfl (ty := .long) (v := .long (lN 1)) rfl rfl rfl (Nat.le_of_ble_eq_true rfl) dX0_init_140 (fun H locs hP hD hS => ?_)
    have hP : va_P D vwCl ([(h, .inr (0, [.int p9, .int (nI 0), .int (nI 0), .ref q1, .ref q2, .ref q3, .int (nI (0 + 0)), .ref q4, .int (nI 0), .int (nI 0), .long (lN 1)])), (q1, .inl (c1, 0 * 0, .inl (fun _ => 0))), (q2, .inl (c2, 0, .inl (fun _ => 0))), (q3, .inl (c3, 0 * (0 + 0), .inl (fun _ => 0))), (q4, .inl (c4, 0, .inl (fun _ => 0)))]) H := hP
    have hD : va_D A ([(h, .inr (0, [.int p9, .int (nI 0), .int (nI 0), .ref q1, .ref q2, .ref q3, .int (nI (0 + 0)), .ref q4, .int (nI 0), .int (nI 0), .long (lN 1)])), (q1, .inl (c1, 0 * 0, .inl (fun _ => 0))), (q2, .inl (c2, 0, .inl (fun _ => 0))), (q3, .inl (c3, 0 * (0 + 0), .inl (fun _ => 0))), (q4, .inl (c4, 0, .inl (fun _ => 0)))]) := hD
    have ec2 := K_eq hK 0 1 rfl rfl
    have ec3 := K_eq hK 0 2 rfl rfl
    have ec4 := K_eq hK 0 3 rfl rfl
    subst ec2 ec3 ec4
    refine W.widen (k := 4) (n := 320) (by omega) (by omega) ?_
    exact hret (q1, q2, q3, q4, c1, 0, 0, 0) 143 ls _ _ dX0_init_143 hP hD (hK.sub [0] rfl) hS (inval_s nok1)
set_option maxHeartbeats 4000000 in
set_option maxRecDepth 100000 in
theorem c_X1_init (l : Launch) (D : va_G) {h : Nat} (p9 m9 n9 : Int32)  : MkV (U := Nat × Nat × Nat × Nat × Nat × ClassId × ClassId × Nat × Nat × Nat × Nat) l yX1_init wsX1_init ({ frames := 1, cells := 5, slots := 1344, locals := 23 }) [.ref h, .int p9, .int m9, .int n9] D [(h, .inr (1, [.int 0, .long 0, .int 0, .int 0, .int 0, .null, .null, .int 0, .int 0, .null, .null, .null]))] 5 1344 (fun u => Dims p9 m9 n9 u.2.2.2.2.2.2.2.1 u.2.2.2.2.2.2.2.2.1 u.2.2.2.2.2.2.2.2.2.1 ∧ u.2.2.2.2.2.2.2.2.2.2 = if u.2.2.2.2.2.2.2.2.1 = 0 then 0 else 1) (fun u => mdW h u.1 u.2.1 u.2.2.1 u.2.2.2.1 u.2.2.2.2.1 u.2.2.2.2.2.1 u.2.2.2.2.2.2.1 p9.toInt64 m9 n9 u.2.2.2.2.2.2.2.2.2.2 (fun _ => 0) (fun _ => 0) 0 0 (fun _ => 0) (fun _ => 0) (fun _ => 0)) (fun u => [(u.2.2.2.2.2.1, .long), (u.2.2.2.2.2.2.1, .int)]) := by
  refine MkV.mk (cc := cX1_init) (maxL := 4) (by decide) rfl rfl (Nat.le_of_ble_eq_true rfl) ?_
  intro p e s mm args below meth c Q ls A S hini hK hP hD hA hS hl hret
  have hx := S.1
  have hb := S.2.1
  have hml := S.2.2.1
  have hts := S.2.2.2.2
  have hown := S.2.2.2.1
  have hin : ∀ w ∈ wsX10, w ∈ wsX1_init := fun w h => List.mem_cons_of_mem _ (List.mem_append_right _ h)
  have hl : lv_has ls 4 [(0, .ref h), (1, .int p9), (2, .int m9), (3, .int n9)] := hl
  refine lv_aload_n hx hb dX1_init_0 rfl (lv_at hl 0 rfl) ?_
  refine W.objInit hx hb hown (hts (.methodLink RX1 1 objectInit) (by decide +kernel)) (hts (.instanceMethod objectInit) (by decide +kernel)) (hts (.code objectInit ⟨#[0xb1]⟩ 1 none) (by decide +kernel)) rfl (by rw [hml]; exact hl.1) rfl dX1_init_1 (Nat.le_of_ble_eq_true rfl) (Nat.le_of_ble_eq_true rfl) ?_
  refine W.eq (g2 := F0 mm 4 ls []) rfl ?_
  refine lv_aload_n hx hb dX1_init_4 rfl (lv_at hl 0 rfl) ?_
  refine lv_bipush (v := nI 100) hx hb dX1_init_5 (by decide +kernel) ?_
  refine va_newa hx hb (atype := .long) (hts (.arrayClass .long) (by decide +kernel)) rfl hK hP hD hS hA (N' := 100) (a0 := (100, .inr (.inl (fun _ => 0)))) (fun _ => rfl) (nI_pos (by omega)) (nI_clamp (by omega)) (by show _ * 8 ≤ _; omega) (Nat.le_of_ble_eq_true rfl) (by show _ ≤ 1344; omega) dX1_init_7 (fun q1 c1 H hK hP hD hS => ?_)
  have hK : va_K D vwCl [(c1, .long)] s := hK
  have hP : va_P D vwCl ([(h, .inr (1, [.int 0, .long 0, .int 0, .int 0, .int 0, .null, .null, .int 0, .int 0, .null, .null, .null])), (q1, .inl (c1, 100, .inr (.inl (fun _ => 0))))]) H := hP
  have hD : va_D A ([(h, .inr (1, [.int 0, .long 0, .int 0, .int 0, .int 0, .null, .null, .int 0, .int 0, .null, .null, .null])), (q1, .inl (c1, 100, .inr (.inl (fun _ => 0))))]) := hD
  refine x1_putF S hin hini hK hP hD hS rfl 5 (by decide) rfl (by decide +kernel) rfl (ty := .array .long) (v := .ref q1) rfl rfl rfl (Nat.le_of_ble_eq_true rfl) dX1_init_9 (fun H locs hP hD hS => ?_)
  have hP : va_P D vwCl ([(h, .inr (1, [.int 0, .long 0, .int 0, .int 0, .int 0, .ref q1, .null, .int 0, .int 0, .null, .null, .null])), (q1, .inl (c1, 100, .inr (.inl (fun _ => 0))))]) H := hP
  have hD : va_D A ([(h, .inr (1, [.int 0, .long 0, .int 0, .int 0, .int 0, .ref q1, .null, .int 0, .int 0, .null, .null, .null])), (q1, .inl (c1, 100, .inr (.inl (fun _ => 0))))]) := hD
  refine lv_aload_n hx hb dX1_init_12 rfl (lv_at hl 0 rfl) ?_
  refine lv_bipush (v := nI 10) hx hb dX1_init_13 (by decide +kernel) ?_
  refine va_newa hx hb (atype := .long) (hts (.arrayClass .long) (by decide +kernel)) rfl hK hP hD hS hA (N' := 10) (a0 := (10, .inr (.inl (fun _ => 0)))) (fun _ => rfl) (nI_pos (by omega)) (nI_clamp (by omega)) (by show _ * 8 ≤ _; omega) (Nat.le_of_ble_eq_true rfl) (by show _ ≤ 1344; omega) dX1_init_15 (fun q2 c2 H hK hP hD hS => ?_)
  have hK : va_K D vwCl [(c1, .long), (c2, .long)] s := hK
  have hP : va_P D vwCl ([(h, .inr (1, [.int 0, .long 0, .int 0, .int 0, .int 0, .ref q1, .null, .int 0, .int 0, .null, .null, .null])), (q1, .inl (c1, 100, .inr (.inl (fun _ => 0)))), (q2, .inl (c2, 10, .inr (.inl (fun _ => 0))))]) H := hP
  have hD : va_D A ([(h, .inr (1, [.int 0, .long 0, .int 0, .int 0, .int 0, .ref q1, .null, .int 0, .int 0, .null, .null, .null])), (q1, .inl (c1, 100, .inr (.inl (fun _ => 0)))), (q2, .inl (c2, 10, .inr (.inl (fun _ => 0))))]) := hD
  refine x1_putF S hin hini hK hP hD hS rfl 6 (by decide) rfl (by decide +kernel) rfl (ty := .array .long) (v := .ref q2) rfl rfl rfl (Nat.le_of_ble_eq_true rfl) dX1_init_17 (fun H locs hP hD hS => ?_)
  have hP : va_P D vwCl ([(h, .inr (1, [.int 0, .long 0, .int 0, .int 0, .int 0, .ref q1, .ref q2, .int 0, .int 0, .null, .null, .null])), (q1, .inl (c1, 100, .inr (.inl (fun _ => 0)))), (q2, .inl (c2, 10, .inr (.inl (fun _ => 0))))]) H := hP
  have hD : va_D A ([(h, .inr (1, [.int 0, .long 0, .int 0, .int 0, .int 0, .ref q1, .ref q2, .int 0, .int 0, .null, .null, .null])), (q1, .inl (c1, 100, .inr (.inl (fun _ => 0)))), (q2, .inl (c2, 10, .inr (.inl (fun _ => 0))))]) := hD
  refine lv_aload_n hx hb dX1_init_20 rfl (lv_at hl 0 rfl) ?_
  refine lv_sipush (v := nI 200) hx hb dX1_init_21 (by decide +kernel) ?_
  refine va_newa hx hb (atype := .long) (hts (.arrayClass .long) (by decide +kernel)) rfl hK hP hD hS hA (N' := 200) (a0 := (200, .inr (.inl (fun _ => 0)))) (fun _ => rfl) (nI_pos (by omega)) (nI_clamp (by omega)) (by show _ * 8 ≤ _; omega) (Nat.le_of_ble_eq_true rfl) (by show _ ≤ 1344; omega) dX1_init_24 (fun q3 c3 H hK hP hD hS => ?_)
  have hK : va_K D vwCl [(c1, .long), (c2, .long), (c3, .long)] s := hK
  have hP : va_P D vwCl ([(h, .inr (1, [.int 0, .long 0, .int 0, .int 0, .int 0, .ref q1, .ref q2, .int 0, .int 0, .null, .null, .null])), (q1, .inl (c1, 100, .inr (.inl (fun _ => 0)))), (q2, .inl (c2, 10, .inr (.inl (fun _ => 0)))), (q3, .inl (c3, 200, .inr (.inl (fun _ => 0))))]) H := hP
  have hD : va_D A ([(h, .inr (1, [.int 0, .long 0, .int 0, .int 0, .int 0, .ref q1, .ref q2, .int 0, .int 0, .null, .null, .null])), (q1, .inl (c1, 100, .inr (.inl (fun _ => 0)))), (q2, .inl (c2, 10, .inr (.inl (fun _ => 0)))), (q3, .inl (c3, 200, .inr (.inl (fun _ => 0))))]) := hD
  refine x1_putF S hin hini hK hP hD hS rfl 9 (by decide) rfl (by decide +kernel) rfl (ty := .array .long) (v := .ref q3) rfl rfl rfl (Nat.le_of_ble_eq_true rfl) dX1_init_26 (fun H locs hP hD hS => ?_)
  have hP : va_P D vwCl ([(h, .inr (1, [.int 0, .long 0, .int 0, .int 0, .int 0, .ref q1, .ref q2, .int 0, .int 0, .ref q3, .null, .null])), (q1, .inl (c1, 100, .inr (.inl (fun _ => 0)))), (q2, .inl (c2, 10, .inr (.inl (fun _ => 0)))), (q3, .inl (c3, 200, .inr (.inl (fun _ => 0))))]) H := hP
  have hD : va_D A ([(h, .inr (1, [.int 0, .long 0, .int 0, .int 0, .int 0, .ref q1, .ref q2, .int 0, .int 0, .ref q3, .null, .null])), (q1, .inl (c1, 100, .inr (.inl (fun _ => 0)))), (q2, .inl (c2, 10, .inr (.inl (fun _ => 0)))), (q3, .inl (c3, 200, .inr (.inl (fun _ => 0))))]) := hD
  refine lv_aload_n hx hb dX1_init_29 rfl (lv_at hl 0 rfl) ?_
  refine lv_bipush (v := nI 10) hx hb dX1_init_30 (by decide +kernel) ?_
  refine va_newa hx hb (atype := .int) (hts (.arrayClass .int) (by decide +kernel)) rfl hK hP hD hS hA (N' := 10) (a0 := (10, .inl (fun _ => 0))) (fun _ => rfl) (nI_pos (by omega)) (nI_clamp (by omega)) (by show _ * 4 ≤ _; omega) (Nat.le_of_ble_eq_true rfl) (by show _ ≤ 1344; omega) dX1_init_32 (fun q4 c4 H hK hP hD hS => ?_)
  have hK : va_K D vwCl [(c1, .long), (c2, .long), (c3, .long), (c4, .int)] s := hK
  have hP : va_P D vwCl ([(h, .inr (1, [.int 0, .long 0, .int 0, .int 0, .int 0, .ref q1, .ref q2, .int 0, .int 0, .ref q3, .null, .null])), (q1, .inl (c1, 100, .inr (.inl (fun _ => 0)))), (q2, .inl (c2, 10, .inr (.inl (fun _ => 0)))), (q3, .inl (c3, 200, .inr (.inl (fun _ => 0)))), (q4, .inl (c4, 10, .inl (fun _ => 0)))]) H := hP
  have hD : va_D A ([(h, .inr (1, [.int 0, .long 0, .int 0, .int 0, .int 0, .ref q1, .ref q2, .int 0, .int 0, .ref q3, .null, .null])), (q1, .inl (c1, 100, .inr (.inl (fun _ => 0)))), (q2, .inl (c2, 10, .inr (.inl (fun _ => 0)))), (q3, .inl (c3, 200, .inr (.inl (fun _ => 0)))), (q4, .inl (c4, 10, .inl (fun _ => 0)))]) := hD
  refine x1_putF S hin hini hK hP hD hS rfl 10 (by decide) rfl (by decide +kernel) rfl (ty := .array .int) (v := .ref q4) rfl rfl rfl (Nat.le_of_ble_eq_true rfl) dX1_init_34 (fun H locs hP hD hS => ?_)
  have hP : va_P D vwCl ([(h, .inr (1, [.int 0, .long 0, .int 0, .int 0, .int 0, .ref q1, .ref q2, .int 0, .int 0, .ref q3, .ref q4, .null])), (q1, .inl (c1, 100, .inr (.inl (fun _ => 0)))), (q2, .inl (c2, 10, .inr (.inl (fun _ => 0)))), (q3, .inl (c3, 200, .inr (.inl (fun _ => 0)))), (q4, .inl (c4, 10, .inl (fun _ => 0)))]) H := hP
  have hD : va_D A ([(h, .inr (1, [.int 0, .long 0, .int 0, .int 0, .int 0, .ref q1, .ref q2, .int 0, .int 0, .ref q3, .ref q4, .null])), (q1, .inl (c1, 100, .inr (.inl (fun _ => 0)))), (q2, .inl (c2, 10, .inr (.inl (fun _ => 0)))), (q3, .inl (c3, 200, .inr (.inl (fun _ => 0)))), (q4, .inl (c4, 10, .inl (fun _ => 0)))]) := hD
  refine lv_aload_n hx hb dX1_init_37 rfl (lv_at hl 0 rfl) ?_
  refine lv_sipush (v := nI 1024) hx hb dX1_init_38 (by decide +kernel) ?_
  refine va_newa hx hb (atype := .long) (hts (.arrayClass .long) (by decide +kernel)) rfl hK hP hD hS hA (N' := 1024) (a0 := (1024, .inr (.inl (fun _ => 0)))) (fun _ => rfl) (nI_pos (by omega)) (nI_clamp (by omega)) (by show _ * 8 ≤ _; omega) (Nat.le_of_ble_eq_true rfl) (by show _ ≤ 1344; omega) dX1_init_41 (fun q5 c5 H hK hP hD hS => ?_)
  have hK : va_K D vwCl [(c1, .long), (c2, .long), (c3, .long), (c4, .int), (c5, .long)] s := hK
  have hP : va_P D vwCl ([(h, .inr (1, [.int 0, .long 0, .int 0, .int 0, .int 0, .ref q1, .ref q2, .int 0, .int 0, .ref q3, .ref q4, .null])), (q1, .inl (c1, 100, .inr (.inl (fun _ => 0)))), (q2, .inl (c2, 10, .inr (.inl (fun _ => 0)))), (q3, .inl (c3, 200, .inr (.inl (fun _ => 0)))), (q4, .inl (c4, 10, .inl (fun _ => 0))), (q5, .inl (c5, 1024, .inr (.inl (fun _ => 0))))]) H := hP
  have hD : va_D A ([(h, .inr (1, [.int 0, .long 0, .int 0, .int 0, .int 0, .ref q1, .ref q2, .int 0, .int 0, .ref q3, .ref q4, .null])), (q1, .inl (c1, 100, .inr (.inl (fun _ => 0)))), (q2, .inl (c2, 10, .inr (.inl (fun _ => 0)))), (q3, .inl (c3, 200, .inr (.inl (fun _ => 0)))), (q4, .inl (c4, 10, .inl (fun _ => 0))), (q5, .inl (c5, 1024, .inr (.inl (fun _ => 0))))]) := hD
  refine x1_putF S hin hini hK hP hD hS rfl 11 (by decide) rfl (by decide +kernel) rfl (ty := .array .long) (v := .ref q5) rfl rfl rfl (Nat.le_of_ble_eq_true rfl) dX1_init_43 (fun H locs hP hD hS => ?_)
  have hP : va_P D vwCl ([(h, .inr (1, [.int 0, .long 0, .int 0, .int 0, .int 0, .ref q1, .ref q2, .int 0, .int 0, .ref q3, .ref q4, .ref q5])), (q1, .inl (c1, 100, .inr (.inl (fun _ => 0)))), (q2, .inl (c2, 10, .inr (.inl (fun _ => 0)))), (q3, .inl (c3, 200, .inr (.inl (fun _ => 0)))), (q4, .inl (c4, 10, .inl (fun _ => 0))), (q5, .inl (c5, 1024, .inr (.inl (fun _ => 0))))]) H := hP
  have hD : va_D A ([(h, .inr (1, [.int 0, .long 0, .int 0, .int 0, .int 0, .ref q1, .ref q2, .int 0, .int 0, .ref q3, .ref q4, .ref q5])), (q1, .inl (c1, 100, .inr (.inl (fun _ => 0)))), (q2, .inl (c2, 10, .inr (.inl (fun _ => 0)))), (q3, .inl (c3, 200, .inr (.inl (fun _ => 0)))), (q4, .inl (c4, 10, .inl (fun _ => 0))), (q5, .inl (c5, 1024, .inr (.inl (fun _ => 0))))]) := hD
  refine lv_aload_n hx hb dX1_init_46 rfl (lv_at hl 0 rfl) ?_
  refine lv_iload_n hx hb dX1_init_47 rfl (lv_at hl 1 rfl) ?_
  refine lv_i2l hx hb dX1_init_48 rfl ?_
  refine x1_putF S hin hini hK hP hD hS rfl 1 (by decide) rfl (by decide +kernel) rfl (ty := .long) (v := .long p9.toInt64) rfl rfl rfl (Nat.le_of_ble_eq_true rfl) dX1_init_49 (fun H locs hP hD hS => ?_)
  have hP : va_P D vwCl ([(h, .inr (1, [.int 0, .long p9.toInt64, .int 0, .int 0, .int 0, .ref q1, .ref q2, .int 0, .int 0, .ref q3, .ref q4, .ref q5])), (q1, .inl (c1, 100, .inr (.inl (fun _ => 0)))), (q2, .inl (c2, 10, .inr (.inl (fun _ => 0)))), (q3, .inl (c3, 200, .inr (.inl (fun _ => 0)))), (q4, .inl (c4, 10, .inl (fun _ => 0))), (q5, .inl (c5, 1024, .inr (.inl (fun _ => 0))))]) H := hP
  have hD : va_D A ([(h, .inr (1, [.int 0, .long p9.toInt64, .int 0, .int 0, .int 0, .ref q1, .ref q2, .int 0, .int 0, .ref q3, .ref q4, .ref q5])), (q1, .inl (c1, 100, .inr (.inl (fun _ => 0)))), (q2, .inl (c2, 10, .inr (.inl (fun _ => 0)))), (q3, .inl (c3, 200, .inr (.inl (fun _ => 0)))), (q4, .inl (c4, 10, .inl (fun _ => 0))), (q5, .inl (c5, 1024, .inr (.inl (fun _ => 0))))]) := hD
  refine lv_aload_n hx hb dX1_init_52 rfl (lv_at hl 0 rfl) ?_
  refine lv_iload_n hx hb dX1_init_53 rfl (lv_at hl 2 rfl) ?_
  refine x1_putF S hin hini hK hP hD hS rfl 2 (by decide) rfl (by decide +kernel) rfl (ty := .int) (v := .int m9) rfl rfl rfl (Nat.le_of_ble_eq_true rfl) dX1_init_54 (fun H locs hP hD hS => ?_)
  have hP : va_P D vwCl ([(h, .inr (1, [.int 0, .long p9.toInt64, .int m9, .int 0, .int 0, .ref q1, .ref q2, .int 0, .int 0, .ref q3, .ref q4, .ref q5])), (q1, .inl (c1, 100, .inr (.inl (fun _ => 0)))), (q2, .inl (c2, 10, .inr (.inl (fun _ => 0)))), (q3, .inl (c3, 200, .inr (.inl (fun _ => 0)))), (q4, .inl (c4, 10, .inl (fun _ => 0))), (q5, .inl (c5, 1024, .inr (.inl (fun _ => 0))))]) H := hP
  have hD : va_D A ([(h, .inr (1, [.int 0, .long p9.toInt64, .int m9, .int 0, .int 0, .ref q1, .ref q2, .int 0, .int 0, .ref q3, .ref q4, .ref q5])), (q1, .inl (c1, 100, .inr (.inl (fun _ => 0)))), (q2, .inl (c2, 10, .inr (.inl (fun _ => 0)))), (q3, .inl (c3, 200, .inr (.inl (fun _ => 0)))), (q4, .inl (c4, 10, .inl (fun _ => 0))), (q5, .inl (c5, 1024, .inr (.inl (fun _ => 0))))]) := hD
  refine lv_aload_n hx hb dX1_init_57 rfl (lv_at hl 0 rfl) ?_
  refine lv_iload_n hx hb dX1_init_58 rfl (lv_at hl 3 rfl) ?_
  refine x1_putF S hin hini hK hP hD hS rfl 3 (by decide) rfl (by decide +kernel) rfl (ty := .int) (v := .int n9) rfl rfl rfl (Nat.le_of_ble_eq_true rfl) dX1_init_59 (fun H locs hP hD hS => ?_)
  have hP : va_P D vwCl ([(h, .inr (1, [.int 0, .long p9.toInt64, .int m9, .int n9, .int 0, .ref q1, .ref q2, .int 0, .int 0, .ref q3, .ref q4, .ref q5])), (q1, .inl (c1, 100, .inr (.inl (fun _ => 0)))), (q2, .inl (c2, 10, .inr (.inl (fun _ => 0)))), (q3, .inl (c3, 200, .inr (.inl (fun _ => 0)))), (q4, .inl (c4, 10, .inl (fun _ => 0))), (q5, .inl (c5, 1024, .inr (.inl (fun _ => 0))))]) H := hP
  have hD : va_D A ([(h, .inr (1, [.int 0, .long p9.toInt64, .int m9, .int n9, .int 0, .ref q1, .ref q2, .int 0, .int 0, .ref q3, .ref q4, .ref q5])), (q1, .inl (c1, 100, .inr (.inl (fun _ => 0)))), (q2, .inl (c2, 10, .inr (.inl (fun _ => 0)))), (q3, .inl (c3, 200, .inr (.inl (fun _ => 0)))), (q4, .inl (c4, 10, .inl (fun _ => 0))), (q5, .inl (c5, 1024, .inr (.inl (fun _ => 0))))]) := hD
  refine lv_aload_n hx hb dX1_init_62 rfl (lv_at hl 0 rfl) ?_
  refine lv_iload_n hx hb dX1_init_63 rfl (lv_at hl 1 rfl) ?_
  refine rds_i S (c_X1_isPrime l D p9) (va_cwS 1 hts gX1_init_X1_isPrime rfl rfl rfl (by decide +kernel) ⟨Nat.le_of_ble_eq_true rfl, Nat.le_of_ble_eq_true rfl⟩) rfl (hK.sub [] rfl) (hP.sub [] rfl) hl.1 (rest := [.ref h]) rfl (Nat.le_of_ble_eq_true rfl) dX1_init_64 ⟨Nat.le_of_ble_eq_true rfl, Nat.le_of_ble_eq_true rfl⟩ hP hS hA (fun r_1 H locs er_1 hP hS => ?_)
  rcases er_1 with ⟨v, hvl, hvp, hpe, rfl⟩ | ⟨nop, rfl⟩
  · refine nv_if_eq (tgt := 94) hx hb dX1_init_67 (by decide) (by decide) (fun q => absurd q (by decide)) (fun _ => ?_)
    refine lv_iload_n hx hb dX1_init_70 rfl (lv_at hl 2 rfl) ?_
    refine lv_if_le (tgt := 94) hx hb dX1_init_71 (by decide) (fun c_3 => ?_) (fun c_3 => ?_)
    · refine lv_iconst (v := nI 0) hx hb dX1_init_94 (by decide +kernel) ?_
      refine x1_putF S hin hini hK hP hD hS rfl 4 (by decide) rfl (by decide +kernel) rfl (ty := .boolean) (v := .int (nI 0)) rfl (by decide +kernel) rfl (Nat.le_of_ble_eq_true rfl) dX1_init_95 (fun H locs hP hD hS => ?_)
      have hP : va_P D vwCl ([(h, .inr (1, [.int 0, .long p9.toInt64, .int m9, .int n9, .int (nI 0), .ref q1, .ref q2, .int 0, .int 0, .ref q3, .ref q4, .ref q5])), (q1, .inl (c1, 100, .inr (.inl (fun _ => 0)))), (q2, .inl (c2, 10, .inr (.inl (fun _ => 0)))), (q3, .inl (c3, 200, .inr (.inl (fun _ => 0)))), (q4, .inl (c4, 10, .inl (fun _ => 0))), (q5, .inl (c5, 1024, .inr (.inl (fun _ => 0))))]) H := hP
      have hD : va_D A ([(h, .inr (1, [.int 0, .long p9.toInt64, .int m9, .int n9, .int (nI 0), .ref q1, .ref q2, .int 0, .int 0, .ref q3, .ref q4, .ref q5])), (q1, .inl (c1, 100, .inr (.inl (fun _ => 0)))), (q2, .inl (c2, 10, .inr (.inl (fun _ => 0)))), (q3, .inl (c3, 200, .inr (.inl (fun _ => 0)))), (q4, .inl (c4, 10, .inl (fun _ => 0))), (q5, .inl (c5, 1024, .inr (.inl (fun _ => 0))))]) := hD
      have ec2 := K_eqL hK 0 1 rfl rfl
      have ec3 := K_eqL hK 0 2 rfl rfl
      have ec5 := K_eqL hK 0 4 rfl rfl
      subst ec2 ec3 ec5
      refine W.widen (k := 5) (n := 1344) (by omega) (by omega) ?_
      exact hret (q1, q2, q3, q4, q5, c1, c4, 0, 0, 0, 0) 98 ls _ _ dX1_init_98 hP hD (hK.sub [0, 3] rfl) hS ⟨inval_s (no_le c_3), rfl⟩
    · refine lv_iload_n hx hb dX1_init_74 rfl (lv_at hl 2 rfl) ?_
      refine lv_bipush (v := nI 11) hx hb dX1_init_75 (by decide +kernel) ?_
      refine lv_icmp_ge (tgt := 94) hx hb dX1_init_77 (by decide) (fun c_4 => ?_) (fun c_4 => ?_)
      · refine lv_iconst (v := nI 0) hx hb dX1_init_94 (by decide +kernel) ?_
        refine x1_putF S hin hini hK hP hD hS rfl 4 (by decide) rfl (by decide +kernel) rfl (ty := .boolean) (v := .int (nI 0)) rfl (by decide +kernel) rfl (Nat.le_of_ble_eq_true rfl) dX1_init_95 (fun H locs hP hD hS => ?_)
        have hP : va_P D vwCl ([(h, .inr (1, [.int 0, .long p9.toInt64, .int m9, .int n9, .int (nI 0), .ref q1, .ref q2, .int 0, .int 0, .ref q3, .ref q4, .ref q5])), (q1, .inl (c1, 100, .inr (.inl (fun _ => 0)))), (q2, .inl (c2, 10, .inr (.inl (fun _ => 0)))), (q3, .inl (c3, 200, .inr (.inl (fun _ => 0)))), (q4, .inl (c4, 10, .inl (fun _ => 0))), (q5, .inl (c5, 1024, .inr (.inl (fun _ => 0))))]) H := hP
        have hD : va_D A ([(h, .inr (1, [.int 0, .long p9.toInt64, .int m9, .int n9, .int (nI 0), .ref q1, .ref q2, .int 0, .int 0, .ref q3, .ref q4, .ref q5])), (q1, .inl (c1, 100, .inr (.inl (fun _ => 0)))), (q2, .inl (c2, 10, .inr (.inl (fun _ => 0)))), (q3, .inl (c3, 200, .inr (.inl (fun _ => 0)))), (q4, .inl (c4, 10, .inl (fun _ => 0))), (q5, .inl (c5, 1024, .inr (.inl (fun _ => 0))))]) := hD
        have ec2 := K_eqL hK 0 1 rfl rfl
        have ec3 := K_eqL hK 0 2 rfl rfl
        have ec5 := K_eqL hK 0 4 rfl rfl
        subst ec2 ec3 ec5
        refine W.widen (k := 5) (n := 1344) (by omega) (by omega) ?_
        exact hret (q1, q2, q3, q4, q5, c1, c4, 0, 0, 0, 0) 98 ls _ _ dX1_init_98 hP hD (hK.sub [0, 3] rfl) hS ⟨inval_s (no_ge c_4), rfl⟩
      · obtain ⟨k1, hk1, hk1a, hk1b⟩ := side11 c_3 c_4
        refine lv_iload_n hx hb dX1_init_80 rfl (lv_at hl 3 rfl) ?_
        refine lv_if_le (tgt := 94) hx hb dX1_init_81 (by decide) (fun c_5 => ?_) (fun c_5 => ?_)
        · refine lv_iconst (v := nI 0) hx hb dX1_init_94 (by decide +kernel) ?_
          refine x1_putF S hin hini hK hP hD hS rfl 4 (by decide) rfl (by decide +kernel) rfl (ty := .boolean) (v := .int (nI 0)) rfl (by decide +kernel) rfl (Nat.le_of_ble_eq_true rfl) dX1_init_95 (fun H locs hP hD hS => ?_)
          have hP : va_P D vwCl ([(h, .inr (1, [.int 0, .long p9.toInt64, .int m9, .int n9, .int (nI 0), .ref q1, .ref q2, .int 0, .int 0, .ref q3, .ref q4, .ref q5])), (q1, .inl (c1, 100, .inr (.inl (fun _ => 0)))), (q2, .inl (c2, 10, .inr (.inl (fun _ => 0)))), (q3, .inl (c3, 200, .inr (.inl (fun _ => 0)))), (q4, .inl (c4, 10, .inl (fun _ => 0))), (q5, .inl (c5, 1024, .inr (.inl (fun _ => 0))))]) H := hP
          have hD : va_D A ([(h, .inr (1, [.int 0, .long p9.toInt64, .int m9, .int n9, .int (nI 0), .ref q1, .ref q2, .int 0, .int 0, .ref q3, .ref q4, .ref q5])), (q1, .inl (c1, 100, .inr (.inl (fun _ => 0)))), (q2, .inl (c2, 10, .inr (.inl (fun _ => 0)))), (q3, .inl (c3, 200, .inr (.inl (fun _ => 0)))), (q4, .inl (c4, 10, .inl (fun _ => 0))), (q5, .inl (c5, 1024, .inr (.inl (fun _ => 0))))]) := hD
          have ec2 := K_eqL hK 0 1 rfl rfl
          have ec3 := K_eqL hK 0 2 rfl rfl
          have ec5 := K_eqL hK 0 4 rfl rfl
          subst ec2 ec3 ec5
          refine W.widen (k := 5) (n := 1344) (by omega) (by omega) ?_
          exact hret (q1, q2, q3, q4, q5, c1, c4, 0, 0, 0, 0) 98 ls _ _ dX1_init_98 hP hD (hK.sub [0, 3] rfl) hS ⟨inval_t (no_le c_5), rfl⟩
        · refine lv_iload_n hx hb dX1_init_84 rfl (lv_at hl 3 rfl) ?_
          refine lv_bipush (v := nI 11) hx hb dX1_init_85 (by decide +kernel) ?_
          refine lv_icmp_ge (tgt := 94) hx hb dX1_init_87 (by decide) (fun c_6 => ?_) (fun c_6 => ?_)
          · refine lv_iconst (v := nI 0) hx hb dX1_init_94 (by decide +kernel) ?_
            refine x1_putF S hin hini hK hP hD hS rfl 4 (by decide) rfl (by decide +kernel) rfl (ty := .boolean) (v := .int (nI 0)) rfl (by decide +kernel) rfl (Nat.le_of_ble_eq_true rfl) dX1_init_95 (fun H locs hP hD hS => ?_)
            have hP : va_P D vwCl ([(h, .inr (1, [.int 0, .long p9.toInt64, .int m9, .int n9, .int (nI 0), .ref q1, .ref q2, .int 0, .int 0, .ref q3, .ref q4, .ref q5])), (q1, .inl (c1, 100, .inr (.inl (fun _ => 0)))), (q2, .inl (c2, 10, .inr (.inl (fun _ => 0)))), (q3, .inl (c3, 200, .inr (.inl (fun _ => 0)))), (q4, .inl (c4, 10, .inl (fun _ => 0))), (q5, .inl (c5, 1024, .inr (.inl (fun _ => 0))))]) H := hP
            have hD : va_D A ([(h, .inr (1, [.int 0, .long p9.toInt64, .int m9, .int n9, .int (nI 0), .ref q1, .ref q2, .int 0, .int 0, .ref q3, .ref q4, .ref q5])), (q1, .inl (c1, 100, .inr (.inl (fun _ => 0)))), (q2, .inl (c2, 10, .inr (.inl (fun _ => 0)))), (q3, .inl (c3, 200, .inr (.inl (fun _ => 0)))), (q4, .inl (c4, 10, .inl (fun _ => 0))), (q5, .inl (c5, 1024, .inr (.inl (fun _ => 0))))]) := hD
            have ec2 := K_eqL hK 0 1 rfl rfl
            have ec3 := K_eqL hK 0 2 rfl rfl
            have ec5 := K_eqL hK 0 4 rfl rfl
            subst ec2 ec3 ec5
            refine W.widen (k := 5) (n := 1344) (by omega) (by omega) ?_
            exact hret (q1, q2, q3, q4, q5, c1, c4, 0, 0, 0, 0) 98 ls _ _ dX1_init_98 hP hD (hK.sub [0, 3] rfl) hS ⟨inval_t (no_ge c_6), rfl⟩
          · obtain ⟨k2, hk2, hk2a, hk2b⟩ := side11 c_5 c_6
            refine lv_iconst (v := nI 1) hx hb dX1_init_90 (by decide +kernel) ?_
            refine lv_goto (tgt := 95) hx hb dX1_init_91 (by decide) ?_
            refine x1_putF S hin hini hK hP hD hS rfl 4 (by decide) rfl (by decide +kernel) rfl (ty := .boolean) (v := .int (nI 1)) rfl (by decide +kernel) rfl (Nat.le_of_ble_eq_true rfl) dX1_init_95 (fun H locs hP hD hS => ?_)
            have hP : va_P D vwCl ([(h, .inr (1, [.int 0, .long p9.toInt64, .int m9, .int n9, .int (nI 1), .ref q1, .ref q2, .int 0, .int 0, .ref q3, .ref q4, .ref q5])), (q1, .inl (c1, 100, .inr (.inl (fun _ => 0)))), (q2, .inl (c2, 10, .inr (.inl (fun _ => 0)))), (q3, .inl (c3, 200, .inr (.inl (fun _ => 0)))), (q4, .inl (c4, 10, .inl (fun _ => 0))), (q5, .inl (c5, 1024, .inr (.inl (fun _ => 0))))]) H := hP
            have hD : va_D A ([(h, .inr (1, [.int 0, .long p9.toInt64, .int m9, .int n9, .int (nI 1), .ref q1, .ref q2, .int 0, .int 0, .ref q3, .ref q4, .ref q5])), (q1, .inl (c1, 100, .inr (.inl (fun _ => 0)))), (q2, .inl (c2, 10, .inr (.inl (fun _ => 0)))), (q3, .inl (c3, 200, .inr (.inl (fun _ => 0)))), (q4, .inl (c4, 10, .inl (fun _ => 0))), (q5, .inl (c5, 1024, .inr (.inl (fun _ => 0))))]) := hD
            have ec2 := K_eqL hK 0 1 rfl rfl
            have ec3 := K_eqL hK 0 2 rfl rfl
            have ec5 := K_eqL hK 0 4 rfl rfl
            subst ec2 ec3 ec5
            refine W.widen (k := 5) (n := 1344) (by omega) (by omega) ?_
            exact hret (q1, q2, q3, q4, q5, c1, c4, v, k1, k2, 1) 98 ls _ _ dX1_init_98 hP hD (hK.sub [0, 3] rfl) hS ⟨Or.inl ⟨hpe, hvl, hvp, hk1, hk2, hk1a, hk1b, hk2a, hk2b⟩, (by show 1 = if k1 = 0 then 0 else 1; rw [if_neg (by omega)])⟩
  · refine nv_if_eq (tgt := 94) hx hb dX1_init_67 (by decide) (by decide) (fun _ => ?_) (fun q => absurd q (by decide))
    refine lv_iconst (v := nI 0) hx hb dX1_init_94 (by decide +kernel) ?_
    refine x1_putF S hin hini hK hP hD hS rfl 4 (by decide) rfl (by decide +kernel) rfl (ty := .boolean) (v := .int (nI 0)) rfl (by decide +kernel) rfl (Nat.le_of_ble_eq_true rfl) dX1_init_95 (fun H locs hP hD hS => ?_)
    have hP : va_P D vwCl ([(h, .inr (1, [.int 0, .long p9.toInt64, .int m9, .int n9, .int (nI 0), .ref q1, .ref q2, .int 0, .int 0, .ref q3, .ref q4, .ref q5])), (q1, .inl (c1, 100, .inr (.inl (fun _ => 0)))), (q2, .inl (c2, 10, .inr (.inl (fun _ => 0)))), (q3, .inl (c3, 200, .inr (.inl (fun _ => 0)))), (q4, .inl (c4, 10, .inl (fun _ => 0))), (q5, .inl (c5, 1024, .inr (.inl (fun _ => 0))))]) H := hP
    have hD : va_D A ([(h, .inr (1, [.int 0, .long p9.toInt64, .int m9, .int n9, .int (nI 0), .ref q1, .ref q2, .int 0, .int 0, .ref q3, .ref q4, .ref q5])), (q1, .inl (c1, 100, .inr (.inl (fun _ => 0)))), (q2, .inl (c2, 10, .inr (.inl (fun _ => 0)))), (q3, .inl (c3, 200, .inr (.inl (fun _ => 0)))), (q4, .inl (c4, 10, .inl (fun _ => 0))), (q5, .inl (c5, 1024, .inr (.inl (fun _ => 0))))]) := hD
    have ec2 := K_eqL hK 0 1 rfl rfl
    have ec3 := K_eqL hK 0 2 rfl rfl
    have ec5 := K_eqL hK 0 4 rfl rfl
    subst ec2 ec3 ec5
    refine W.widen (k := 5) (n := 1344) (by omega) (by omega) ?_
    exact hret (q1, q2, q3, q4, q5, c1, c4, 0, 0, 0, 0) 98 ls _ _ dX1_init_98 hP hD (hK.sub [0, 3] rfl) hS ⟨inval_p nop, rfl⟩
end
section
/-! the law: its script, its calls, what holds between its two objects -/
section LR
variable {p : Program} {l : Launch} {e : Env} {R : Room} {s : State} {m : MethodId} {args : Array Value} {below : List Frame} {meth : Method} {c : Code} {H H0 : Heap} {locs : List Loc} {cells slots : Nat} {Q : State → Prop} {cc bytes : ByteArray} {pc nL maxL index n : Nat} {ls : Array Slot} {D : va_G} {w w0 w2 v : va_W} {tys : List (ClassId × FieldType)} {b ci N : Nat} {T : u_T} {fs : List Value} {A : Nat → Prop} {y : MethodName} {ws Ts : List Cond} {rm : Room} {own C : String} {ret : Option FieldType} {As rest st0 : List Value}
theorem nv_sld (hx : p.tables.exec = Jvm.exec) (hb : c.code = cc) {L : Nat} {xs : Nat → Int32} (hX : va_X b L xs s H0) (hbl : b < H0.size) (hbA : ¬ A b) (hS : va_S A H0 H locs) {k : Nat} (hk : k < L) (hL : L < 2 ^ 31) (hdg : decode cc pc = .ok (.iaload, 1))
    (kk : W p l e R s m args below meth c H locs cells slots Q (F0 m (pc + 1) ls (.int (xs k) :: rest))) : W p l e R s m args below meth c H locs cells slots Q (F0 m pc ls (.int (nI k) :: .ref b :: rest)) := by
  refine va_sld hx hb hX hbl hbA hS (vp_in_nI hk hL) hdg ?_
  rw [nI_clamp (by omega)]
  exact kk
theorem nv_slen (hx : p.tables.exec = Jvm.exec) (hb : c.code = cc) {L : Nat} {xs : Nat → Int32} (hX : va_X b L xs s H0) (hbl : b < H0.size) (hbA : ¬ A b) (hS : va_S A H0 H locs) (hdg : decode cc pc = .ok (.arraylength, 1))
    (kk : W p l e R s m args below meth c H locs cells slots Q (F0 m (pc + 1) ls (.int (nI L) :: rest))) : W p l e R s m args below meth c H locs cells slots Q (F0 m pc ls (.ref b :: rest)) := va_slen hx hb hX hbl hbA hS hdg kk
theorem rdv_2 {post : Int32 → Prop} (S : CallFix p m c cc nL s args Ts own) (hM : RdI l y ws rm (.ref b :: As) D w tys post) (cw : CallW R s args own C index y bytes maxL ret ws rm 0 0 n) (hn : As.length = n) (hK : va_K D vwCl tys s) (hP : va_P D vwCl w H) (hc : vwCl[ci]? = some (C, T, N)) (he : w[0]? = some (b, .inr (ci, fs))) (hsize : ls.size = nL) (hstack : st0 = As.reverse ++ .ref b :: rest) (hW : (rest.map fun v => v.category).sum ≤ 8) (hdg : decode cc pc = .ok (.invokevirtual index, 3)) (hf : cells ≤ R.cells ∧ slots ≤ R.slots) (hP2 : va_P D vwCl w2 H) (hS : va_S A H0 H locs) (hA : ∀ q, H0.size ≤ q → A q)
    (kk : ∀ (r : Int32) (H1 : Heap) (locs1 : List Loc), post r → va_P D vwCl w H1 → va_P D vwCl w2 H1 → va_S A H0 H1 locs1 → W p l e R s m args below meth c H1 locs1 cells slots Q (F0 m (pc + 3) ls (.int r :: rest))) : W p l e R s m args below meth c H locs cells slots Q (F0 m pc ls st0) := by
  refine va_calli (va_runV (As := As) (rest := rest) S (hM H.size) cw ⟨fb_R, va_recv hK hP hc he, fun U hU hWm => ⟨rfl, by rw [hU], by rw [hU]; exact hP, va_K.moved hWm.alike hK⟩⟩ rfl hn hsize hstack (lv_room hW) hdg hf) hS (fun q _ h => fr_hf hS hA q h) (fr_hf hS hA) (fun r u t H1 locs1 ht hvm hw hB hz1 hk1 hS1 => ?_)
  exact kk r H1 locs1 hw (fr_keep hP hk1) (fr_keep hP2 hk1) hS1
theorem ini_f {U : Type} {mc ms : Nat} {post : U → Prop} {w' : U → va_W} {tys' : U → List (ClassId × FieldType)} (S : CallFix p m c cc nL s args Ts own) (hM : MkV l y ws rm (.ref b :: As) D w mc ms post w' tys') (cw : CallB R s args own index y bytes maxL none ws rm mc ms n ∧ y.name = "<init>" ∧ (Cond.instanceMethod y).before args s = true) (hn : As.length = n) (hK : va_K D vwCl [] s) (hsize : ls.size = nL) (hstack : st0 = As.reverse ++ .ref b :: rest) (hW : (rest.map fun v => v.category).sum ≤ 8) (hdg : decode cc pc = .ok (.invokespecial index, 3)) (hf : cells + mc ≤ R.cells ∧ slots + ms ≤ R.slots) (hP : va_P D vwCl w H) (hD : va_D A w) (hV : va_P D vwCl v H) (hX : Apart w v) (hS : va_S A H0 H locs) (hA : ∀ q, H0.size ≤ q → A q)
    (kk : ∀ (u : U) (H1 : Heap) (locs1 : List Loc), post u → va_P D vwCl (w' u) H1 → va_D A (w' u) → va_K D vwCl (tys' u) s → va_P D vwCl v H1 → Apart (w' u) v → va_S A H0 H1 locs1 → W p l e R s m args below meth c H1 locs1 (cells + mc) (slots + ms) Q (F0 m (pc + 3) ls rest)) : W p l e R s m args below meth c H locs cells slots Q (F0 m pc ls st0) := by
  have hF := fr_wf hP hD hS hA
  refine va_callv (va_runI (As := As) (rest := rest) S (hM H.size) cw ⟨fb_W, fun U hU hWm => ⟨rfl, by rw [hU], by rw [hU]; exact hP, va_K.moved hWm.alike hK, hD.weaken (fun _ _ _ _ => trivial)⟩⟩ rfl hn hsize hstack (lv_room hW) hdg hf) hS (fun q _ h => hF q h) hF (fun u t H1 locs1 ht hvm hw hB hz1 hk1 hS1 => ?_)
  obtain ⟨hP1, hD1, hK1⟩ := hB
  rw [ht] at hP1
  have hno : ∀ (j : Nat) (q : Nat × va_E), v[j]? = some q → ¬ va_A w H.size q.1 := by
    intro j q hq h
    rcases h with ⟨k, e, hk⟩ | h
    · exact hX k j _ q hk hq rfl
    · exact Nat.not_le.mpr (hV j q hq).lt h
  refine kk u H1 locs1 hw hP1 (hD1.weaken (fun _ _ _ h => hF _ h)) (va_K.moved hvm.symm hK1) (hV.kept (fun j q hq => hk1 q.1 (hV j q hq).lt (hno j q hq))) ?_ hS1
  intro i j pp q h1 h2 h3
  exact hno j q h2 (h3 ▸ hD1.2 i pp h1)
end LR
/-- cell(script, k) -/
def cv (L : Nat) (xs : Nat → Int32) (k : Nat) : Int32 := if k < L then xs k else 0
set_option maxHeartbeats 4000000 in
set_option maxRecDepth 100000 in
theorem c_L_cell (l : Launch) {b L : Nat} {xs : Nat → Int32} (hL : L ≤ 2051) (k : Nat) (hk : k < 3) (sz : Nat) : Met l yL_cell wsL_cell ({ frames := 0, cells := 0, slots := 0, locals := 0 }) (va_Pc [.ref b, .int (nI k)] (fun U => U.heap.size = sz ∧ b < sz ∧ va_X b L xs U U.heap)) (va_Qi (fun (r : Int32) (_ : Unit) => r = cv L xs k) (fun _ _ => True) (va_A [] sz)) 0 0 (va_A [] sz) := by
  refine Met.ofW (cc := cL_cell) (maxL := 2) (ret := some .int) (by decide) rfl ?_
  intro p e s m args below meth c s₁ B hml hv
  obtain ⟨rfl, hsz, hbl, hX⟩ := hv
  subst hsz
  have hx := B.exec
  have hb := B.bytes
  have hlocks := B.notSynchronized
  have hS : va_S (va_A [] s.heap.size) s.heap s.heap [] := va_S.rf
  have hbA : ¬ va_A [] s.heap.size b := fun z => Nat.not_le.mpr hbl (fr_nil z)
  have hl := lv_entry [.ref b, .int (nI k)] (n := 2) (Nat.le_of_ble_eq_true rfl)
  rw [lg_entry_eq]
  generalize (lg_sl [.ref b, .int (nI k)] ++ List.replicate (2 - (lg_sl [.ref b, .int (nI k)]).length) Slot.unset).toArray = ls at hl ⊢
  have hl : lv_has ls 2 [(0, .ref b), (1, .int (nI k))] := hl
  refine lv_iload_n hx hb dL_cell_0 rfl (lv_at hl 1 rfl) ?_
  refine lv_aload_n hx hb dL_cell_1 rfl (lv_at hl 0 rfl) ?_
  refine nv_slen hx hb hX hbl hbA hS dL_cell_2 ?_
  refine nv_icmp_ge (tgt := 12) hx hb dL_cell_3 (by decide) (by omega) (by omega) (fun c_1 => ?_) (fun c_1 => ?_)
  · refine lv_iconst (v := 0) hx hb dL_cell_12 (by decide +kernel) ?_
    exact W.zret hx hb B.returns rfl (fun t ht hW => ⟨⟨0, (), rfl, by unfold cv; rw [if_neg (by omega)], trivial⟩, hS.F ht⟩) hS.2.2 dL_cell_13
  · refine lv_aload_n hx hb dL_cell_6 rfl (lv_at hl 0 rfl) ?_
    refine lv_iload_n hx hb dL_cell_7 rfl (lv_at hl 1 rfl) ?_
    refine nv_sld hx hb hX hbl hbA hS c_1 (by omega) dL_cell_8 ?_
    refine lv_goto (tgt := 13) hx hb dL_cell_9 (by decide) ?_
    exact W.zret hx hb B.returns rfl (fun t ht hW => ⟨⟨xs k, (), rfl, by unfold cv; rw [if_pos c_1], trivial⟩, hS.F ht⟩) hS.2.2 dL_cell_13
section LR2
variable {p : Program} {l : Launch} {e : Env} {R : Room} {s : State} {m : MethodId} {args : Array Value} {below : List Frame} {meth : Method} {c : Code} {H : Heap} {locs : List Loc} {cells slots : Nat} {Q : State → Prop} {cc : ByteArray} {pc nL : Nat} {ls : Array Slot} {D : va_G} {w0 w2 : va_W} {b : Nat} {A : Nat → Prop} {rest : List Value}
theorem cell_f (S : CallFix p m c cc nL s args wsL_law RL) {L : Nat} {xs : Nat → Int32} (hL : L ≤ 2051) (hX : va_X b L xs s s.heap) (hbl : b < s.heap.size) (hbA : ¬ A b) {k : Nat} (hk : k < 3) (hR : 0 + 1 ≤ R.frames ∧ 8 + (2 + 11) + 0 ≤ R.locals) (hsize : ls.size = nL) (hW : (rest.map fun v => v.category).sum ≤ 8) (hdg : decode cc pc = .ok (.invokestatic 9, 3)) (hf : cells ≤ R.cells ∧ slots ≤ R.slots) (hP : va_P D vwCl w0 H) (hP2 : va_P D vwCl w2 H) (hS : va_S A s.heap H locs) (hA : ∀ q, s.heap.size ≤ q → A q)
    (kk : ∀ (H1 : Heap) (locs1 : List Loc), va_P D vwCl w0 H1 → va_P D vwCl w2 H1 → va_S A s.heap H1 locs1 → W p l e R s m args below meth c H1 locs1 cells slots Q (F0 m (pc + 3) ls (.int (cv L xs k) :: rest))) : W p l e R s m args below meth c H locs cells slots Q (F0 m pc ls (.int (nI k) :: .ref b :: rest)) := by
  have hXH : va_X b L xs s H := hX.kept (hS.2.1 b hbl hbA)
  refine va_calli (va_runS (As := [.ref b, .int (nI k)]) (rest := rest) S (c_L_cell l (b := b) (xs := xs) hL k hk H.size) (va_cwS 2 S.2.2.2.2 gL_law_L_cell rfl rfl rfl (by decide +kernel) hR) ⟨fun a U g mk q => by obtain ⟨q0, q1, q2, q3⟩ := q; exact ⟨q0, q1, q2, va_X.moved (u := U) (U := U.calling g mk a) (Vm.Alike.refl U.vm) q3⟩, fun U hU hWm => ⟨rfl, by rw [hU], Nat.lt_of_lt_of_le hbl hS.1, by rw [hU]; exact va_X.moved hWm.alike hXH⟩⟩ rfl rfl hsize rfl (lv_room hW) hdg hf) hS (fun q _ h => fr_hf hS hA q h) (fr_hf hS hA) (fun r u t H1 locs1 ht hvm hw hB hz1 hk1 hS1 => ?_)
  rw [hw]
  exact kk H1 locs1 (fr_keep hP hk1) (fr_keep hP2 hk1) hS1
end LR2
/-- the numbers that never change -/
def LF (p9 m9 n9 : Int32) (P mR nC vd : Nat) : Prop := mR ≤ 10 ∧ nC ≤ 10 ∧ (0 < mR → p9 = nI P ∧ 2 ≤ P ∧ P < 2 ^ 31) ∧ (0 < mR → PrimeN P) ∧ vd < 2 ∧ (vd ≠ 0 → MdV p9.toInt64 m9 n9 P mR nC) ∧ (vd = 0 → mR = 0 ∧ nC = 0) ∧ (0 < mR → vd ≠ 0) ∧ (vd ≠ 0 → 0 < mR)
/-- what both hold: one matrix, one right side, one reduction -/
def LI (P mR nC : Nat) (A0 : Mat) (b0 : Nat → Nat) (rd : Nat) (fA fB fW fP : Nat → Int32) (pv pp : Nat) (gA gB : Nat → Int64) (rk : Nat) (gR : Nat → Int64) (gP : Nat → Int32) : Prop :=
  (0 < mR → bnd P A0) ∧ (0 < mR → ∀ i, b0 i < P) ∧ Rp nC mR fA A0 ∧ (∀ i, i < mR → fB i = nI (b0 i)) ∧ (∀ a, a < mR → ∀ k, k < nC → gA (10 * a + k) = lN (A0 a k)) ∧ (∀ a, a < mR → gB a = lN (b0 a)) ∧ rd < 2 ∧ pv < 2 ^ 31 ∧
  (rd ≠ 0 → 0 < mR ∧ PbQ P mR nC fW fP pv pp (redN P mR (q00 nC A0) nC).1 (rowOf (redN P mR (q00 nC A0) nC).2.2.2 (redN P mR (q00 nC A0) nC).2.1) ∧ MdQ P mR nC rk gR gP (redN P mR (q00 nC A0) nC).1 (redN P mR (q00 nC A0) nC).2.2.2 ∧ pv = (redN P mR (q00 nC A0) nC).2.1 ∧ pp = (redN P mR (q00 nC A0) nC).2.2.1 ∧ rk = (redN P mR (q00 nC A0) nC).2.1)
theorem bn_mu {P : Nat} {M : Mat} {i k x : Nat} (h : bnd P M) (hx : x < P) : bnd P (mu M i k x) := by
  intro a b
  simp only [mu]
  split
  · exact hx
  · exact h a b
theorem bn_nb {P : Nat} {b : Nat → Nat} {k v : Nat} (h : ∀ i, b i < P) (hv : v < P) : ∀ i, nb b k v i < P := by
  intro i
  unfold nb
  split
  · exact hv
  · exact h i
/-- the reductions of both, joined -/
theorem LI_red {P mR nC : Nat} {A0 : Mat} {fW fP : Nat → Int32} {pv pp rk : Nat} {gR : Nat → Int64} {gP : Nat → Int32} (hm : mR ≤ 10) (hn : nC ≤ 10) (hP2 : 2 ≤ P) (hAb : bnd P A0) (hm0 : 0 < mR)
    (h1 : Rp (nC + mR) mR fW (redN P mR (lm nC (G0 nC A0), 0, 1, fun _ => 0) nC).1) (h2 : ∀ j, j < nC → fP j = opt (rowOf (redN P mR (lm nC (G0 nC A0), 0, 1, fun _ => 0) nC).2.2.2 (redN P mR (lm nC (G0 nC A0), 0, 1, fun _ => 0) nC).2.1 j)) (h3 : pv = (redN P mR (lm nC (G0 nC A0), 0, 1, fun _ => 0) nC).2.1) (h4 : pp = (redN P mR (lm nC (G0 nC A0), 0, 1, fun _ => 0) nC).2.2.1)
    (k1 : Rq mR gR (redN P mR (q00 nC A0) nC).1) (k2 : ∀ i, i < (redN P mR (q00 nC A0) nC).2.1 → gP i = nI ((redN P mR (q00 nC A0) nC).2.2.2 i)) (k3 : rk = (redN P mR (q00 nC A0) nC).2.1) :
    0 < mR ∧ PbQ P mR nC fW fP pv pp (redN P mR (q00 nC A0) nC).1 (rowOf (redN P mR (q00 nC A0) nC).2.2.2 (redN P mR (q00 nC A0) nC).2.1) ∧ MdQ P mR nC rk gR gP (redN P mR (q00 nC A0) nC).1 (redN P mR (q00 nC A0) nC).2.2.2 ∧ pv = (redN P mR (q00 nC A0) nC).2.1 ∧ pp = (redN P mR (q00 nC A0) nC).2.2.1 ∧ rk = (redN P mR (q00 nC A0) nC).2.1 := by
  have e : redN P mR (lm nC (G0 nC A0), 0, 1, fun _ => 0) nC = (lm nC (redN P mR (q00 nC A0) nC).1, (redN P mR (q00 nC A0) nC).2) := redN_lm (q00 nC A0) nC (Nat.le_refl nC)
  rw [e] at h1 h2 h3 h4
  dsimp only at h1 h2 h3 h4
  obtain ⟨o1, o2, o3⟩ := redN_ok (P := P) (m := mR) (q0 := q00 nC A0) (by omega) (Nat.zero_le _) (bn_G0 hP2 hAb) (show 1 < P by omega) nC
  obtain ⟨c1, c2⟩ := pcOk_all (P := P) (m := mR) (q0 := q00 nC A0) rfl nC
  refine ⟨hm0, ⟨h1, o2, h2, ?_, by omega, by omega, by omega⟩, ⟨k1, o2, by omega, by omega, by rw [k3]; exact k2, by rw [k3]; exact c1, by rw [k3]; exact c2⟩, h3, h4, k3⟩
  intro j i hi
  have := rowOf_lt hi
  omega
/-- the two determinants -/
theorem det_both {P mR nC : Nat} {A0 : Mat} {rd pv pp : Nat} (hn : nC ≤ 10) (hp : 0 < mR → PrimeN P) (hAb : 0 < mR → bnd P A0) (hQ : rd ≠ 0 → 0 < mR ∧ pv = (redN P mR (q00 nC A0) nC).2.1 ∧ pp = (redN P mR (q00 nC A0) nC).2.2.1) : sDet rd mR nC pv pp = if rd ≠ 0 ∧ mR = nC then nI (EE P nC A0 (1 * 2 ^ nC - 1)) else -1 := by
  unfold sDet
  by_cases h : rd ≠ 0 ∧ mR = nC
  · rw [if_pos h, if_pos h]
    obtain ⟨h0, h1, h2⟩ := hQ h.1
    have hpp := hp h0
    have e := det_red hpp hn (hAb h0)
    obtain ⟨-, hmn⟩ := h
    subst hmn
    have h2P := hpp.1
    rw [← EE_full (show 0 < P by omega)] at e
    rw [h1, h2]
    by_cases q : (redN P mR (q00 mR A0) mR).2.1 < mR
    · rw [if_pos q] at e ⊢
      rw [show EE P mR A0 (1 * 2 ^ mR - 1) = 0 by omega]
    · rw [if_neg q] at e ⊢
      rw [show EE P mR A0 (1 * 2 ^ mR - 1) = (redN P mR (q00 mR A0) mR).2.2.1 by omega]
  · rw [if_neg h, if_neg h]
end
section
/-! THE CLAIM OUT OF ONE WALK OF THE LAW'S BODY. Your part is whole_start (and what it stands on); all else here is the same for every law, but numbers. -/
def R_law : String := "PrimeBenchLaw"
def lw_P (b : Addr) (xs : List Int32) (args : Array Value) (s : State) : Prop := args = #[.ref b] ∧ s.IntsAt b xs ∧ xs.length ≤ 2051 ∧ (Jvm.Cond.and given_1 narrow_1).before args s = true
def lw_Q (_ : Array Value) (s : State) (o : Outcome) (t : State) : Prop := o = .returned (some (.int 1)) ∧ Framed s o t [] 600000 7302250
def lw_Z (below : List Frame) (a : Array Value) (s : State) : State → Prop := fun t => ∃ o, t.status = .running ∧ Ended t below o ∧ lw_Q a s o t
/-- the law's own end, with 1 on the stack, nothing written that was there before, its room as the claim has it -/
theorem lw_ret {p : Program} {l : Launch} {e : Env} {s : State} {m : MethodId} {below : List Frame} {meth : Method} {c : Code} {b : Nat} (hx : p.tables.exec = Jvm.exec) (hb : c.code = code) (hr : meth.sig.returnType = ret) (hlocks : meth.locks = false) {pc : Nat} {H : Heap} {ls : Array Slot} (hdg : decode code pc = .ok (.ireturn, 1)) : W p l e room_1 s m #[Value.ref b] below meth c H [] 600000 7302250 (lw_Z below #[Value.ref b] s) (F0 m pc ls [.int 1]) := by
  intro T hT X
  obtain ⟨fs, hret, hrun, hended, hW, hframe⟩ := X.leave (v := some (.int 1)) (hlocks := hlocks) (fun h => by rw [hr] at h; cases h)
  have hmeth' : T.vm.method? m = some meth := X.method'
  refine ⟨T.setFrames fs, ?_, .returned (some (.int 1)), hrun, hended, rfl, ⟨_, rfl⟩, hW, hframe⟩
  jvm_step X.here [X.here.top, hx, hb, hdg, hmeth', hr, ret, narrow_b1]
  (try refine ⟨rfl, ?_⟩); (try refine ⟨rfl, ?_⟩)
  first | (intro acts; rw [hret _ acts rfl rfl rfl]) | rw [hret _ _ rfl rfl rfl]
  exact Steps.refl _
/-- what holds at the law's entry: the machine, the code, the tables' words (any of lw_tbl by 'hts w (by decide +kernel)'), the script of L ints xs at the cell b, what the Statement gives of the start (any of its parts by flat_of_before) -/
def lw_At (p : Program) (s : State) (m : MethodId) (meth : Method) (c : Code) (b L : Nat) (xs : Nat → Int32) : Prop :=
  p.tables.exec = Jvm.exec ∧ c.code = code ∧ meth.sig.returnType = ret ∧ c.maxLocals = 4 ∧ s.vm.findClass R_law = some m.cls ∧ (∀ w ∈ lw_tbl, w.before #[Value.ref b] s = true) ∧ va_X b L xs s s.heap ∧ b < s.heap.size ∧ meth.locks = false ∧ (Jvm.Cond.and given_1 narrow_1).before #[Value.ref b] s = true
end
section
theorem c_X0_reduceR (l : Launch) (D : va_G) {h a1 a2 a3 a4 : Nat} {cA : ClassId} {mR nC : Nat} {fA fB fW fP : Nat → Int32} {rd pv pp : Nat} {pr : Int32} {P : Nat} {A0 : Mat} (hp : pr = nI P) (hP2 : 2 ≤ P) (hPl : P < 2 ^ 31) (hm : mR ≤ 10) (hn : nC ≤ 10) (hm0 : 0 < mR) (hAb : bnd P A0) (hA0 : Rp nC mR fA A0) : WrI (U := (Nat → Int32) × (Nat → Int32) × Nat × Nat) l yX0_reduce wsX0_reduce ({ frames := 3, cells := 0, slots := 0, locals := 74 }) [.ref h] D (pbW h a1 a2 a3 a4 cA pr mR nC fA fB fW fP rd pv pp) [(cA, .int)]
    (fun r u => r = nI (redN P mR (lm nC (G0 nC A0), 0, 1, fun _ => 0) nC).2.1 ∧ Rp (nC + mR) mR u.1 (redN P mR (lm nC (G0 nC A0), 0, 1, fun _ => 0) nC).1 ∧ (∀ j, j < nC → u.2.1 j = opt (rowOf (redN P mR (lm nC (G0 nC A0), 0, 1, fun _ => 0) nC).2.2.2 (redN P mR (lm nC (G0 nC A0), 0, 1, fun _ => 0) nC).2.1 j)) ∧ u.2.2.1 = (redN P mR (lm nC (G0 nC A0), 0, 1, fun _ => 0) nC).2.1 ∧ u.2.2.2 = (redN P mR (lm nC (G0 nC A0), 0, 1, fun _ => 0) nC).2.2.1) (fun u => pbW h a1 a2 a3 a4 cA pr mR nC fA fB u.1 u.2.1 1 u.2.2.1 u.2.2.2) := by
  subst hp
  exact c_X0_reduce l D hP2 hPl hm hn hm0 hAb hA0
theorem c_X1_reduceR (l : Launch) (D : va_G) {h b1 b2 b3 b4 b5 : Nat} {cJ cI : ClassId} {gA gB : Nat → Int64} {rd rk : Nat} {gR : Nat → Int64} {gP : Nat → Int32} {gS : Nat → Int64} {pj : Int64} {mi ni : Int32} {vd P mR nC : Nat} {A0 : Mat} (hV : MdV pj mi ni P mR nC) (hvd0 : vd ≠ 0) (hvd : vd < 2) (hAb : bnd P A0) (hA0 : ∀ a, a < mR → ∀ k, k < nC → gA (10 * a + k) = lN (A0 a k)) : WrI (U := (Nat → Int64) × (Nat → Int32) × Nat) l yX1_reduce wsX1_reduce ({ frames := 2, cells := 0, slots := 0, locals := 54 }) [.ref h] D (mdW h b1 b2 b3 b4 b5 cJ cI pj mi ni vd gA gB rd rk gR gP gS) [(cJ, .long), (cI, .int)]
    (fun r u => r = nI (redN P mR (q00 nC A0) nC).2.1 ∧ Rq mR u.1 (redN P mR (q00 nC A0) nC).1 ∧ (∀ i, i < (redN P mR (q00 nC A0) nC).2.1 → u.2.1 i = nI ((redN P mR (q00 nC A0) nC).2.2.2 i)) ∧ u.2.2 = (redN P mR (q00 nC A0) nC).2.1) (fun u => mdW h b1 b2 b3 b4 b5 cJ cI pj mi ni vd gA gB 1 u.2.2 u.1 u.2.1 gS) := by
  obtain ⟨rfl, rfl, rfl, hP2, hPl, hm1, hm, hn1, hn⟩ := hV
  exact c_X1_reduce l D hP2 hPl hm hn hvd0 hvd hAb hA0
end
section
/-- at pc, with the objects in step: the law comes to its end -/
def LW (p : Program) (l : Launch) (e : Env) (s : State) (m : MethodId) (below : List Frame) (meth : Method) (c : Code) (D : va_G) (b L : Nat) (xs : Nat → Int32) (q1 a1 a2 a3 a4 : Nat) (cA : ClassId) (q2 b1 b2 b3 b4 b5 : Nat) (cJ cI : ClassId) (p9 m9 n9 : Int32) (P mR nC vd : Nat) (i : Nat) (pc : Nat) : Prop := ∀ (A0 : Mat) (b0 : Nat → Nat) (rd : Nat) (fA fB fW fP : Nat → Int32) (pv pp : Nat) (gA gB : Nat → Int64) (rk : Nat) (gR : Nat → Int64) (gP : Nat → Int32) (gS : Nat → Int64), LI P mR nC A0 b0 rd fA fB fW fP pv pp gA gB rk gR gP → ∀ (ls : Array Slot) (H : Heap) (locs : List Loc), lv_has ls 4 [(0, .ref b), (1, .ref q1), (2, .ref q2), (3, .int (nI i))] → va_P D vwCl (pbW q1 a1 a2 a3 a4 cA p9 mR nC fA fB fW fP rd pv pp) H → va_D (fun q : Nat => s.heap.size ≤ q) (pbW q1 a1 a2 a3 a4 cA p9 mR nC fA fB fW fP rd pv pp) → va_P D vwCl (mdW q2 b1 b2 b3 b4 b5 cJ cI p9.toInt64 m9 n9 vd gA gB rd rk gR gP gS) H → va_D (fun q : Nat => s.heap.size ≤ q) (mdW q2 b1 b2 b3 b4 b5 cJ cI p9.toInt64 m9 n9 vd gA gB rd rk gR gP gS) → Apart (pbW q1 a1 a2 a3 a4 cA p9 mR nC fA fB fW fP rd pv pp) (mdW q2 b1 b2 b3 b4 b5 cJ cI p9.toInt64 m9 n9 vd gA gB rd rk gR gP gS) → va_S (fun q : Nat => s.heap.size ≤ q) s.heap H locs → W p l e room_1 s m #[Value.ref b] below meth c H locs 11 1687 (lw_Z below #[Value.ref b] s) (F0 m pc ls [])
def LC (p : Program) (l : Launch) (e : Env) (s : State) (m : MethodId) (below : List Frame) (meth : Method) (c : Code) (D : va_G) (b L : Nat) (xs : Nat → Int32) (q1 a1 a2 a3 a4 : Nat) (cA : ClassId) (q2 b1 b2 b3 b4 b5 : Nat) (cJ cI : ClassId) (p9 m9 n9 : Int32) (P mR nC vd : Nat) (i : Nat) : Prop := lw_At p s m meth c b L xs ∧ L ≤ 2051 ∧ LF p9 m9 n9 P mR nC vd ∧ va_K D vwCl [(cA, .int), (cJ, .long), (cI, .int)] s
set_option maxHeartbeats 4000000 in
set_option maxRecDepth 100000 in
theorem law_set {p : Program} {l : Launch} {e : Env} {s : State} {m : MethodId} {below : List Frame} {meth : Method} {c : Code} {D : va_G} {b L : Nat} {xs : Nat → Int32} {q1 a1 a2 a3 a4 : Nat} {cA : ClassId} {q2 b1 b2 b3 b4 b5 : Nat} {cJ cI : ClassId} {p9 m9 n9 : Int32} {P mR nC vd : Nat} {i : Nat} (C : LC p l e s m below meth c D b L xs q1 a1 a2 a3 a4 cA q2 b1 b2 b3 b4 b5 cJ cI p9 m9 n9 P mR nC vd i) (hi4 : i + 4 ≤ L) (K : LW p l e s m below meth c D b L xs q1 a1 a2 a3 a4 cA q2 b1 b2 b3 b4 b5 cJ cI p9 m9 n9 P mR nC vd i 457) : LW p l e s m below meth c D b L xs q1 a1 a2 a3 a4 cA q2 b1 b2 b3 b4 b5 cJ cI p9 m9 n9 P mR nC vd i 128 := by
  obtain ⟨C0, hL, hF, hK⟩ := C
  obtain ⟨hx, hb, hr, hml, hown, hts0, hX0, hbl, hlocks, hgv⟩ := id C0
  have hts : ∀ w ∈ wsL_law, w.before #[Value.ref b] s = true := fun w h => hts0 w (wsL_law_in w h)
  have S : CallFix p m c code 4 s #[Value.ref b] wsL_law RL := ⟨hx, hb, hml, hown, hts⟩
  have hA : ∀ q : Nat, s.heap.size ≤ q → (fun q : Nat => s.heap.size ≤ q) q := fun _ h => h
  have hbA : ¬ (fun q : Nat => s.heap.size ≤ q) b := Nat.not_le.mpr hbl
  obtain ⟨hm, hn, hV, hpr, hvd, hVm, hI, hmv, hvm⟩ := hF
  have hKx := hK.sub (tys' := [(cA, .int)]) [0] rfl
  have hKm := hK.sub (tys' := [(cJ, .long), (cI, .int)]) [1, 2] rfl
  intro A0 b0 rd fA fB fW fP pv pp gA gB rk gR gP gS hLI ls H locs hl hPx hDx hPm hDm hX hS
  obtain ⟨hAb, hbb, hA0, hb1, hA1, hb2, hrd, hpv9, hQ⟩ := id hLI
  have hQx := fun h => (⟨(hQ h).1, (hQ h).2.1⟩ : 0 < mR ∧ PbQ P mR nC fW fP pv pp (redN P mR (q00 nC A0) nC).1 (rowOf (redN P mR (q00 nC A0) nC).2.2.2 (redN P mR (q00 nC A0) nC).2.1))
  have hQm := fun h => (⟨hmv (hQ h).1, (hQ h).2.2.1⟩ : vd ≠ 0 ∧ MdQ P mR nC rk gR gP (redN P mR (q00 nC A0) nC).1 (redN P mR (q00 nC A0) nC).2.2.2)
  have hpvq := fun h => (hQ h).2.2.2.1
  have hrkq := fun h => (hQ h).2.2.2.2.2
  have hAbm := fun h => hAb (hvm h)
  have hbbm := fun h => hbb (hvm h)
  refine lv_aload_n hx hb dL_law_128 rfl (lv_at hl 1 rfl) ?_
  refine lv_aload_n hx hb dL_law_129 rfl (lv_at hl 0 rfl) ?_
  refine lv_iload_n hx hb dL_law_130 rfl (lv_at hl 3 rfl) ?_
  refine lv_iconst (v := nI 1) hx hb dL_law_131 (by decide +kernel) ?_
  refine nv_iadd hx hb dL_law_132 ?_
  refine nv_sld hx hb hX0 hbl hbA hS (k := i + 1) (by omega) (by omega) dL_law_133 ?_
  refine lv_aload_n hx hb dL_law_134 rfl (lv_at hl 0 rfl) ?_
  refine lv_iload_n hx hb dL_law_135 rfl (lv_at hl 3 rfl) ?_
  refine lv_iconst (v := nI 2) hx hb dL_law_136 (by decide +kernel) ?_
  refine nv_iadd hx hb dL_law_137 ?_
  refine nv_sld hx hb hX0 hbl hbA hS (k := i + 2) (by omega) (by omega) dL_law_138 ?_
  refine lv_aload_n hx hb dL_law_139 rfl (lv_at hl 0 rfl) ?_
  refine lv_iload_n hx hb dL_law_140 rfl (lv_at hl 3 rfl) ?_
  refine lv_iconst (v := nI 3) hx hb dL_law_141 (by decide +kernel) ?_
  refine nv_iadd hx hb dL_law_142 ?_
  refine nv_sld hx hb hX0 hbl hbA hS (k := i + 3) (by omega) (by omega) dL_law_143 ?_
  refine wri_f S (c_X0_set l D (P := P) (A0 := A0) (xs (i + 1)) (xs (i + 2)) (xs (i + 3)) hm hn hV hA0) (cwV 3 hts gL_law_X0_set rfl rfl rfl (by decide +kernel) ⟨Nat.le_of_ble_eq_true rfl, Nat.le_of_ble_eq_true rfl⟩) rfl hKx (ci := 0) rfl rfl hl.1 (rest := []) rfl (Nat.le_of_ble_eq_true rfl) dL_law_144 ⟨Nat.le_of_ble_eq_true rfl, Nat.le_of_ble_eq_true rfl⟩ hPx hDx hPm hX hS hA (fun r1 u1 H locs er1 hPx hDx hPm hX hS => ?_)
  refine lv_aload_n hx hb dL_law_147 rfl (lv_at hl 2 rfl) ?_
  refine lv_aload_n hx hb dL_law_148 rfl (lv_at hl 0 rfl) ?_
  refine lv_iload_n hx hb dL_law_149 rfl (lv_at hl 3 rfl) ?_
  refine lv_iconst (v := nI 1) hx hb dL_law_150 (by decide +kernel) ?_
  refine nv_iadd hx hb dL_law_151 ?_
  refine nv_sld hx hb hX0 hbl hbA hS (k := i + 1) (by omega) (by omega) dL_law_152 ?_
  refine lv_aload_n hx hb dL_law_153 rfl (lv_at hl 0 rfl) ?_
  refine lv_iload_n hx hb dL_law_154 rfl (lv_at hl 3 rfl) ?_
  refine lv_iconst (v := nI 2) hx hb dL_law_155 (by decide +kernel) ?_
  refine nv_iadd hx hb dL_law_156 ?_
  refine nv_sld hx hb hX0 hbl hbA hS (k := i + 2) (by omega) (by omega) dL_law_157 ?_
  refine lv_aload_n hx hb dL_law_158 rfl (lv_at hl 0 rfl) ?_
  refine lv_iload_n hx hb dL_law_159 rfl (lv_at hl 3 rfl) ?_
  refine lv_iconst (v := nI 3) hx hb dL_law_160 (by decide +kernel) ?_
  refine nv_iadd hx hb dL_law_161 ?_
  refine nv_sld hx hb hX0 hbl hbA hS (k := i + 3) (by omega) (by omega) dL_law_162 ?_
  refine wri_f S (c_X1_set l D (A0 := A0) (xs (i + 1)) (xs (i + 2)) (xs (i + 3)) hvd hVm hI hA1) (cwV 3 hts gL_law_X1_set rfl rfl rfl (by decide +kernel) ⟨Nat.le_of_ble_eq_true rfl, Nat.le_of_ble_eq_true rfl⟩) rfl hKm (ci := 1) rfl rfl hl.1 (rest := [.int r1]) rfl (Nat.le_of_ble_eq_true rfl) dL_law_163 ⟨Nat.le_of_ble_eq_true rfl, Nat.le_of_ble_eq_true rfl⟩ hPm hDm hPx hX.symm hS hA (fun r2 u2 H locs er2 hPm hDm hPx hX hS => ?_)
  have hX := hX.symm
  rcases er1 with ⟨ok1, rfl, n1, d1⟩ | ⟨no1, rfl, hu1⟩
  · rcases er2 with ⟨ok2, rfl, n2, d2⟩ | ⟨no2, rfl, hu2⟩
    · obtain ⟨f1, z1⟩ := u1
      obtain ⟨g1, z2⟩ := u2
      dsimp only at n1 d1 n2 d2
      subst d1 d2
      refine lv_icmp_eq (tgt := 457) hx hb dL_law_166 (by decide) (fun _ => ?_) (fun q => absurd (rfl) q)
      exact K (mu A0 (ix (xs (i + 1))) (ix (xs (i + 2))) (ix (xs (i + 3)) % P)) b0 0 f1 fB fW fP pv pp g1 gB rk gR gP gS ⟨fun h => bn_mu (hAb h) (Nat.mod_lt _ (by have := hV h; omega)), hbb, n1, hb1, n2, hb2, by omega, hpv9, fun h => absurd rfl h⟩ ls _ _ hl hPx hDx hPm hDm hX hS
    · exact absurd ok1 no2
  · rcases er2 with ⟨ok2, rfl, n2, d2⟩ | ⟨no2, rfl, hu2⟩
    · exact absurd ok2 no1
    · subst u1
      subst u2
      refine lv_icmp_eq (tgt := 457) hx hb dL_law_166 (by decide) (fun _ => ?_) (fun q => absurd (rfl) q)
      exact K A0 b0 rd fA fB fW fP pv pp gA gB rk gR gP gS hLI ls _ _ hl hPx hDx hPm hDm hX hS
set_option maxHeartbeats 4000000 in
set_option maxRecDepth 100000 in
theorem law_get {p : Program} {l : Launch} {e : Env} {s : State} {m : MethodId} {below : List Frame} {meth : Method} {c : Code} {D : va_G} {b L : Nat} {xs : Nat → Int32} {q1 a1 a2 a3 a4 : Nat} {cA : ClassId} {q2 b1 b2 b3 b4 b5 : Nat} {cJ cI : ClassId} {p9 m9 n9 : Int32} {P mR nC vd : Nat} {i : Nat} (C : LC p l e s m below meth c D b L xs q1 a1 a2 a3 a4 cA q2 b1 b2 b3 b4 b5 cJ cI p9 m9 n9 P mR nC vd i) (hi4 : i + 4 ≤ L) (K : LW p l e s m below meth c D b L xs q1 a1 a2 a3 a4 cA q2 b1 b2 b3 b4 b5 cJ cI p9 m9 n9 P mR nC vd i 457) : LW p l e s m below meth c D b L xs q1 a1 a2 a3 a4 cA q2 b1 b2 b3 b4 b5 cJ cI p9 m9 n9 P mR nC vd i 171 := by
  obtain ⟨C0, hL, hF, hK⟩ := C
  obtain ⟨hx, hb, hr, hml, hown, hts0, hX0, hbl, hlocks, hgv⟩ := id C0
  have hts : ∀ w ∈ wsL_law, w.before #[Value.ref b] s = true := fun w h => hts0 w (wsL_law_in w h)
  have S : CallFix p m c code 4 s #[Value.ref b] wsL_law RL := ⟨hx, hb, hml, hown, hts⟩
  have hA : ∀ q : Nat, s.heap.size ≤ q → (fun q : Nat => s.heap.size ≤ q) q := fun _ h => h
  have hbA : ¬ (fun q : Nat => s.heap.size ≤ q) b := Nat.not_le.mpr hbl
  obtain ⟨hm, hn, hV, hpr, hvd, hVm, hI, hmv, hvm⟩ := hF
  have hKx := hK.sub (tys' := [(cA, .int)]) [0] rfl
  have hKm := hK.sub (tys' := [(cJ, .long), (cI, .int)]) [1, 2] rfl
  intro A0 b0 rd fA fB fW fP pv pp gA gB rk gR gP gS hLI ls H locs hl hPx hDx hPm hDm hX hS
  obtain ⟨hAb, hbb, hA0, hb1, hA1, hb2, hrd, hpv9, hQ⟩ := id hLI
  have hQx := fun h => (⟨(hQ h).1, (hQ h).2.1⟩ : 0 < mR ∧ PbQ P mR nC fW fP pv pp (redN P mR (q00 nC A0) nC).1 (rowOf (redN P mR (q00 nC A0) nC).2.2.2 (redN P mR (q00 nC A0) nC).2.1))
  have hQm := fun h => (⟨hmv (hQ h).1, (hQ h).2.2.1⟩ : vd ≠ 0 ∧ MdQ P mR nC rk gR gP (redN P mR (q00 nC A0) nC).1 (redN P mR (q00 nC A0) nC).2.2.2)
  have hpvq := fun h => (hQ h).2.2.2.1
  have hrkq := fun h => (hQ h).2.2.2.2.2
  have hAbm := fun h => hAb (hvm h)
  have hbbm := fun h => hbb (hvm h)
  refine lv_aload_n hx hb dL_law_171 rfl (lv_at hl 1 rfl) ?_
  refine lv_aload_n hx hb dL_law_172 rfl (lv_at hl 0 rfl) ?_
  refine lv_iload_n hx hb dL_law_173 rfl (lv_at hl 3 rfl) ?_
  refine lv_iconst (v := nI 1) hx hb dL_law_174 (by decide +kernel) ?_
  refine nv_iadd hx hb dL_law_175 ?_
  refine nv_sld hx hb hX0 hbl hbA hS (k := i + 1) (by omega) (by omega) dL_law_176 ?_
  refine lv_aload_n hx hb dL_law_177 rfl (lv_at hl 0 rfl) ?_
  refine lv_iload_n hx hb dL_law_178 rfl (lv_at hl 3 rfl) ?_
  refine lv_iconst (v := nI 2) hx hb dL_law_179 (by decide +kernel) ?_
  refine nv_iadd hx hb dL_law_180 ?_
  refine nv_sld hx hb hX0 hbl hbA hS (k := i + 2) (by omega) (by omega) dL_law_181 ?_
  refine rdv_2 S (c_X0_get l D (A0 := A0) (xs (i + 1)) (xs (i + 2)) hm hn hA0) (cwV 2 hts gL_law_X0_get rfl rfl rfl (by decide +kernel) ⟨Nat.le_of_ble_eq_true rfl, Nat.le_of_ble_eq_true rfl⟩) rfl hKx hPx (ci := 0) rfl rfl hl.1 (rest := []) rfl (Nat.le_of_ble_eq_true rfl) dL_law_182 ⟨Nat.le_of_ble_eq_true rfl, Nat.le_of_ble_eq_true rfl⟩ hPm hS hA (fun r1 H locs er1 hPx hPm hS => ?_)
  refine lv_aload_n hx hb dL_law_185 rfl (lv_at hl 2 rfl) ?_
  refine lv_aload_n hx hb dL_law_186 rfl (lv_at hl 0 rfl) ?_
  refine lv_iload_n hx hb dL_law_187 rfl (lv_at hl 3 rfl) ?_
  refine lv_iconst (v := nI 1) hx hb dL_law_188 (by decide +kernel) ?_
  refine nv_iadd hx hb dL_law_189 ?_
  refine nv_sld hx hb hX0 hbl hbA hS (k := i + 1) (by omega) (by omega) dL_law_190 ?_
  refine lv_aload_n hx hb dL_law_191 rfl (lv_at hl 0 rfl) ?_
  refine lv_iload_n hx hb dL_law_192 rfl (lv_at hl 3 rfl) ?_
  refine lv_iconst (v := nI 2) hx hb dL_law_193 (by decide +kernel) ?_
  refine nv_iadd hx hb dL_law_194 ?_
  refine nv_sld hx hb hX0 hbl hbA hS (k := i + 2) (by omega) (by omega) dL_law_195 ?_
  refine wri_f S (c_X1_get l D (A0 := A0) (xs (i + 1)) (xs (i + 2)) hvd hVm hI hA1) (cwV 2 hts gL_law_X1_get rfl rfl rfl (by decide +kernel) ⟨Nat.le_of_ble_eq_true rfl, Nat.le_of_ble_eq_true rfl⟩) rfl hKm (ci := 1) rfl rfl hl.1 (rest := [.int r1]) rfl (Nat.le_of_ble_eq_true rfl) dL_law_196 ⟨Nat.le_of_ble_eq_true rfl, Nat.le_of_ble_eq_true rfl⟩ hPm hDm hPx hX.symm hS hA (fun r2 u2 H locs er2 hPm hDm hPx hX hS => ?_)
  have hX := hX.symm
  have e12 : r1 = r2 := by rw [er1, er2]
  refine lv_icmp_eq (tgt := 457) hx hb dL_law_199 (by decide) (fun _ => ?_) (fun q => absurd (e12) q)
  exact K A0 b0 rd fA fB fW fP pv pp gA gB rk gR gP gS hLI ls _ _ hl hPx hDx hPm hDm hX hS
set_option maxHeartbeats 4000000 in
set_option maxRecDepth 100000 in
theorem law_setRhs {p : Program} {l : Launch} {e : Env} {s : State} {m : MethodId} {below : List Frame} {meth : Method} {c : Code} {D : va_G} {b L : Nat} {xs : Nat → Int32} {q1 a1 a2 a3 a4 : Nat} {cA : ClassId} {q2 b1 b2 b3 b4 b5 : Nat} {cJ cI : ClassId} {p9 m9 n9 : Int32} {P mR nC vd : Nat} {i : Nat} (C : LC p l e s m below meth c D b L xs q1 a1 a2 a3 a4 cA q2 b1 b2 b3 b4 b5 cJ cI p9 m9 n9 P mR nC vd i) (hi4 : i + 4 ≤ L) (K : LW p l e s m below meth c D b L xs q1 a1 a2 a3 a4 cA q2 b1 b2 b3 b4 b5 cJ cI p9 m9 n9 P mR nC vd i 457) : LW p l e s m below meth c D b L xs q1 a1 a2 a3 a4 cA q2 b1 b2 b3 b4 b5 cJ cI p9 m9 n9 P mR nC vd i 204 := by
  obtain ⟨C0, hL, hF, hK⟩ := C
  obtain ⟨hx, hb, hr, hml, hown, hts0, hX0, hbl, hlocks, hgv⟩ := id C0
  have hts : ∀ w ∈ wsL_law, w.before #[Value.ref b] s = true := fun w h => hts0 w (wsL_law_in w h)
  have S : CallFix p m c code 4 s #[Value.ref b] wsL_law RL := ⟨hx, hb, hml, hown, hts⟩
  have hA : ∀ q : Nat, s.heap.size ≤ q → (fun q : Nat => s.heap.size ≤ q) q := fun _ h => h
  have hbA : ¬ (fun q : Nat => s.heap.size ≤ q) b := Nat.not_le.mpr hbl
  obtain ⟨hm, hn, hV, hpr, hvd, hVm, hI, hmv, hvm⟩ := hF
  have hKx := hK.sub (tys' := [(cA, .int)]) [0] rfl
  have hKm := hK.sub (tys' := [(cJ, .long), (cI, .int)]) [1, 2] rfl
  intro A0 b0 rd fA fB fW fP pv pp gA gB rk gR gP gS hLI ls H locs hl hPx hDx hPm hDm hX hS
  obtain ⟨hAb, hbb, hA0, hb1, hA1, hb2, hrd, hpv9, hQ⟩ := id hLI
  have hQx := fun h => (⟨(hQ h).1, (hQ h).2.1⟩ : 0 < mR ∧ PbQ P mR nC fW fP pv pp (redN P mR (q00 nC A0) nC).1 (rowOf (redN P mR (q00 nC A0) nC).2.2.2 (redN P mR (q00 nC A0) nC).2.1))
  have hQm := fun h => (⟨hmv (hQ h).1, (hQ h).2.2.1⟩ : vd ≠ 0 ∧ MdQ P mR nC rk gR gP (redN P mR (q00 nC A0) nC).1 (redN P mR (q00 nC A0) nC).2.2.2)
  have hpvq := fun h => (hQ h).2.2.2.1
  have hrkq := fun h => (hQ h).2.2.2.2.2
  have hAbm := fun h => hAb (hvm h)
  have hbbm := fun h => hbb (hvm h)
  refine lv_aload_n hx hb dL_law_204 rfl (lv_at hl 1 rfl) ?_
  refine lv_aload_n hx hb dL_law_205 rfl (lv_at hl 0 rfl) ?_
  refine lv_iload_n hx hb dL_law_206 rfl (lv_at hl 3 rfl) ?_
  refine lv_iconst (v := nI 1) hx hb dL_law_207 (by decide +kernel) ?_
  refine nv_iadd hx hb dL_law_208 ?_
  refine nv_sld hx hb hX0 hbl hbA hS (k := i + 1) (by omega) (by omega) dL_law_209 ?_
  refine lv_aload_n hx hb dL_law_210 rfl (lv_at hl 0 rfl) ?_
  refine lv_iload_n hx hb dL_law_211 rfl (lv_at hl 3 rfl) ?_
  refine lv_iconst (v := nI 2) hx hb dL_law_212 (by decide +kernel) ?_
  refine nv_iadd hx hb dL_law_213 ?_
  refine nv_sld hx hb hX0 hbl hbA hS (k := i + 2) (by omega) (by omega) dL_law_214 ?_
  refine wri_f S (c_X0_setRhs l D (P := P) (b := b0) (xs (i + 1)) (xs (i + 2)) hm hn hV hb1) (cwV 2 hts gL_law_X0_setRhs rfl rfl rfl (by decide +kernel) ⟨Nat.le_of_ble_eq_true rfl, Nat.le_of_ble_eq_true rfl⟩) rfl hKx (ci := 0) rfl rfl hl.1 (rest := []) rfl (Nat.le_of_ble_eq_true rfl) dL_law_215 ⟨Nat.le_of_ble_eq_true rfl, Nat.le_of_ble_eq_true rfl⟩ hPx hDx hPm hX hS hA (fun r1 u1 H locs er1 hPx hDx hPm hX hS => ?_)
  refine lv_aload_n hx hb dL_law_218 rfl (lv_at hl 2 rfl) ?_
  refine lv_aload_n hx hb dL_law_219 rfl (lv_at hl 0 rfl) ?_
  refine lv_iload_n hx hb dL_law_220 rfl (lv_at hl 3 rfl) ?_
  refine lv_iconst (v := nI 1) hx hb dL_law_221 (by decide +kernel) ?_
  refine nv_iadd hx hb dL_law_222 ?_
  refine nv_sld hx hb hX0 hbl hbA hS (k := i + 1) (by omega) (by omega) dL_law_223 ?_
  refine lv_aload_n hx hb dL_law_224 rfl (lv_at hl 0 rfl) ?_
  refine lv_iload_n hx hb dL_law_225 rfl (lv_at hl 3 rfl) ?_
  refine lv_iconst (v := nI 2) hx hb dL_law_226 (by decide +kernel) ?_
  refine nv_iadd hx hb dL_law_227 ?_
  refine nv_sld hx hb hX0 hbl hbA hS (k := i + 2) (by omega) (by omega) dL_law_228 ?_
  refine wri_f S (c_X1_setRhs l D (b := b0) (xs (i + 1)) (xs (i + 2)) hvd hVm hI hb2) (cwV 2 hts gL_law_X1_setRhs rfl rfl rfl (by decide +kernel) ⟨Nat.le_of_ble_eq_true rfl, Nat.le_of_ble_eq_true rfl⟩) rfl hKm (ci := 1) rfl rfl hl.1 (rest := [.int r1]) rfl (Nat.le_of_ble_eq_true rfl) dL_law_229 ⟨Nat.le_of_ble_eq_true rfl, Nat.le_of_ble_eq_true rfl⟩ hPm hDm hPx hX.symm hS hA (fun r2 u2 H locs er2 hPm hDm hPx hX hS => ?_)
  have hX := hX.symm
  rcases er1 with ⟨ok1, rfl, n1⟩ | ⟨no1, rfl, hu1⟩
  · rcases er2 with ⟨ok2, rfl, n2⟩ | ⟨no2, rfl, hu2⟩
    · refine lv_icmp_eq (tgt := 457) hx hb dL_law_232 (by decide) (fun _ => ?_) (fun q => absurd (rfl) q)
      exact K A0 (nb b0 (ix (xs (i + 1))) (ix (xs (i + 2)) % P)) rd fA u1 fW fP pv pp gA u2 rk gR gP gS ⟨hAb, fun h => bn_nb (hbb h) (Nat.mod_lt _ (by have := hV h; omega)), hA0, n1, hA1, n2, hrd, hpv9, hQ⟩ ls _ _ hl hPx hDx hPm hDm hX hS
    · exact absurd ok1 no2
  · rcases er2 with ⟨ok2, rfl, n2⟩ | ⟨no2, rfl, hu2⟩
    · exact absurd ok2 no1
    · subst u1
      subst u2
      refine lv_icmp_eq (tgt := 457) hx hb dL_law_232 (by decide) (fun _ => ?_) (fun q => absurd (rfl) q)
      exact K A0 b0 rd fA fB fW fP pv pp gA gB rk gR gP gS hLI ls _ _ hl hPx hDx hPm hDm hX hS
set_option maxHeartbeats 4000000 in
set_option maxRecDepth 100000 in
theorem law_reduce {p : Program} {l : Launch} {e : Env} {s : State} {m : MethodId} {below : List Frame} {meth : Method} {c : Code} {D : va_G} {b L : Nat} {xs : Nat → Int32} {q1 a1 a2 a3 a4 : Nat} {cA : ClassId} {q2 b1 b2 b3 b4 b5 : Nat} {cJ cI : ClassId} {p9 m9 n9 : Int32} {P mR nC vd : Nat} {i : Nat} (C : LC p l e s m below meth c D b L xs q1 a1 a2 a3 a4 cA q2 b1 b2 b3 b4 b5 cJ cI p9 m9 n9 P mR nC vd i) (hi4 : i + 4 ≤ L) (K : LW p l e s m below meth c D b L xs q1 a1 a2 a3 a4 cA q2 b1 b2 b3 b4 b5 cJ cI p9 m9 n9 P mR nC vd i 457) : LW p l e s m below meth c D b L xs q1 a1 a2 a3 a4 cA q2 b1 b2 b3 b4 b5 cJ cI p9 m9 n9 P mR nC vd i 237 := by
  obtain ⟨C0, hL, hF, hK⟩ := C
  obtain ⟨hx, hb, hr, hml, hown, hts0, hX0, hbl, hlocks, hgv⟩ := id C0
  have hts : ∀ w ∈ wsL_law, w.before #[Value.ref b] s = true := fun w h => hts0 w (wsL_law_in w h)
  have S : CallFix p m c code 4 s #[Value.ref b] wsL_law RL := ⟨hx, hb, hml, hown, hts⟩
  have hA : ∀ q : Nat, s.heap.size ≤ q → (fun q : Nat => s.heap.size ≤ q) q := fun _ h => h
  have hbA : ¬ (fun q : Nat => s.heap.size ≤ q) b := Nat.not_le.mpr hbl
  obtain ⟨hm, hn, hV, hpr, hvd, hVm, hI, hmv, hvm⟩ := hF
  have hKx := hK.sub (tys' := [(cA, .int)]) [0] rfl
  have hKm := hK.sub (tys' := [(cJ, .long), (cI, .int)]) [1, 2] rfl
  intro A0 b0 rd fA fB fW fP pv pp gA gB rk gR gP gS hLI ls H locs hl hPx hDx hPm hDm hX hS
  obtain ⟨hAb, hbb, hA0, hb1, hA1, hb2, hrd, hpv9, hQ⟩ := id hLI
  have hQx := fun h => (⟨(hQ h).1, (hQ h).2.1⟩ : 0 < mR ∧ PbQ P mR nC fW fP pv pp (redN P mR (q00 nC A0) nC).1 (rowOf (redN P mR (q00 nC A0) nC).2.2.2 (redN P mR (q00 nC A0) nC).2.1))
  have hQm := fun h => (⟨hmv (hQ h).1, (hQ h).2.2.1⟩ : vd ≠ 0 ∧ MdQ P mR nC rk gR gP (redN P mR (q00 nC A0) nC).1 (redN P mR (q00 nC A0) nC).2.2.2)
  have hpvq := fun h => (hQ h).2.2.2.1
  have hrkq := fun h => (hQ h).2.2.2.2.2
  have hAbm := fun h => hAb (hvm h)
  have hbbm := fun h => hbb (hvm h)
  by_cases hm0 : 0 < mR
  · obtain ⟨hp9, hP2, hPl⟩ := hV hm0
    have hV0 := hmv hm0
    refine lv_aload_n hx hb dL_law_237 rfl (lv_at hl 1 rfl) ?_
    refine wri_f S (c_X0_reduceR l D (P := P) (A0 := A0) hp9 hP2 hPl hm hn hm0 (hAb hm0) hA0) (cwV 0 hts gL_law_X0_reduce rfl rfl rfl (by decide +kernel) ⟨Nat.le_of_ble_eq_true rfl, Nat.le_of_ble_eq_true rfl⟩) rfl hKx (ci := 0) rfl rfl hl.1 (rest := []) rfl (Nat.le_of_ble_eq_true rfl) dL_law_238 ⟨Nat.le_of_ble_eq_true rfl, Nat.le_of_ble_eq_true rfl⟩ hPx hDx hPm hX hS hA (fun r1 u1 H locs er1 hPx hDx hPm hX hS => ?_)
    refine lv_aload_n hx hb dL_law_241 rfl (lv_at hl 2 rfl) ?_
    refine wri_f S (c_X1_reduceR l D (A0 := A0) (hVm hV0) hV0 hvd (hAb hm0) hA1) (cwV 0 hts gL_law_X1_reduce rfl rfl rfl (by decide +kernel) ⟨Nat.le_of_ble_eq_true rfl, Nat.le_of_ble_eq_true rfl⟩) rfl hKm (ci := 1) rfl rfl hl.1 (rest := [.int r1]) rfl (Nat.le_of_ble_eq_true rfl) dL_law_242 ⟨Nat.le_of_ble_eq_true rfl, Nat.le_of_ble_eq_true rfl⟩ hPm hDm hPx hX.symm hS hA (fun r2 u2 H locs er2 hPm hDm hPx hX hS => ?_)
    have hX := hX.symm
    obtain ⟨f1, g1, v1, d1⟩ := u1
    obtain ⟨f2, g2, v2⟩ := u2
    obtain ⟨x0, x1, x2, x3, x4⟩ := er1
    obtain ⟨y0, y1, y2, y3⟩ := er2
    dsimp only at x1 x2 x3 x4 y1 y2 y3
    have hnew := LI_red hm hn hP2 (hAb hm0) hm0 x1 x2 x3 x4 y1 y2 y3
    refine lv_icmp_eq (tgt := 457) hx hb dL_law_245 (by decide) (fun _ => ?_) (fun q => absurd (by rw [x0, y0, ← x3, hnew.2.2.2.1]) q)
    exact K A0 b0 1 fA fB f1 g1 v1 d1 gA gB v2 f2 g2 gS ⟨hAb, hbb, hA0, hb1, hA1, hb2, by omega, by have := hnew.2.1.2.2.2.2.1; omega, fun _ => hnew⟩ ls _ _ hl hPx hDx hPm hDm hX hS
  · have hvd0 : vd = 0 := by
      rcases Nat.eq_zero_or_pos vd with q | q
      · exact q
      · exact absurd (hvm (by omega)) hm0
    refine lv_aload_n hx hb dL_law_237 rfl (lv_at hl 1 rfl) ?_
    refine wri_f S (c_X0_reduce0 l D (by omega)) (cwV 0 hts gL_law_X0_reduce rfl rfl rfl (by decide +kernel) ⟨Nat.le_of_ble_eq_true rfl, Nat.le_of_ble_eq_true rfl⟩) rfl hKx (ci := 0) rfl rfl hl.1 (rest := []) rfl (Nat.le_of_ble_eq_true rfl) dL_law_238 ⟨Nat.le_of_ble_eq_true rfl, Nat.le_of_ble_eq_true rfl⟩ hPx hDx hPm hX hS hA (fun r1 u1 H locs er1 hPx hDx hPm hX hS => ?_)
    refine lv_aload_n hx hb dL_law_241 rfl (lv_at hl 2 rfl) ?_
    refine wri_f S (c_X1_reduce0 l D (P := P) (mR := mR) (nC := nC) hvd0) (cwV 0 hts gL_law_X1_reduce rfl rfl rfl (by decide +kernel) ⟨Nat.le_of_ble_eq_true rfl, Nat.le_of_ble_eq_true rfl⟩) rfl hKm (ci := 1) rfl rfl hl.1 (rest := [.int r1]) rfl (Nat.le_of_ble_eq_true rfl) dL_law_242 ⟨Nat.le_of_ble_eq_true rfl, Nat.le_of_ble_eq_true rfl⟩ hPm hDm hPx hX.symm hS hA (fun r2 u2 H locs er2 hPm hDm hPx hX hS => ?_)
    have hX := hX.symm
    refine lv_icmp_eq (tgt := 457) hx hb dL_law_245 (by decide) (fun _ => ?_) (fun q => absurd (by rw [er1, er2]) q)
    exact K A0 b0 rd fA fB fW fP pv pp gA gB rk gR gP gS hLI ls _ _ hl hPx hDx hPm hDm hX hS
set_option maxHeartbeats 4000000 in
set_option maxRecDepth 100000 in
theorem law_rank {p : Program} {l : Launch} {e : Env} {s : State} {m : MethodId} {below : List Frame} {meth : Method} {c : Code} {D : va_G} {b L : Nat} {xs : Nat → Int32} {q1 a1 a2 a3 a4 : Nat} {cA : ClassId} {q2 b1 b2 b3 b4 b5 : Nat} {cJ cI : ClassId} {p9 m9 n9 : Int32} {P mR nC vd : Nat} {i : Nat} (C : LC p l e s m below meth c D b L xs q1 a1 a2 a3 a4 cA q2 b1 b2 b3 b4 b5 cJ cI p9 m9 n9 P mR nC vd i) (hi4 : i + 4 ≤ L) (K : LW p l e s m below meth c D b L xs q1 a1 a2 a3 a4 cA q2 b1 b2 b3 b4 b5 cJ cI p9 m9 n9 P mR nC vd i 457) : LW p l e s m below meth c D b L xs q1 a1 a2 a3 a4 cA q2 b1 b2 b3 b4 b5 cJ cI p9 m9 n9 P mR nC vd i 250 := by
  obtain ⟨C0, hL, hF, hK⟩ := C
  obtain ⟨hx, hb, hr, hml, hown, hts0, hX0, hbl, hlocks, hgv⟩ := id C0
  have hts : ∀ w ∈ wsL_law, w.before #[Value.ref b] s = true := fun w h => hts0 w (wsL_law_in w h)
  have S : CallFix p m c code 4 s #[Value.ref b] wsL_law RL := ⟨hx, hb, hml, hown, hts⟩
  have hA : ∀ q : Nat, s.heap.size ≤ q → (fun q : Nat => s.heap.size ≤ q) q := fun _ h => h
  have hbA : ¬ (fun q : Nat => s.heap.size ≤ q) b := Nat.not_le.mpr hbl
  obtain ⟨hm, hn, hV, hpr, hvd, hVm, hI, hmv, hvm⟩ := hF
  have hKx := hK.sub (tys' := [(cA, .int)]) [0] rfl
  have hKm := hK.sub (tys' := [(cJ, .long), (cI, .int)]) [1, 2] rfl
  intro A0 b0 rd fA fB fW fP pv pp gA gB rk gR gP gS hLI ls H locs hl hPx hDx hPm hDm hX hS
  obtain ⟨hAb, hbb, hA0, hb1, hA1, hb2, hrd, hpv9, hQ⟩ := id hLI
  have hQx := fun h => (⟨(hQ h).1, (hQ h).2.1⟩ : 0 < mR ∧ PbQ P mR nC fW fP pv pp (redN P mR (q00 nC A0) nC).1 (rowOf (redN P mR (q00 nC A0) nC).2.2.2 (redN P mR (q00 nC A0) nC).2.1))
  have hQm := fun h => (⟨hmv (hQ h).1, (hQ h).2.2.1⟩ : vd ≠ 0 ∧ MdQ P mR nC rk gR gP (redN P mR (q00 nC A0) nC).1 (redN P mR (q00 nC A0) nC).2.2.2)
  have hpvq := fun h => (hQ h).2.2.2.1
  have hrkq := fun h => (hQ h).2.2.2.2.2
  have hAbm := fun h => hAb (hvm h)
  have hbbm := fun h => hbb (hvm h)
  refine lv_aload_n hx hb dL_law_250 rfl (lv_at hl 1 rfl) ?_
  refine rdv_2 S (c_X0_rank l D hrd) (cwV 0 hts gL_law_X0_rank rfl rfl rfl (by decide +kernel) ⟨Nat.le_of_ble_eq_true rfl, Nat.le_of_ble_eq_true rfl⟩) rfl hKx hPx (ci := 0) rfl rfl hl.1 (rest := []) rfl (Nat.le_of_ble_eq_true rfl) dL_law_251 ⟨Nat.le_of_ble_eq_true rfl, Nat.le_of_ble_eq_true rfl⟩ hPm hS hA (fun r1 H locs er1 hPx hPm hS => ?_)
  refine lv_aload_n hx hb dL_law_254 rfl (lv_at hl 2 rfl) ?_
  refine wri_f S (c_X1_rank l D (P := P) (mR := mR) (nC := nC) hrd) (cwV 0 hts gL_law_X1_rank rfl rfl rfl (by decide +kernel) ⟨Nat.le_of_ble_eq_true rfl, Nat.le_of_ble_eq_true rfl⟩) rfl hKm (ci := 1) rfl rfl hl.1 (rest := [.int r1]) rfl (Nat.le_of_ble_eq_true rfl) dL_law_255 ⟨Nat.le_of_ble_eq_true rfl, Nat.le_of_ble_eq_true rfl⟩ hPm hDm hPx hX.symm hS hA (fun r2 u2 H locs er2 hPm hDm hPx hX hS => ?_)
  have hX := hX.symm
  have e12 : r1 = r2 := by
    rw [er1, er2]
    by_cases h0 : rd = 0
    · simp [sRank, h0]
    · rw [hpvq h0, hrkq h0]
  refine lv_icmp_eq (tgt := 457) hx hb dL_law_258 (by decide) (fun _ => ?_) (fun q => absurd (e12) q)
  exact K A0 b0 rd fA fB fW fP pv pp gA gB rk gR gP gS hLI ls _ _ hl hPx hDx hPm hDm hX hS
set_option maxHeartbeats 4000000 in
set_option maxRecDepth 100000 in
theorem law_rrefAt {p : Program} {l : Launch} {e : Env} {s : State} {m : MethodId} {below : List Frame} {meth : Method} {c : Code} {D : va_G} {b L : Nat} {xs : Nat → Int32} {q1 a1 a2 a3 a4 : Nat} {cA : ClassId} {q2 b1 b2 b3 b4 b5 : Nat} {cJ cI : ClassId} {p9 m9 n9 : Int32} {P mR nC vd : Nat} {i : Nat} (C : LC p l e s m below meth c D b L xs q1 a1 a2 a3 a4 cA q2 b1 b2 b3 b4 b5 cJ cI p9 m9 n9 P mR nC vd i) (hi4 : i + 4 ≤ L) (K : LW p l e s m below meth c D b L xs q1 a1 a2 a3 a4 cA q2 b1 b2 b3 b4 b5 cJ cI p9 m9 n9 P mR nC vd i 457) : LW p l e s m below meth c D b L xs q1 a1 a2 a3 a4 cA q2 b1 b2 b3 b4 b5 cJ cI p9 m9 n9 P mR nC vd i 263 := by
  obtain ⟨C0, hL, hF, hK⟩ := C
  obtain ⟨hx, hb, hr, hml, hown, hts0, hX0, hbl, hlocks, hgv⟩ := id C0
  have hts : ∀ w ∈ wsL_law, w.before #[Value.ref b] s = true := fun w h => hts0 w (wsL_law_in w h)
  have S : CallFix p m c code 4 s #[Value.ref b] wsL_law RL := ⟨hx, hb, hml, hown, hts⟩
  have hA : ∀ q : Nat, s.heap.size ≤ q → (fun q : Nat => s.heap.size ≤ q) q := fun _ h => h
  have hbA : ¬ (fun q : Nat => s.heap.size ≤ q) b := Nat.not_le.mpr hbl
  obtain ⟨hm, hn, hV, hpr, hvd, hVm, hI, hmv, hvm⟩ := hF
  have hKx := hK.sub (tys' := [(cA, .int)]) [0] rfl
  have hKm := hK.sub (tys' := [(cJ, .long), (cI, .int)]) [1, 2] rfl
  intro A0 b0 rd fA fB fW fP pv pp gA gB rk gR gP gS hLI ls H locs hl hPx hDx hPm hDm hX hS
  obtain ⟨hAb, hbb, hA0, hb1, hA1, hb2, hrd, hpv9, hQ⟩ := id hLI
  have hQx := fun h => (⟨(hQ h).1, (hQ h).2.1⟩ : 0 < mR ∧ PbQ P mR nC fW fP pv pp (redN P mR (q00 nC A0) nC).1 (rowOf (redN P mR (q00 nC A0) nC).2.2.2 (redN P mR (q00 nC A0) nC).2.1))
  have hQm := fun h => (⟨hmv (hQ h).1, (hQ h).2.2.1⟩ : vd ≠ 0 ∧ MdQ P mR nC rk gR gP (redN P mR (q00 nC A0) nC).1 (redN P mR (q00 nC A0) nC).2.2.2)
  have hpvq := fun h => (hQ h).2.2.2.1
  have hrkq := fun h => (hQ h).2.2.2.2.2
  have hAbm := fun h => hAb (hvm h)
  have hbbm := fun h => hbb (hvm h)
  refine lv_aload_n hx hb dL_law_263 rfl (lv_at hl 1 rfl) ?_
  refine lv_aload_n hx hb dL_law_264 rfl (lv_at hl 0 rfl) ?_
  refine lv_iload_n hx hb dL_law_265 rfl (lv_at hl 3 rfl) ?_
  refine lv_iconst (v := nI 1) hx hb dL_law_266 (by decide +kernel) ?_
  refine nv_iadd hx hb dL_law_267 ?_
  refine nv_sld hx hb hX0 hbl hbA hS (k := i + 1) (by omega) (by omega) dL_law_268 ?_
  refine lv_aload_n hx hb dL_law_269 rfl (lv_at hl 0 rfl) ?_
  refine lv_iload_n hx hb dL_law_270 rfl (lv_at hl 3 rfl) ?_
  refine lv_iconst (v := nI 2) hx hb dL_law_271 (by decide +kernel) ?_
  refine nv_iadd hx hb dL_law_272 ?_
  refine nv_sld hx hb hX0 hbl hbA hS (k := i + 2) (by omega) (by omega) dL_law_273 ?_
  refine rdv_2 S (c_X0_rrefAt l D (xs (i + 1)) (xs (i + 2)) hm hn hV hrd hQx) (cwV 2 hts gL_law_X0_rrefAt rfl rfl rfl (by decide +kernel) ⟨Nat.le_of_ble_eq_true rfl, Nat.le_of_ble_eq_true rfl⟩) rfl hKx hPx (ci := 0) rfl rfl hl.1 (rest := []) rfl (Nat.le_of_ble_eq_true rfl) dL_law_274 ⟨Nat.le_of_ble_eq_true rfl, Nat.le_of_ble_eq_true rfl⟩ hPm hS hA (fun r1 H locs er1 hPx hPm hS => ?_)
  refine lv_aload_n hx hb dL_law_277 rfl (lv_at hl 2 rfl) ?_
  refine lv_aload_n hx hb dL_law_278 rfl (lv_at hl 0 rfl) ?_
  refine lv_iload_n hx hb dL_law_279 rfl (lv_at hl 3 rfl) ?_
  refine lv_iconst (v := nI 1) hx hb dL_law_280 (by decide +kernel) ?_
  refine nv_iadd hx hb dL_law_281 ?_
  refine nv_sld hx hb hX0 hbl hbA hS (k := i + 1) (by omega) (by omega) dL_law_282 ?_
  refine lv_aload_n hx hb dL_law_283 rfl (lv_at hl 0 rfl) ?_
  refine lv_iload_n hx hb dL_law_284 rfl (lv_at hl 3 rfl) ?_
  refine lv_iconst (v := nI 2) hx hb dL_law_285 (by decide +kernel) ?_
  refine nv_iadd hx hb dL_law_286 ?_
  refine nv_sld hx hb hX0 hbl hbA hS (k := i + 2) (by omega) (by omega) dL_law_287 ?_
  refine wri_f S (c_X1_rrefAt l D (xs (i + 1)) (xs (i + 2)) hvd hVm hI hrd hQm) (cwV 2 hts gL_law_X1_rrefAt rfl rfl rfl (by decide +kernel) ⟨Nat.le_of_ble_eq_true rfl, Nat.le_of_ble_eq_true rfl⟩) rfl hKm (ci := 1) rfl rfl hl.1 (rest := [.int r1]) rfl (Nat.le_of_ble_eq_true rfl) dL_law_288 ⟨Nat.le_of_ble_eq_true rfl, Nat.le_of_ble_eq_true rfl⟩ hPm hDm hPx hX.symm hS hA (fun r2 u2 H locs er2 hPm hDm hPx hX hS => ?_)
  have hX := hX.symm
  have e12 : r1 = r2 := by rw [er1, er2]
  refine lv_icmp_eq (tgt := 457) hx hb dL_law_291 (by decide) (fun _ => ?_) (fun q => absurd (e12) q)
  exact K A0 b0 rd fA fB fW fP pv pp gA gB rk gR gP gS hLI ls _ _ hl hPx hDx hPm hDm hX hS
set_option maxHeartbeats 4000000 in
set_option maxRecDepth 100000 in
theorem law_transformAt {p : Program} {l : Launch} {e : Env} {s : State} {m : MethodId} {below : List Frame} {meth : Method} {c : Code} {D : va_G} {b L : Nat} {xs : Nat → Int32} {q1 a1 a2 a3 a4 : Nat} {cA : ClassId} {q2 b1 b2 b3 b4 b5 : Nat} {cJ cI : ClassId} {p9 m9 n9 : Int32} {P mR nC vd : Nat} {i : Nat} (C : LC p l e s m below meth c D b L xs q1 a1 a2 a3 a4 cA q2 b1 b2 b3 b4 b5 cJ cI p9 m9 n9 P mR nC vd i) (hi4 : i + 4 ≤ L) (K : LW p l e s m below meth c D b L xs q1 a1 a2 a3 a4 cA q2 b1 b2 b3 b4 b5 cJ cI p9 m9 n9 P mR nC vd i 457) : LW p l e s m below meth c D b L xs q1 a1 a2 a3 a4 cA q2 b1 b2 b3 b4 b5 cJ cI p9 m9 n9 P mR nC vd i 296 := by
  obtain ⟨C0, hL, hF, hK⟩ := C
  obtain ⟨hx, hb, hr, hml, hown, hts0, hX0, hbl, hlocks, hgv⟩ := id C0
  have hts : ∀ w ∈ wsL_law, w.before #[Value.ref b] s = true := fun w h => hts0 w (wsL_law_in w h)
  have S : CallFix p m c code 4 s #[Value.ref b] wsL_law RL := ⟨hx, hb, hml, hown, hts⟩
  have hA : ∀ q : Nat, s.heap.size ≤ q → (fun q : Nat => s.heap.size ≤ q) q := fun _ h => h
  have hbA : ¬ (fun q : Nat => s.heap.size ≤ q) b := Nat.not_le.mpr hbl
  obtain ⟨hm, hn, hV, hpr, hvd, hVm, hI, hmv, hvm⟩ := hF
  have hKx := hK.sub (tys' := [(cA, .int)]) [0] rfl
  have hKm := hK.sub (tys' := [(cJ, .long), (cI, .int)]) [1, 2] rfl
  intro A0 b0 rd fA fB fW fP pv pp gA gB rk gR gP gS hLI ls H locs hl hPx hDx hPm hDm hX hS
  obtain ⟨hAb, hbb, hA0, hb1, hA1, hb2, hrd, hpv9, hQ⟩ := id hLI
  have hQx := fun h => (⟨(hQ h).1, (hQ h).2.1⟩ : 0 < mR ∧ PbQ P mR nC fW fP pv pp (redN P mR (q00 nC A0) nC).1 (rowOf (redN P mR (q00 nC A0) nC).2.2.2 (redN P mR (q00 nC A0) nC).2.1))
  have hQm := fun h => (⟨hmv (hQ h).1, (hQ h).2.2.1⟩ : vd ≠ 0 ∧ MdQ P mR nC rk gR gP (redN P mR (q00 nC A0) nC).1 (redN P mR (q00 nC A0) nC).2.2.2)
  have hpvq := fun h => (hQ h).2.2.2.1
  have hrkq := fun h => (hQ h).2.2.2.2.2
  have hAbm := fun h => hAb (hvm h)
  have hbbm := fun h => hbb (hvm h)
  refine lv_aload_n hx hb dL_law_296 rfl (lv_at hl 1 rfl) ?_
  refine lv_aload_n hx hb dL_law_297 rfl (lv_at hl 0 rfl) ?_
  refine lv_iload_n hx hb dL_law_298 rfl (lv_at hl 3 rfl) ?_
  refine lv_iconst (v := nI 1) hx hb dL_law_299 (by decide +kernel) ?_
  refine nv_iadd hx hb dL_law_300 ?_
  refine nv_sld hx hb hX0 hbl hbA hS (k := i + 1) (by omega) (by omega) dL_law_301 ?_
  refine lv_aload_n hx hb dL_law_302 rfl (lv_at hl 0 rfl) ?_
  refine lv_iload_n hx hb dL_law_303 rfl (lv_at hl 3 rfl) ?_
  refine lv_iconst (v := nI 2) hx hb dL_law_304 (by decide +kernel) ?_
  refine nv_iadd hx hb dL_law_305 ?_
  refine nv_sld hx hb hX0 hbl hbA hS (k := i + 2) (by omega) (by omega) dL_law_306 ?_
  refine rdv_2 S (c_X0_transformAt l D (xs (i + 1)) (xs (i + 2)) hm hn hV hrd hQx) (cwV 2 hts gL_law_X0_transformAt rfl rfl rfl (by decide +kernel) ⟨Nat.le_of_ble_eq_true rfl, Nat.le_of_ble_eq_true rfl⟩) rfl hKx hPx (ci := 0) rfl rfl hl.1 (rest := []) rfl (Nat.le_of_ble_eq_true rfl) dL_law_307 ⟨Nat.le_of_ble_eq_true rfl, Nat.le_of_ble_eq_true rfl⟩ hPm hS hA (fun r1 H locs er1 hPx hPm hS => ?_)
  refine lv_aload_n hx hb dL_law_310 rfl (lv_at hl 2 rfl) ?_
  refine lv_aload_n hx hb dL_law_311 rfl (lv_at hl 0 rfl) ?_
  refine lv_iload_n hx hb dL_law_312 rfl (lv_at hl 3 rfl) ?_
  refine lv_iconst (v := nI 1) hx hb dL_law_313 (by decide +kernel) ?_
  refine nv_iadd hx hb dL_law_314 ?_
  refine nv_sld hx hb hX0 hbl hbA hS (k := i + 1) (by omega) (by omega) dL_law_315 ?_
  refine lv_aload_n hx hb dL_law_316 rfl (lv_at hl 0 rfl) ?_
  refine lv_iload_n hx hb dL_law_317 rfl (lv_at hl 3 rfl) ?_
  refine lv_iconst (v := nI 2) hx hb dL_law_318 (by decide +kernel) ?_
  refine nv_iadd hx hb dL_law_319 ?_
  refine nv_sld hx hb hX0 hbl hbA hS (k := i + 2) (by omega) (by omega) dL_law_320 ?_
  refine wri_f S (c_X1_transformAt l D (xs (i + 1)) (xs (i + 2)) hvd hVm hI hrd hQm) (cwV 2 hts gL_law_X1_transformAt rfl rfl rfl (by decide +kernel) ⟨Nat.le_of_ble_eq_true rfl, Nat.le_of_ble_eq_true rfl⟩) rfl hKm (ci := 1) rfl rfl hl.1 (rest := [.int r1]) rfl (Nat.le_of_ble_eq_true rfl) dL_law_321 ⟨Nat.le_of_ble_eq_true rfl, Nat.le_of_ble_eq_true rfl⟩ hPm hDm hPx hX.symm hS hA (fun r2 u2 H locs er2 hPm hDm hPx hX hS => ?_)
  have hX := hX.symm
  have e12 : r1 = r2 := by rw [er1, er2]
  refine lv_icmp_eq (tgt := 457) hx hb dL_law_324 (by decide) (fun _ => ?_) (fun q => absurd (e12) q)
  exact K A0 b0 rd fA fB fW fP pv pp gA gB rk gR gP gS hLI ls _ _ hl hPx hDx hPm hDm hX hS
set_option maxHeartbeats 4000000 in
set_option maxRecDepth 100000 in
theorem law_det {p : Program} {l : Launch} {e : Env} {s : State} {m : MethodId} {below : List Frame} {meth : Method} {c : Code} {D : va_G} {b L : Nat} {xs : Nat → Int32} {q1 a1 a2 a3 a4 : Nat} {cA : ClassId} {q2 b1 b2 b3 b4 b5 : Nat} {cJ cI : ClassId} {p9 m9 n9 : Int32} {P mR nC vd : Nat} {i : Nat} (C : LC p l e s m below meth c D b L xs q1 a1 a2 a3 a4 cA q2 b1 b2 b3 b4 b5 cJ cI p9 m9 n9 P mR nC vd i) (hi4 : i + 4 ≤ L) (K : LW p l e s m below meth c D b L xs q1 a1 a2 a3 a4 cA q2 b1 b2 b3 b4 b5 cJ cI p9 m9 n9 P mR nC vd i 457) : LW p l e s m below meth c D b L xs q1 a1 a2 a3 a4 cA q2 b1 b2 b3 b4 b5 cJ cI p9 m9 n9 P mR nC vd i 329 := by
  obtain ⟨C0, hL, hF, hK⟩ := C
  obtain ⟨hx, hb, hr, hml, hown, hts0, hX0, hbl, hlocks, hgv⟩ := id C0
  have hts : ∀ w ∈ wsL_law, w.before #[Value.ref b] s = true := fun w h => hts0 w (wsL_law_in w h)
  have S : CallFix p m c code 4 s #[Value.ref b] wsL_law RL := ⟨hx, hb, hml, hown, hts⟩
  have hA : ∀ q : Nat, s.heap.size ≤ q → (fun q : Nat => s.heap.size ≤ q) q := fun _ h => h
  have hbA : ¬ (fun q : Nat => s.heap.size ≤ q) b := Nat.not_le.mpr hbl
  obtain ⟨hm, hn, hV, hpr, hvd, hVm, hI, hmv, hvm⟩ := hF
  have hKx := hK.sub (tys' := [(cA, .int)]) [0] rfl
  have hKm := hK.sub (tys' := [(cJ, .long), (cI, .int)]) [1, 2] rfl
  intro A0 b0 rd fA fB fW fP pv pp gA gB rk gR gP gS hLI ls H locs hl hPx hDx hPm hDm hX hS
  obtain ⟨hAb, hbb, hA0, hb1, hA1, hb2, hrd, hpv9, hQ⟩ := id hLI
  have hQx := fun h => (⟨(hQ h).1, (hQ h).2.1⟩ : 0 < mR ∧ PbQ P mR nC fW fP pv pp (redN P mR (q00 nC A0) nC).1 (rowOf (redN P mR (q00 nC A0) nC).2.2.2 (redN P mR (q00 nC A0) nC).2.1))
  have hQm := fun h => (⟨hmv (hQ h).1, (hQ h).2.2.1⟩ : vd ≠ 0 ∧ MdQ P mR nC rk gR gP (redN P mR (q00 nC A0) nC).1 (redN P mR (q00 nC A0) nC).2.2.2)
  have hpvq := fun h => (hQ h).2.2.2.1
  have hrkq := fun h => (hQ h).2.2.2.2.2
  have hAbm := fun h => hAb (hvm h)
  have hbbm := fun h => hbb (hvm h)
  refine lv_aload_n hx hb dL_law_329 rfl (lv_at hl 1 rfl) ?_
  refine rdv_2 S (c_X0_det l D hm hn hV hrd hQx) (cwV 0 hts gL_law_X0_det rfl rfl rfl (by decide +kernel) ⟨Nat.le_of_ble_eq_true rfl, Nat.le_of_ble_eq_true rfl⟩) rfl hKx hPx (ci := 0) rfl rfl hl.1 (rest := []) rfl (Nat.le_of_ble_eq_true rfl) dL_law_330 ⟨Nat.le_of_ble_eq_true rfl, Nat.le_of_ble_eq_true rfl⟩ hPm hS hA (fun r1 H locs er1 hPx hPm hS => ?_)
  refine lv_aload_n hx hb dL_law_333 rfl (lv_at hl 2 rfl) ?_
  refine wri_f S (c_X1_det l D (A0 := A0) hvd hVm hI hrd hQm hAbm hA1) (cwV 0 hts gL_law_X1_det rfl rfl rfl (by decide +kernel) ⟨Nat.le_of_ble_eq_true rfl, Nat.le_of_ble_eq_true rfl⟩) rfl hKm (ci := 1) rfl rfl hl.1 (rest := [.int r1]) rfl (Nat.le_of_ble_eq_true rfl) dL_law_334 ⟨Nat.le_of_ble_eq_true rfl, Nat.le_of_ble_eq_true rfl⟩ hPm hDm hPx hX.symm hS hA (fun r2 u2 H locs er2 hPm hDm hPx hX hS => ?_)
  have hX := hX.symm
  have e12 : r1 = r2 := by
    rw [er1, er2]
    exact det_both hn hpr hAb (fun h => ⟨(hQ h).1, (hQ h).2.2.2.1, (hQ h).2.2.2.2.1⟩)
  refine lv_icmp_eq (tgt := 457) hx hb dL_law_337 (by decide) (fun _ => ?_) (fun q => absurd (e12) q)
  exact K A0 b0 rd fA fB fW fP pv pp gA gB rk gR gP u2 hLI ls _ _ hl hPx hDx hPm hDm hX hS
set_option maxHeartbeats 4000000 in
set_option maxRecDepth 100000 in
theorem law_inverseAt {p : Program} {l : Launch} {e : Env} {s : State} {m : MethodId} {below : List Frame} {meth : Method} {c : Code} {D : va_G} {b L : Nat} {xs : Nat → Int32} {q1 a1 a2 a3 a4 : Nat} {cA : ClassId} {q2 b1 b2 b3 b4 b5 : Nat} {cJ cI : ClassId} {p9 m9 n9 : Int32} {P mR nC vd : Nat} {i : Nat} (C : LC p l e s m below meth c D b L xs q1 a1 a2 a3 a4 cA q2 b1 b2 b3 b4 b5 cJ cI p9 m9 n9 P mR nC vd i) (hi4 : i + 4 ≤ L) (K : LW p l e s m below meth c D b L xs q1 a1 a2 a3 a4 cA q2 b1 b2 b3 b4 b5 cJ cI p9 m9 n9 P mR nC vd i 457) : LW p l e s m below meth c D b L xs q1 a1 a2 a3 a4 cA q2 b1 b2 b3 b4 b5 cJ cI p9 m9 n9 P mR nC vd i 342 := by
  obtain ⟨C0, hL, hF, hK⟩ := C
  obtain ⟨hx, hb, hr, hml, hown, hts0, hX0, hbl, hlocks, hgv⟩ := id C0
  have hts : ∀ w ∈ wsL_law, w.before #[Value.ref b] s = true := fun w h => hts0 w (wsL_law_in w h)
  have S : CallFix p m c code 4 s #[Value.ref b] wsL_law RL := ⟨hx, hb, hml, hown, hts⟩
  have hA : ∀ q : Nat, s.heap.size ≤ q → (fun q : Nat => s.heap.size ≤ q) q := fun _ h => h
  have hbA : ¬ (fun q : Nat => s.heap.size ≤ q) b := Nat.not_le.mpr hbl
  obtain ⟨hm, hn, hV, hpr, hvd, hVm, hI, hmv, hvm⟩ := hF
  have hKx := hK.sub (tys' := [(cA, .int)]) [0] rfl
  have hKm := hK.sub (tys' := [(cJ, .long), (cI, .int)]) [1, 2] rfl
  intro A0 b0 rd fA fB fW fP pv pp gA gB rk gR gP gS hLI ls H locs hl hPx hDx hPm hDm hX hS
  obtain ⟨hAb, hbb, hA0, hb1, hA1, hb2, hrd, hpv9, hQ⟩ := id hLI
  have hQx := fun h => (⟨(hQ h).1, (hQ h).2.1⟩ : 0 < mR ∧ PbQ P mR nC fW fP pv pp (redN P mR (q00 nC A0) nC).1 (rowOf (redN P mR (q00 nC A0) nC).2.2.2 (redN P mR (q00 nC A0) nC).2.1))
  have hQm := fun h => (⟨hmv (hQ h).1, (hQ h).2.2.1⟩ : vd ≠ 0 ∧ MdQ P mR nC rk gR gP (redN P mR (q00 nC A0) nC).1 (redN P mR (q00 nC A0) nC).2.2.2)
  have hpvq := fun h => (hQ h).2.2.2.1
  have hrkq := fun h => (hQ h).2.2.2.2.2
  have hAbm := fun h => hAb (hvm h)
  have hbbm := fun h => hbb (hvm h)
  refine lv_aload_n hx hb dL_law_342 rfl (lv_at hl 1 rfl) ?_
  refine lv_aload_n hx hb dL_law_343 rfl (lv_at hl 0 rfl) ?_
  refine lv_iload_n hx hb dL_law_344 rfl (lv_at hl 3 rfl) ?_
  refine lv_iconst (v := nI 1) hx hb dL_law_345 (by decide +kernel) ?_
  refine nv_iadd hx hb dL_law_346 ?_
  refine nv_sld hx hb hX0 hbl hbA hS (k := i + 1) (by omega) (by omega) dL_law_347 ?_
  refine lv_aload_n hx hb dL_law_348 rfl (lv_at hl 0 rfl) ?_
  refine lv_iload_n hx hb dL_law_349 rfl (lv_at hl 3 rfl) ?_
  refine lv_iconst (v := nI 2) hx hb dL_law_350 (by decide +kernel) ?_
  refine nv_iadd hx hb dL_law_351 ?_
  refine nv_sld hx hb hX0 hbl hbA hS (k := i + 2) (by omega) (by omega) dL_law_352 ?_
  refine rdv_2 S (c_X0_inverseAt l D (xs (i + 1)) (xs (i + 2)) hm hn hV hrd hQx hpv9) (cwV 2 hts gL_law_X0_inverseAt rfl rfl rfl (by decide +kernel) ⟨Nat.le_of_ble_eq_true rfl, Nat.le_of_ble_eq_true rfl⟩) rfl hKx hPx (ci := 0) rfl rfl hl.1 (rest := []) rfl (Nat.le_of_ble_eq_true rfl) dL_law_353 ⟨Nat.le_of_ble_eq_true rfl, Nat.le_of_ble_eq_true rfl⟩ hPm hS hA (fun r1 H locs er1 hPx hPm hS => ?_)
  refine lv_aload_n hx hb dL_law_356 rfl (lv_at hl 2 rfl) ?_
  refine lv_aload_n hx hb dL_law_357 rfl (lv_at hl 0 rfl) ?_
  refine lv_iload_n hx hb dL_law_358 rfl (lv_at hl 3 rfl) ?_
  refine lv_iconst (v := nI 1) hx hb dL_law_359 (by decide +kernel) ?_
  refine nv_iadd hx hb dL_law_360 ?_
  refine nv_sld hx hb hX0 hbl hbA hS (k := i + 1) (by omega) (by omega) dL_law_361 ?_
  refine lv_aload_n hx hb dL_law_362 rfl (lv_at hl 0 rfl) ?_
  refine lv_iload_n hx hb dL_law_363 rfl (lv_at hl 3 rfl) ?_
  refine lv_iconst (v := nI 2) hx hb dL_law_364 (by decide +kernel) ?_
  refine nv_iadd hx hb dL_law_365 ?_
  refine nv_sld hx hb hX0 hbl hbA hS (k := i + 2) (by omega) (by omega) dL_law_366 ?_
  refine wri_f S (c_X1_inverseAt l D (xs (i + 1)) (xs (i + 2)) hvd hVm hI hrd hQm) (cwV 2 hts gL_law_X1_inverseAt rfl rfl rfl (by decide +kernel) ⟨Nat.le_of_ble_eq_true rfl, Nat.le_of_ble_eq_true rfl⟩) rfl hKm (ci := 1) rfl rfl hl.1 (rest := [.int r1]) rfl (Nat.le_of_ble_eq_true rfl) dL_law_367 ⟨Nat.le_of_ble_eq_true rfl, Nat.le_of_ble_eq_true rfl⟩ hPm hDm hPx hX.symm hS hA (fun r2 u2 H locs er2 hPm hDm hPx hX hS => ?_)
  have hX := hX.symm
  have e12 : r1 = r2 := by
    rw [er1, er2]
    by_cases h0 : rd = 0
    · simp [sInv, h0]
    · rw [hpvq h0, hrkq h0]
  refine lv_icmp_eq (tgt := 457) hx hb dL_law_370 (by decide) (fun _ => ?_) (fun q => absurd (e12) q)
  exact K A0 b0 rd fA fB fW fP pv pp gA gB rk gR gP gS hLI ls _ _ hl hPx hDx hPm hDm hX hS
set_option maxHeartbeats 4000000 in
set_option maxRecDepth 100000 in
theorem law_solvable {p : Program} {l : Launch} {e : Env} {s : State} {m : MethodId} {below : List Frame} {meth : Method} {c : Code} {D : va_G} {b L : Nat} {xs : Nat → Int32} {q1 a1 a2 a3 a4 : Nat} {cA : ClassId} {q2 b1 b2 b3 b4 b5 : Nat} {cJ cI : ClassId} {p9 m9 n9 : Int32} {P mR nC vd : Nat} {i : Nat} (C : LC p l e s m below meth c D b L xs q1 a1 a2 a3 a4 cA q2 b1 b2 b3 b4 b5 cJ cI p9 m9 n9 P mR nC vd i) (hi4 : i + 4 ≤ L) (K : LW p l e s m below meth c D b L xs q1 a1 a2 a3 a4 cA q2 b1 b2 b3 b4 b5 cJ cI p9 m9 n9 P mR nC vd i 457) : LW p l e s m below meth c D b L xs q1 a1 a2 a3 a4 cA q2 b1 b2 b3 b4 b5 cJ cI p9 m9 n9 P mR nC vd i 375 := by
  obtain ⟨C0, hL, hF, hK⟩ := C
  obtain ⟨hx, hb, hr, hml, hown, hts0, hX0, hbl, hlocks, hgv⟩ := id C0
  have hts : ∀ w ∈ wsL_law, w.before #[Value.ref b] s = true := fun w h => hts0 w (wsL_law_in w h)
  have S : CallFix p m c code 4 s #[Value.ref b] wsL_law RL := ⟨hx, hb, hml, hown, hts⟩
  have hA : ∀ q : Nat, s.heap.size ≤ q → (fun q : Nat => s.heap.size ≤ q) q := fun _ h => h
  have hbA : ¬ (fun q : Nat => s.heap.size ≤ q) b := Nat.not_le.mpr hbl
  obtain ⟨hm, hn, hV, hpr, hvd, hVm, hI, hmv, hvm⟩ := hF
  have hKx := hK.sub (tys' := [(cA, .int)]) [0] rfl
  have hKm := hK.sub (tys' := [(cJ, .long), (cI, .int)]) [1, 2] rfl
  intro A0 b0 rd fA fB fW fP pv pp gA gB rk gR gP gS hLI ls H locs hl hPx hDx hPm hDm hX hS
  obtain ⟨hAb, hbb, hA0, hb1, hA1, hb2, hrd, hpv9, hQ⟩ := id hLI
  have hQx := fun h => (⟨(hQ h).1, (hQ h).2.1⟩ : 0 < mR ∧ PbQ P mR nC fW fP pv pp (redN P mR (q00 nC A0) nC).1 (rowOf (redN P mR (q00 nC A0) nC).2.2.2 (redN P mR (q00 nC A0) nC).2.1))
  have hQm := fun h => (⟨hmv (hQ h).1, (hQ h).2.2.1⟩ : vd ≠ 0 ∧ MdQ P mR nC rk gR gP (redN P mR (q00 nC A0) nC).1 (redN P mR (q00 nC A0) nC).2.2.2)
  have hpvq := fun h => (hQ h).2.2.2.1
  have hrkq := fun h => (hQ h).2.2.2.2.2
  have hAbm := fun h => hAb (hvm h)
  have hbbm := fun h => hbb (hvm h)
  refine lv_aload_n hx hb dL_law_375 rfl (lv_at hl 1 rfl) ?_
  refine rdv_2 S (c_X0_solvable l D (b := b0) hm hn hV hrd hQx hbb hb1) (cwV 0 hts gL_law_X0_solvable rfl rfl rfl (by decide +kernel) ⟨Nat.le_of_ble_eq_true rfl, Nat.le_of_ble_eq_true rfl⟩) rfl hKx hPx (ci := 0) rfl rfl hl.1 (rest := []) rfl (Nat.le_of_ble_eq_true rfl) dL_law_376 ⟨Nat.le_of_ble_eq_true rfl, Nat.le_of_ble_eq_true rfl⟩ hPm hS hA (fun r1 H locs er1 hPx hPm hS => ?_)
  refine lv_aload_n hx hb dL_law_379 rfl (lv_at hl 2 rfl) ?_
  refine wri_f S (c_X1_solvable l D (b := b0) hvd hVm hI hrd hQm hbbm hb2) (cwV 0 hts gL_law_X1_solvable rfl rfl rfl (by decide +kernel) ⟨Nat.le_of_ble_eq_true rfl, Nat.le_of_ble_eq_true rfl⟩) rfl hKm (ci := 1) rfl rfl hl.1 (rest := [.int r1]) rfl (Nat.le_of_ble_eq_true rfl) dL_law_380 ⟨Nat.le_of_ble_eq_true rfl, Nat.le_of_ble_eq_true rfl⟩ hPm hDm hPx hX.symm hS hA (fun r2 u2 H locs er2 hPm hDm hPx hX hS => ?_)
  have hX := hX.symm
  have e12 : r1 = r2 := by
    rw [er1, er2]
    by_cases h0 : rd = 0
    · simp [sSlv, h0]
    · rw [hpvq h0, hrkq h0]
  refine lv_icmp_eq (tgt := 457) hx hb dL_law_383 (by decide) (fun _ => ?_) (fun q => absurd (e12) q)
  exact K A0 b0 rd fA fB fW fP pv pp gA gB rk gR gP gS hLI ls _ _ hl hPx hDx hPm hDm hX hS
set_option maxHeartbeats 4000000 in
set_option maxRecDepth 100000 in
theorem law_solution {p : Program} {l : Launch} {e : Env} {s : State} {m : MethodId} {below : List Frame} {meth : Method} {c : Code} {D : va_G} {b L : Nat} {xs : Nat → Int32} {q1 a1 a2 a3 a4 : Nat} {cA : ClassId} {q2 b1 b2 b3 b4 b5 : Nat} {cJ cI : ClassId} {p9 m9 n9 : Int32} {P mR nC vd : Nat} {i : Nat} (C : LC p l e s m below meth c D b L xs q1 a1 a2 a3 a4 cA q2 b1 b2 b3 b4 b5 cJ cI p9 m9 n9 P mR nC vd i) (hi4 : i + 4 ≤ L) (K : LW p l e s m below meth c D b L xs q1 a1 a2 a3 a4 cA q2 b1 b2 b3 b4 b5 cJ cI p9 m9 n9 P mR nC vd i 457) : LW p l e s m below meth c D b L xs q1 a1 a2 a3 a4 cA q2 b1 b2 b3 b4 b5 cJ cI p9 m9 n9 P mR nC vd i 388 := by
  obtain ⟨C0, hL, hF, hK⟩ := C
  obtain ⟨hx, hb, hr, hml, hown, hts0, hX0, hbl, hlocks, hgv⟩ := id C0
  have hts : ∀ w ∈ wsL_law, w.before #[Value.ref b] s = true := fun w h => hts0 w (wsL_law_in w h)
  have S : CallFix p m c code 4 s #[Value.ref b] wsL_law RL := ⟨hx, hb, hml, hown, hts⟩
  have hA : ∀ q : Nat, s.heap.size ≤ q → (fun q : Nat => s.heap.size ≤ q) q := fun _ h => h
  have hbA : ¬ (fun q : Nat => s.heap.size ≤ q) b := Nat.not_le.mpr hbl
  obtain ⟨hm, hn, hV, hpr, hvd, hVm, hI, hmv, hvm⟩ := hF
  have hKx := hK.sub (tys' := [(cA, .int)]) [0] rfl
  have hKm := hK.sub (tys' := [(cJ, .long), (cI, .int)]) [1, 2] rfl
  intro A0 b0 rd fA fB fW fP pv pp gA gB rk gR gP gS hLI ls H locs hl hPx hDx hPm hDm hX hS
  obtain ⟨hAb, hbb, hA0, hb1, hA1, hb2, hrd, hpv9, hQ⟩ := id hLI
  have hQx := fun h => (⟨(hQ h).1, (hQ h).2.1⟩ : 0 < mR ∧ PbQ P mR nC fW fP pv pp (redN P mR (q00 nC A0) nC).1 (rowOf (redN P mR (q00 nC A0) nC).2.2.2 (redN P mR (q00 nC A0) nC).2.1))
  have hQm := fun h => (⟨hmv (hQ h).1, (hQ h).2.2.1⟩ : vd ≠ 0 ∧ MdQ P mR nC rk gR gP (redN P mR (q00 nC A0) nC).1 (redN P mR (q00 nC A0) nC).2.2.2)
  have hpvq := fun h => (hQ h).2.2.2.1
  have hrkq := fun h => (hQ h).2.2.2.2.2
  have hAbm := fun h => hAb (hvm h)
  have hbbm := fun h => hbb (hvm h)
  refine lv_aload_n hx hb dL_law_388 rfl (lv_at hl 1 rfl) ?_
  refine lv_aload_n hx hb dL_law_389 rfl (lv_at hl 0 rfl) ?_
  refine lv_iload_n hx hb dL_law_390 rfl (lv_at hl 3 rfl) ?_
  refine lv_iconst (v := nI 1) hx hb dL_law_391 (by decide +kernel) ?_
  refine nv_iadd hx hb dL_law_392 ?_
  refine nv_sld hx hb hX0 hbl hbA hS (k := i + 1) (by omega) (by omega) dL_law_393 ?_
  refine rdv_2 S (c_X0_solution l D (b := b0) (xs (i + 1)) hm hn hV hrd hQx hbb hb1) (cwV 1 hts gL_law_X0_solution rfl rfl rfl (by decide +kernel) ⟨Nat.le_of_ble_eq_true rfl, Nat.le_of_ble_eq_true rfl⟩) rfl hKx hPx (ci := 0) rfl rfl hl.1 (rest := []) rfl (Nat.le_of_ble_eq_true rfl) dL_law_394 ⟨Nat.le_of_ble_eq_true rfl, Nat.le_of_ble_eq_true rfl⟩ hPm hS hA (fun r1 H locs er1 hPx hPm hS => ?_)
  refine lv_aload_n hx hb dL_law_397 rfl (lv_at hl 2 rfl) ?_
  refine lv_aload_n hx hb dL_law_398 rfl (lv_at hl 0 rfl) ?_
  refine lv_iload_n hx hb dL_law_399 rfl (lv_at hl 3 rfl) ?_
  refine lv_iconst (v := nI 1) hx hb dL_law_400 (by decide +kernel) ?_
  refine nv_iadd hx hb dL_law_401 ?_
  refine nv_sld hx hb hX0 hbl hbA hS (k := i + 1) (by omega) (by omega) dL_law_402 ?_
  refine wri_f S (c_X1_solution l D (b := b0) (xs (i + 1)) hvd hVm hI hrd hQm hbbm hb2) (cwV 1 hts gL_law_X1_solution rfl rfl rfl (by decide +kernel) ⟨Nat.le_of_ble_eq_true rfl, Nat.le_of_ble_eq_true rfl⟩) rfl hKm (ci := 1) rfl rfl hl.1 (rest := [.int r1]) rfl (Nat.le_of_ble_eq_true rfl) dL_law_403 ⟨Nat.le_of_ble_eq_true rfl, Nat.le_of_ble_eq_true rfl⟩ hPm hDm hPx hX.symm hS hA (fun r2 u2 H locs er2 hPm hDm hPx hX hS => ?_)
  have hX := hX.symm
  have e12 : r1 = r2 := by
    rw [er1, er2]
    by_cases h0 : rd = 0
    · simp [sSol, h0]
    · rw [hpvq h0, hrkq h0]
  refine lv_icmp_eq (tgt := 457) hx hb dL_law_406 (by decide) (fun _ => ?_) (fun q => absurd (e12) q)
  exact K A0 b0 rd fA fB fW fP pv pp gA gB rk gR gP gS hLI ls _ _ hl hPx hDx hPm hDm hX hS
set_option maxHeartbeats 4000000 in
set_option maxRecDepth 100000 in
theorem law_kernelDim {p : Program} {l : Launch} {e : Env} {s : State} {m : MethodId} {below : List Frame} {meth : Method} {c : Code} {D : va_G} {b L : Nat} {xs : Nat → Int32} {q1 a1 a2 a3 a4 : Nat} {cA : ClassId} {q2 b1 b2 b3 b4 b5 : Nat} {cJ cI : ClassId} {p9 m9 n9 : Int32} {P mR nC vd : Nat} {i : Nat} (C : LC p l e s m below meth c D b L xs q1 a1 a2 a3 a4 cA q2 b1 b2 b3 b4 b5 cJ cI p9 m9 n9 P mR nC vd i) (hi4 : i + 4 ≤ L) (K : LW p l e s m below meth c D b L xs q1 a1 a2 a3 a4 cA q2 b1 b2 b3 b4 b5 cJ cI p9 m9 n9 P mR nC vd i 457) : LW p l e s m below meth c D b L xs q1 a1 a2 a3 a4 cA q2 b1 b2 b3 b4 b5 cJ cI p9 m9 n9 P mR nC vd i 411 := by
  obtain ⟨C0, hL, hF, hK⟩ := C
  obtain ⟨hx, hb, hr, hml, hown, hts0, hX0, hbl, hlocks, hgv⟩ := id C0
  have hts : ∀ w ∈ wsL_law, w.before #[Value.ref b] s = true := fun w h => hts0 w (wsL_law_in w h)
  have S : CallFix p m c code 4 s #[Value.ref b] wsL_law RL := ⟨hx, hb, hml, hown, hts⟩
  have hA : ∀ q : Nat, s.heap.size ≤ q → (fun q : Nat => s.heap.size ≤ q) q := fun _ h => h
  have hbA : ¬ (fun q : Nat => s.heap.size ≤ q) b := Nat.not_le.mpr hbl
  obtain ⟨hm, hn, hV, hpr, hvd, hVm, hI, hmv, hvm⟩ := hF
  have hKx := hK.sub (tys' := [(cA, .int)]) [0] rfl
  have hKm := hK.sub (tys' := [(cJ, .long), (cI, .int)]) [1, 2] rfl
  intro A0 b0 rd fA fB fW fP pv pp gA gB rk gR gP gS hLI ls H locs hl hPx hDx hPm hDm hX hS
  obtain ⟨hAb, hbb, hA0, hb1, hA1, hb2, hrd, hpv9, hQ⟩ := id hLI
  have hQx := fun h => (⟨(hQ h).1, (hQ h).2.1⟩ : 0 < mR ∧ PbQ P mR nC fW fP pv pp (redN P mR (q00 nC A0) nC).1 (rowOf (redN P mR (q00 nC A0) nC).2.2.2 (redN P mR (q00 nC A0) nC).2.1))
  have hQm := fun h => (⟨hmv (hQ h).1, (hQ h).2.2.1⟩ : vd ≠ 0 ∧ MdQ P mR nC rk gR gP (redN P mR (q00 nC A0) nC).1 (redN P mR (q00 nC A0) nC).2.2.2)
  have hpvq := fun h => (hQ h).2.2.2.1
  have hrkq := fun h => (hQ h).2.2.2.2.2
  have hAbm := fun h => hAb (hvm h)
  have hbbm := fun h => hbb (hvm h)
  refine lv_aload_n hx hb dL_law_411 rfl (lv_at hl 1 rfl) ?_
  refine rdv_2 S (c_X0_kernelDim l D hm hn hV hrd hQx) (cwV 0 hts gL_law_X0_kernelDim rfl rfl rfl (by decide +kernel) ⟨Nat.le_of_ble_eq_true rfl, Nat.le_of_ble_eq_true rfl⟩) rfl hKx hPx (ci := 0) rfl rfl hl.1 (rest := []) rfl (Nat.le_of_ble_eq_true rfl) dL_law_412 ⟨Nat.le_of_ble_eq_true rfl, Nat.le_of_ble_eq_true rfl⟩ hPm hS hA (fun r1 H locs er1 hPx hPm hS => ?_)
  refine lv_aload_n hx hb dL_law_415 rfl (lv_at hl 2 rfl) ?_
  refine wri_f S (c_X1_kernelDim l D hvd hVm hI hrd hQm) (cwV 0 hts gL_law_X1_kernelDim rfl rfl rfl (by decide +kernel) ⟨Nat.le_of_ble_eq_true rfl, Nat.le_of_ble_eq_true rfl⟩) rfl hKm (ci := 1) rfl rfl hl.1 (rest := [.int r1]) rfl (Nat.le_of_ble_eq_true rfl) dL_law_416 ⟨Nat.le_of_ble_eq_true rfl, Nat.le_of_ble_eq_true rfl⟩ hPm hDm hPx hX.symm hS hA (fun r2 u2 H locs er2 hPm hDm hPx hX hS => ?_)
  have hX := hX.symm
  have e12 : r1 = r2 := by
    rw [er1, er2]
    by_cases h0 : rd = 0
    · simp [sKd, h0]
    · rw [hpvq h0, hrkq h0]
  refine lv_icmp_eq (tgt := 457) hx hb dL_law_419 (by decide) (fun _ => ?_) (fun q => absurd (e12) q)
  exact K A0 b0 rd fA fB fW fP pv pp gA gB rk gR gP gS hLI ls _ _ hl hPx hDx hPm hDm hX hS
set_option maxHeartbeats 4000000 in
set_option maxRecDepth 100000 in
theorem law_kernelAt {p : Program} {l : Launch} {e : Env} {s : State} {m : MethodId} {below : List Frame} {meth : Method} {c : Code} {D : va_G} {b L : Nat} {xs : Nat → Int32} {q1 a1 a2 a3 a4 : Nat} {cA : ClassId} {q2 b1 b2 b3 b4 b5 : Nat} {cJ cI : ClassId} {p9 m9 n9 : Int32} {P mR nC vd : Nat} {i : Nat} (C : LC p l e s m below meth c D b L xs q1 a1 a2 a3 a4 cA q2 b1 b2 b3 b4 b5 cJ cI p9 m9 n9 P mR nC vd i) (hi4 : i + 4 ≤ L) (K : LW p l e s m below meth c D b L xs q1 a1 a2 a3 a4 cA q2 b1 b2 b3 b4 b5 cJ cI p9 m9 n9 P mR nC vd i 457) : LW p l e s m below meth c D b L xs q1 a1 a2 a3 a4 cA q2 b1 b2 b3 b4 b5 cJ cI p9 m9 n9 P mR nC vd i 424 := by
  obtain ⟨C0, hL, hF, hK⟩ := C
  obtain ⟨hx, hb, hr, hml, hown, hts0, hX0, hbl, hlocks, hgv⟩ := id C0
  have hts : ∀ w ∈ wsL_law, w.before #[Value.ref b] s = true := fun w h => hts0 w (wsL_law_in w h)
  have S : CallFix p m c code 4 s #[Value.ref b] wsL_law RL := ⟨hx, hb, hml, hown, hts⟩
  have hA : ∀ q : Nat, s.heap.size ≤ q → (fun q : Nat => s.heap.size ≤ q) q := fun _ h => h
  have hbA : ¬ (fun q : Nat => s.heap.size ≤ q) b := Nat.not_le.mpr hbl
  obtain ⟨hm, hn, hV, hpr, hvd, hVm, hI, hmv, hvm⟩ := hF
  have hKx := hK.sub (tys' := [(cA, .int)]) [0] rfl
  have hKm := hK.sub (tys' := [(cJ, .long), (cI, .int)]) [1, 2] rfl
  intro A0 b0 rd fA fB fW fP pv pp gA gB rk gR gP gS hLI ls H locs hl hPx hDx hPm hDm hX hS
  obtain ⟨hAb, hbb, hA0, hb1, hA1, hb2, hrd, hpv9, hQ⟩ := id hLI
  have hQx := fun h => (⟨(hQ h).1, (hQ h).2.1⟩ : 0 < mR ∧ PbQ P mR nC fW fP pv pp (redN P mR (q00 nC A0) nC).1 (rowOf (redN P mR (q00 nC A0) nC).2.2.2 (redN P mR (q00 nC A0) nC).2.1))
  have hQm := fun h => (⟨hmv (hQ h).1, (hQ h).2.2.1⟩ : vd ≠ 0 ∧ MdQ P mR nC rk gR gP (redN P mR (q00 nC A0) nC).1 (redN P mR (q00 nC A0) nC).2.2.2)
  have hpvq := fun h => (hQ h).2.2.2.1
  have hrkq := fun h => (hQ h).2.2.2.2.2
  have hAbm := fun h => hAb (hvm h)
  have hbbm := fun h => hbb (hvm h)
  refine lv_aload_n hx hb dL_law_424 rfl (lv_at hl 1 rfl) ?_
  refine lv_aload_n hx hb dL_law_425 rfl (lv_at hl 0 rfl) ?_
  refine lv_iload_n hx hb dL_law_426 rfl (lv_at hl 3 rfl) ?_
  refine lv_iconst (v := nI 1) hx hb dL_law_427 (by decide +kernel) ?_
  refine nv_iadd hx hb dL_law_428 ?_
  refine nv_sld hx hb hX0 hbl hbA hS (k := i + 1) (by omega) (by omega) dL_law_429 ?_
  refine lv_aload_n hx hb dL_law_430 rfl (lv_at hl 0 rfl) ?_
  refine lv_iload_n hx hb dL_law_431 rfl (lv_at hl 3 rfl) ?_
  refine lv_iconst (v := nI 2) hx hb dL_law_432 (by decide +kernel) ?_
  refine nv_iadd hx hb dL_law_433 ?_
  refine nv_sld hx hb hX0 hbl hbA hS (k := i + 2) (by omega) (by omega) dL_law_434 ?_
  refine rdv_2 S (c_X0_kernelAt l D (xs (i + 1)) (xs (i + 2)) hm hn hV hrd hQx) (cwV 2 hts gL_law_X0_kernelAt rfl rfl rfl (by decide +kernel) ⟨Nat.le_of_ble_eq_true rfl, Nat.le_of_ble_eq_true rfl⟩) rfl hKx hPx (ci := 0) rfl rfl hl.1 (rest := []) rfl (Nat.le_of_ble_eq_true rfl) dL_law_435 ⟨Nat.le_of_ble_eq_true rfl, Nat.le_of_ble_eq_true rfl⟩ hPm hS hA (fun r1 H locs er1 hPx hPm hS => ?_)
  refine lv_aload_n hx hb dL_law_438 rfl (lv_at hl 2 rfl) ?_
  refine lv_aload_n hx hb dL_law_439 rfl (lv_at hl 0 rfl) ?_
  refine lv_iload_n hx hb dL_law_440 rfl (lv_at hl 3 rfl) ?_
  refine lv_iconst (v := nI 1) hx hb dL_law_441 (by decide +kernel) ?_
  refine nv_iadd hx hb dL_law_442 ?_
  refine nv_sld hx hb hX0 hbl hbA hS (k := i + 1) (by omega) (by omega) dL_law_443 ?_
  refine lv_aload_n hx hb dL_law_444 rfl (lv_at hl 0 rfl) ?_
  refine lv_iload_n hx hb dL_law_445 rfl (lv_at hl 3 rfl) ?_
  refine lv_iconst (v := nI 2) hx hb dL_law_446 (by decide +kernel) ?_
  refine nv_iadd hx hb dL_law_447 ?_
  refine nv_sld hx hb hX0 hbl hbA hS (k := i + 2) (by omega) (by omega) dL_law_448 ?_
  refine wri_f S (c_X1_kernelAt l D (xs (i + 1)) (xs (i + 2)) hvd hVm hI hrd hQm) (cwV 2 hts gL_law_X1_kernelAt rfl rfl rfl (by decide +kernel) ⟨Nat.le_of_ble_eq_true rfl, Nat.le_of_ble_eq_true rfl⟩) rfl hKm (ci := 1) rfl rfl hl.1 (rest := [.int r1]) rfl (Nat.le_of_ble_eq_true rfl) dL_law_449 ⟨Nat.le_of_ble_eq_true rfl, Nat.le_of_ble_eq_true rfl⟩ hPm hDm hPx hX.symm hS hA (fun r2 u2 H locs er2 hPm hDm hPx hX hS => ?_)
  have hX := hX.symm
  have e12 : r1 = r2 := by
    rw [er1, er2]
    by_cases h0 : rd = 0
    · simp [sKer, h0]
    · rw [hrkq h0]
  refine lv_icmp_eq (tgt := 457) hx hb dL_law_452 (by decide) (fun _ => ?_) (fun q => absurd (e12) q)
  exact K A0 b0 rd fA fB fW fP pv pp gA gB rk gR gP gS hLI ls _ _ hl hPx hDx hPm hDm hX hS
end
section
theorem apart_D {A : Nat → Prop} {w v : va_W} (h : va_D A (w ++ v)) : Apart w v := by
  intro i j p q h1 h2 e
  have hi := (List.getElem?_eq_some_iff.mp h1).1
  have e1 : (w ++ v)[i]? = some p := by rw [List.getElem?_append_left hi]; exact h1
  have e2 : (w ++ v)[w.length + j]? = some q := by rw [List.getElem?_append_right (Nat.le_add_right _ _), Nat.add_sub_cancel_left]; exact h2
  have := h.1 i (w.length + j) p q e1 e2 e
  omega
theorem LF_of {p m n : Int32} {P mR nC vd : Nat} (h : Dims p m n P mR nC) (hv : vd = if mR = 0 then 0 else 1) : LF p m n P mR nC vd := by
  rcases h with ⟨h1, h2, h3, h4, h5, h6, h7, h8, h9⟩ | ⟨rfl, rfl, -, -⟩
  · rw [if_neg (by omega)] at hv
    subst hv
    have h10 := h3.1
    exact ⟨h7, h9, fun _ => ⟨h1, h10, h2⟩, fun _ => h3, by omega, fun _ => ⟨h4, h5, by rw [h1]; exact nI_l h2, h10, h2, h6, h7, h8, h9⟩, fun q => by omega, fun _ => by omega, fun _ => by omega⟩
  · rw [if_pos rfl] at hv
    subst hv
    exact ⟨by omega, by omega, fun q => by omega, fun q => by omega, by omega, fun q => absurd rfl q, fun _ => ⟨rfl, rfl⟩, fun q => by omega, fun q => absurd rfl q⟩
theorem LI_0 {P mR nC : Nat} (hP : 0 < mR → 2 ≤ P) : LI P mR nC (fun _ _ => 0) (fun _ => 0) 0 (fun _ => 0) (fun _ => 0) (fun _ => 0) (fun _ => 0) 0 1 (fun _ => 0) (fun _ => 0) 0 (fun _ => 0) (fun _ => 0) :=
  ⟨fun h _ _ => by have := hP h; show 0 < P; omega, fun h _ => by have := hP h; show 0 < P; omega, fun _ _ _ _ => nI_0.symm, fun _ _ => nI_0.symm, fun _ _ _ _ => nv_lN0.symm, fun _ _ => nv_lN0.symm, by omega, by decide, fun h => absurd rfl h⟩
theorem gt_len {L i : Nat} (hL : L ≤ 2051) (hi : i ≤ 3000) (h : ¬ nI L - nI 4 < nI i) : i + 4 ≤ L := by
  rw [Int32.lt_iff_toInt_lt, pk_sub_toInt (by omega) (by omega), nI_toInt (by omega)] at h
  omega
set_option maxHeartbeats 4000000 in
set_option maxRecDepth 100000 in
theorem law_loop {p : Program} {l : Launch} {e : Env} {s : State} {m : MethodId} {below : List Frame} {meth : Method} {c : Code} {D : va_G} {b L : Nat} {xs : Nat → Int32} {q1 a1 a2 a3 a4 : Nat} {cA : ClassId} {q2 b1 b2 b3 b4 b5 : Nat} {cJ cI : ClassId} {p9 m9 n9 : Int32} {P mR nC vd : Nat} (C : ∀ i, LC p l e s m below meth c D b L xs q1 a1 a2 a3 a4 cA q2 b1 b2 b3 b4 b5 cJ cI p9 m9 n9 P mR nC vd i) : ∀ n i, i ≤ L + 4 → L + 5 ≤ i + n → LW p l e s m below meth c D b L xs q1 a1 a2 a3 a4 cA q2 b1 b2 b3 b4 b5 cJ cI p9 m9 n9 P mR nC vd i 48 := by
  intro n
  induction n with
  | zero => intro i h1 h2; exfalso; omega
  | succ n ih =>
    intro i h1 h2
    obtain ⟨C0, hL, hF, hK⟩ := C i
    obtain ⟨hx, hb, hr, hml, hown, hts0, hX0, hbl, hlocks, hgv⟩ := id C0
    have hbA : ¬ (fun q : Nat => s.heap.size ≤ q) b := Nat.not_le.mpr hbl
    intro A0 b0 rd fA fB fW fP pv pp gA gB rk gR gP gS hLI ls H locs hl hPx hDx hPm hDm hX hS
    refine lv_iload_n hx hb dL_law_48 rfl (lv_at hl 3 rfl) ?_
    refine lv_aload_n hx hb dL_law_49 rfl (lv_at hl 0 rfl) ?_
    refine nv_slen hx hb hX0 hbl hbA hS dL_law_50 ?_
    refine lv_iconst (v := nI 4) hx hb dL_law_51 (by decide +kernel) ?_
    refine lv_isub hx hb dL_law_52 ?_
    refine lv_icmp_gt (tgt := 463) hx hb dL_law_53 (by decide) (fun _ => ?_) (fun cgt => ?_)
    · refine lv_iconst (v := 1) hx hb dL_law_463 (by decide +kernel) ?_
      refine va_forget (fun q hq => hS.2.2 q hq) ?_
      refine W.widen (k := 600000) (n := 7302250) (by decide) (by decide) ?_
      exact lw_ret hx hb hr hlocks dL_law_464
    · have hi4 : i + 4 ≤ L := gt_len hL (by omega) cgt
      have K : LW p l e s m below meth c D b L xs q1 a1 a2 a3 a4 cA q2 b1 b2 b3 b4 b5 cJ cI p9 m9 n9 P mR nC vd i 457 := by
        intro A0 b0 rd fA fB fW fP pv pp gA gB rk gR gP gS hLI ls H locs hl hPx hDx hPm hDm hX hS
        refine lv_iinc (v := nI (i + 4)) (lv' := [(3, .int (nI (i + 4))), (0, .ref b), (1, .ref q1), (2, .ref q2)]) hx hb dL_law_457 hl (k := 3) rfl (nv_inc i 4) (by decide) rfl (fun ls hl => ?_)
        refine lv_goto (tgt := 48) hx hb dL_law_460 (by decide) ?_
        exact ih (i + 4) (by omega) (by omega) A0 b0 rd fA fB fW fP pv pp gA gB rk gR gP gS hLI ls _ _ (lv_sub hl [1, 2, 3, 0] rfl) hPx hDx hPm hDm hX hS
      refine lv_aload_n hx hb dL_law_56 rfl (lv_at hl 0 rfl) ?_
      refine lv_iload_n hx hb dL_law_57 rfl (lv_at hl 3 rfl) ?_
      refine nv_sld hx hb hX0 hbl hbA hS (k := i) (by omega) (by omega) dL_law_58 ?_
      refine lv_bipush (v := nI 15) hx hb dL_law_59 (by decide +kernel) ?_
      refine lv_iand hx hb dL_law_61 ?_
      obtain ⟨j, hj, ej⟩ := pk_andE (xs i) (m := nI 15) 4 (by decide +kernel)
      rw [ej]
      have hj16 : j < 16 := hj
      have hcases : j = 0 ∨ j = 1 ∨ j = 2 ∨ j = 3 ∨ j = 4 ∨ j = 5 ∨ j = 6 ∨ j = 7 ∨ j = 8 ∨ j = 9 ∨ j = 10 ∨ j = 11 ∨ j = 12 ∨ j = 13 ∨ j = 14 ∨ j = 15 := by omega
      rcases hcases with rfl | rfl | rfl | rfl | rfl | rfl | rfl | rfl | rfl | rfl | rfl | rfl | rfl | rfl | rfl | rfl
      · refine lv_tableIn (x := nI 0) (off := 66) (tgt := 128) hx hb dL_law_62 (by decide +kernel) (by decide +kernel) (by decide +kernel) (by decide) ?_
        exact law_set (C i) hi4 K A0 b0 rd fA fB fW fP pv pp gA gB rk gR gP gS hLI ls _ _ hl hPx hDx hPm hDm hX hS
      · refine lv_tableIn (x := nI 1) (off := 109) (tgt := 171) hx hb dL_law_62 (by decide +kernel) (by decide +kernel) (by decide +kernel) (by decide) ?_
        exact law_get (C i) hi4 K A0 b0 rd fA fB fW fP pv pp gA gB rk gR gP gS hLI ls _ _ hl hPx hDx hPm hDm hX hS
      · refine lv_tableIn (x := nI 2) (off := 142) (tgt := 204) hx hb dL_law_62 (by decide +kernel) (by decide +kernel) (by decide +kernel) (by decide) ?_
        exact law_setRhs (C i) hi4 K A0 b0 rd fA fB fW fP pv pp gA gB rk gR gP gS hLI ls _ _ hl hPx hDx hPm hDm hX hS
      · refine lv_tableIn (x := nI 3) (off := 175) (tgt := 237) hx hb dL_law_62 (by decide +kernel) (by decide +kernel) (by decide +kernel) (by decide) ?_
        exact law_reduce (C i) hi4 K A0 b0 rd fA fB fW fP pv pp gA gB rk gR gP gS hLI ls _ _ hl hPx hDx hPm hDm hX hS
      · refine lv_tableIn (x := nI 4) (off := 188) (tgt := 250) hx hb dL_law_62 (by decide +kernel) (by decide +kernel) (by decide +kernel) (by decide) ?_
        exact law_rank (C i) hi4 K A0 b0 rd fA fB fW fP pv pp gA gB rk gR gP gS hLI ls _ _ hl hPx hDx hPm hDm hX hS
      · refine lv_tableIn (x := nI 5) (off := 201) (tgt := 263) hx hb dL_law_62 (by decide +kernel) (by decide +kernel) (by decide +kernel) (by decide) ?_
        exact law_rrefAt (C i) hi4 K A0 b0 rd fA fB fW fP pv pp gA gB rk gR gP gS hLI ls _ _ hl hPx hDx hPm hDm hX hS
      · refine lv_tableIn (x := nI 6) (off := 234) (tgt := 296) hx hb dL_law_62 (by decide +kernel) (by decide +kernel) (by decide +kernel) (by decide) ?_
        exact law_transformAt (C i) hi4 K A0 b0 rd fA fB fW fP pv pp gA gB rk gR gP gS hLI ls _ _ hl hPx hDx hPm hDm hX hS
      · refine lv_tableIn (x := nI 7) (off := 267) (tgt := 329) hx hb dL_law_62 (by decide +kernel) (by decide +kernel) (by decide +kernel) (by decide) ?_
        exact law_det (C i) hi4 K A0 b0 rd fA fB fW fP pv pp gA gB rk gR gP gS hLI ls _ _ hl hPx hDx hPm hDm hX hS
      · refine lv_tableIn (x := nI 8) (off := 280) (tgt := 342) hx hb dL_law_62 (by decide +kernel) (by decide +kernel) (by decide +kernel) (by decide) ?_
        exact law_inverseAt (C i) hi4 K A0 b0 rd fA fB fW fP pv pp gA gB rk gR gP gS hLI ls _ _ hl hPx hDx hPm hDm hX hS
      · refine lv_tableIn (x := nI 9) (off := 313) (tgt := 375) hx hb dL_law_62 (by decide +kernel) (by decide +kernel) (by decide +kernel) (by decide) ?_
        exact law_solvable (C i) hi4 K A0 b0 rd fA fB fW fP pv pp gA gB rk gR gP gS hLI ls _ _ hl hPx hDx hPm hDm hX hS
      · refine lv_tableIn (x := nI 10) (off := 326) (tgt := 388) hx hb dL_law_62 (by decide +kernel) (by decide +kernel) (by decide +kernel) (by decide) ?_
        exact law_solution (C i) hi4 K A0 b0 rd fA fB fW fP pv pp gA gB rk gR gP gS hLI ls _ _ hl hPx hDx hPm hDm hX hS
      · refine lv_tableIn (x := nI 11) (off := 349) (tgt := 411) hx hb dL_law_62 (by decide +kernel) (by decide +kernel) (by decide +kernel) (by decide) ?_
        exact law_kernelDim (C i) hi4 K A0 b0 rd fA fB fW fP pv pp gA gB rk gR gP gS hLI ls _ _ hl hPx hDx hPm hDm hX hS
      · refine lv_tableIn (x := nI 12) (off := 362) (tgt := 424) hx hb dL_law_62 (by decide +kernel) (by decide +kernel) (by decide +kernel) (by decide) ?_
        exact law_kernelAt (C i) hi4 K A0 b0 rd fA fB fW fP pv pp gA gB rk gR gP gS hLI ls _ _ hl hPx hDx hPm hDm hX hS
      · refine lv_tableOut (x := nI 13) (tgt := 457) hx hb dL_law_62 (Or.inr (by decide +kernel)) (by decide) ?_
        exact K A0 b0 rd fA fB fW fP pv pp gA gB rk gR gP gS hLI ls _ _ hl hPx hDx hPm hDm hX hS
      · refine lv_tableOut (x := nI 14) (tgt := 457) hx hb dL_law_62 (Or.inr (by decide +kernel)) (by decide) ?_
        exact K A0 b0 rd fA fB fW fP pv pp gA gB rk gR gP gS hLI ls _ _ hl hPx hDx hPm hDm hX hS
      · refine lv_tableOut (x := nI 15) (tgt := 457) hx hb dL_law_62 (Or.inr (by decide +kernel)) (by decide) ?_
        exact K A0 b0 rd fA fB fW fP pv pp gA gB rk gR gP gS hLI ls _ _ hl hPx hDx hPm hDm hX hS
set_option maxHeartbeats 4000000 in
set_option maxRecDepth 100000 in
/-- THE LAW, from its entry -/
theorem whole_start {p : Program} {e : Env} {s : State} {m : MethodId} {below : List Frame} {meth : Method} {c : Code} (l : Launch) {b L : Nat} {xs : Nat → Int32} (hL : L ≤ 2051) (C0 : lw_At p s m meth c b L xs) : W p l e room_1 s m #[Value.ref b] below meth c s.heap [] 0 0 (lw_Z below #[Value.ref b] s) (entryFrame m ([Value.ref b] : List Value).toArray 4) := by
  obtain ⟨hx, hb, hr, hml, hown, hts0, hX0, hbl, hlocks, hgv⟩ := id C0
  have hts : ∀ w ∈ wsL_law, w.before #[Value.ref b] s = true := fun w h => hts0 w (wsL_law_in w h)
  have hown : s.vm.findClass RL = some m.cls := hown
  have S : CallFix p m c code 4 s #[Value.ref b] wsL_law RL := ⟨hx, hb, hml, hown, hts⟩
  have hA : ∀ q : Nat, s.heap.size ≤ q → (fun q : Nat => s.heap.size ≤ q) q := fun _ h => h
  have hbA : ¬ (fun q : Nat => s.heap.size ≤ q) b := Nat.not_le.mpr hbl
  obtain ⟨c0, iS0, hKn0⟩ := u_known (C := RX0) (T := TX0) (N := 11) (n := 11) hts inlX0 (hts (.instantiable RX0 11) (by decide +kernel))
  obtain ⟨c1, iS1, hKn1⟩ := u_known (C := RX1) (T := TX1) (N := 12) (n := 12) hts inlX1 (hts (.instantiable RX1 12) (by decide +kernel))
  obtain ⟨dC, dI, hKc⟩ : ∃ (dC : Nat → ClassId) (dI : Nat → Nat → Nat), ∀ (k : Nat) (q : vw_C), vwCl[k]? = some q → u_Kn s q.1 q.2.1 q.2.2 (dC k) (dI k) := by
    refine ⟨fun k => if k = 0 then c0 else c1, fun k => if k = 0 then iS0 else iS1, ?_⟩
    intro k q hq
    match k, hq with
    | 0, hq => cases hq; exact hKn0
    | 1, hq => cases hq; exact hKn1
    | k + 2, hq => simp [vwCl] at hq
  have hS : va_S (fun q : Nat => s.heap.size ≤ q) s.heap s.heap [] := va_S.rf
  have hK : va_K (dC, dI) vwCl [] s := ⟨hKc, fun k q h => by simp at h⟩
  have hP : va_P (dC, dI) vwCl [] s.heap := fun k q h => by simp at h
  have hD : va_D (fun q : Nat => s.heap.size ≤ q) [] := ⟨fun i j p q h => by simp at h, fun k q h => by simp at h⟩
  have hl := lv_entry ([.ref b]) (n := 4) (Nat.le_of_ble_eq_true rfl)
  rw [lg_entry_eq]
  generalize (lg_sl ([.ref b]) ++ List.replicate (4 - (lg_sl ([.ref b])).length) Slot.unset).toArray = ls at hl ⊢
  have hl : lv_has ls 4 [(0, .ref b)] := hl
  refine va_new (own := RL) (ci := 0) (fs := [.int 0, .int 0, .int 0, .null, .null, .null, .int 0, .null, .int 0, .int 0, .long 0]) (C := RX0) (T := TX0) (N := 11) hx hb hts inlX0 tyX0 tyX0_ok hown (hts (.classLink RL 7 RX0) (by decide +kernel)) (hts (.instantiable RX0 11) (by decide +kernel)) (hts (.initialized RX0) (by decide +kernel)) hK hP hD hS hA rfl (fun j hj => by rcases (show j = 0 ∨ j = 1 ∨ j = 2 ∨ j = 3 ∨ j = 4 ∨ j = 5 ∨ j = 6 ∨ j = 7 ∨ j = 8 ∨ j = 9 ∨ j = 10 by omega) with rfl | rfl | rfl | rfl | rfl | rfl | rfl | rfl | rfl | rfl | rfl <;> rfl) (Nat.le_of_ble_eq_true rfl) (Nat.le_of_ble_eq_true rfl) dL_law_0 (fun q1 H hP hD hS => ?_)
  have hP : va_P (dC, dI) vwCl [(q1, .inr (0, [.int 0, .int 0, .int 0, .null, .null, .null, .int 0, .null, .int 0, .int 0, .long 0]))] H := hP
  have hD : va_D (fun q : Nat => s.heap.size ≤ q) [(q1, .inr (0, [.int 0, .int 0, .int 0, .null, .null, .null, .int 0, .null, .int 0, .int 0, .long 0]))] := hD
  have hE : va_P (dC, dI) vwCl [] H := hP.sub [] rfl
  refine lv_dup hx hb dL_law_3 rfl ?_
  refine lv_aload_n hx hb dL_law_4 rfl (lv_at hl 0 rfl) ?_
  refine lv_iconst (v := nI 0) hx hb dL_law_5 (by decide +kernel) ?_
  refine cell_f S hL hX0 hbl hbA (k := 0) (by decide) ⟨(Nat.le_of_ble_eq_true rfl), (Nat.le_of_ble_eq_true rfl)⟩ hl.1 (rest := [.ref q1, .ref q1]) (Nat.le_of_ble_eq_true rfl) dL_law_6 ⟨(Nat.le_of_ble_eq_true rfl), (Nat.le_of_ble_eq_true rfl)⟩ hP hE hS hA (fun H locs hP hE hS => ?_)
  refine lv_aload_n hx hb dL_law_9 rfl (lv_at hl 0 rfl) ?_
  refine lv_iconst (v := nI 1) hx hb dL_law_10 (by decide +kernel) ?_
  refine cell_f S hL hX0 hbl hbA (k := 1) (by decide) ⟨(Nat.le_of_ble_eq_true rfl), (Nat.le_of_ble_eq_true rfl)⟩ hl.1 (rest := [.int (cv L xs 0), .ref q1, .ref q1]) (Nat.le_of_ble_eq_true rfl) dL_law_11 ⟨(Nat.le_of_ble_eq_true rfl), (Nat.le_of_ble_eq_true rfl)⟩ hP hE hS hA (fun H locs hP hE hS => ?_)
  refine lv_aload_n hx hb dL_law_14 rfl (lv_at hl 0 rfl) ?_
  refine lv_iconst (v := nI 2) hx hb dL_law_15 (by decide +kernel) ?_
  refine cell_f S hL hX0 hbl hbA (k := 2) (by decide) ⟨(Nat.le_of_ble_eq_true rfl), (Nat.le_of_ble_eq_true rfl)⟩ hl.1 (rest := [.int (cv L xs 1), .int (cv L xs 0), .ref q1, .ref q1]) (Nat.le_of_ble_eq_true rfl) dL_law_16 ⟨(Nat.le_of_ble_eq_true rfl), (Nat.le_of_ble_eq_true rfl)⟩ hP hE hS hA (fun H locs hP hE hS => ?_)
  refine ini_f (D := (dC, dI)) S (c_X0_init l (dC, dI) (h := q1) (cv L xs 0) (cv L xs 1) (cv L xs 2)) (cwI 3 hts gL_law_X0_init rfl rfl rfl (hts (.initialized RX0) (by decide +kernel)) (hts (.methodLink RL 15 yX0_init) (by decide +kernel)) (hts (.instanceMethod yX0_init) (by decide +kernel)) rfl (by decide +kernel) ⟨(Nat.le_of_ble_eq_true rfl), (Nat.le_of_ble_eq_true rfl)⟩) rfl hK hl.1 (rest := [.ref q1]) rfl (Nat.le_of_ble_eq_true rfl) dL_law_19 ⟨(Nat.le_of_ble_eq_true rfl), (Nat.le_of_ble_eq_true rfl)⟩ hP hD hE (fun i j p q _ h => by simp at h) hS hA (fun u H locs hdim hP hD hK1 _ _ hS => ?_)
  obtain ⟨a1, a2, a3, a4, cA, P, mR, nC⟩ := u
  have hdim : Dims (cv L xs 0) (cv L xs 1) (cv L xs 2) P mR nC := hdim
  have hP : va_P (dC, dI) vwCl (pbW q1 a1 a2 a3 a4 cA (cv L xs 0) mR nC (fun _ => 0) (fun _ => 0) (fun _ => 0) (fun _ => 0) 0 0 1) H := hP
  have hD : va_D (fun q : Nat => s.heap.size ≤ q) (pbW q1 a1 a2 a3 a4 cA (cv L xs 0) mR nC (fun _ => 0) (fun _ => 0) (fun _ => 0) (fun _ => 0) 0 0 1) := hD
  have hK1 : va_K (dC, dI) vwCl [(cA, .int)] s := hK1
  refine lv_astore_n (lv' := [(1, .ref q1), (0, .ref b)]) hx hb dL_law_22 rfl hl (by decide) rfl (fun ls hl => ?_)
  refine va_new (own := RL) (ci := 1) (fs := [.int 0, .long 0, .int 0, .int 0, .int 0, .null, .null, .int 0, .int 0, .null, .null, .null]) (C := RX1) (T := TX1) (N := 12) hx hb hts inlX1 tyX1 tyX1_ok hown (hts (.classLink RL 18 RX1) (by decide +kernel)) (hts (.instantiable RX1 12) (by decide +kernel)) (hts (.initialized RX1) (by decide +kernel)) hK hP hD hS hA rfl (fun j hj => by rcases (show j = 0 ∨ j = 1 ∨ j = 2 ∨ j = 3 ∨ j = 4 ∨ j = 5 ∨ j = 6 ∨ j = 7 ∨ j = 8 ∨ j = 9 ∨ j = 10 ∨ j = 11 by omega) with rfl | rfl | rfl | rfl | rfl | rfl | rfl | rfl | rfl | rfl | rfl | rfl <;> rfl) (Nat.le_of_ble_eq_true rfl) (Nat.le_of_ble_eq_true rfl) dL_law_23 (fun q2 H hP hD hS => ?_)
  have hPx : va_P (dC, dI) vwCl (pbW q1 a1 a2 a3 a4 cA (cv L xs 0) mR nC (fun _ => 0) (fun _ => 0) (fun _ => 0) (fun _ => 0) 0 0 1) H := hP.sub [0, 1, 2, 3, 4] rfl
  have hPm : va_P (dC, dI) vwCl [(q2, .inr (1, [.int 0, .long 0, .int 0, .int 0, .int 0, .null, .null, .int 0, .int 0, .null, .null, .null]))] H := hP.sub [5] rfl
  have hDx : va_D (fun q : Nat => s.heap.size ≤ q) (pbW q1 a1 a2 a3 a4 cA (cv L xs 0) mR nC (fun _ => 0) (fun _ => 0) (fun _ => 0) (fun _ => 0) 0 0 1) := hD.sub [0, 1, 2, 3, 4] (by decide) rfl
  have hDm : va_D (fun q : Nat => s.heap.size ≤ q) [(q2, .inr (1, [.int 0, .long 0, .int 0, .int 0, .int 0, .null, .null, .int 0, .int 0, .null, .null, .null]))] := hD.sub [5] (by decide) rfl
  have hX : Apart (pbW q1 a1 a2 a3 a4 cA (cv L xs 0) mR nC (fun _ => 0) (fun _ => 0) (fun _ => 0) (fun _ => 0) 0 0 1) [(q2, .inr (1, [.int 0, .long 0, .int 0, .int 0, .int 0, .null, .null, .int 0, .int 0, .null, .null, .null]))] := apart_D hD
  refine lv_dup hx hb dL_law_26 rfl ?_
  refine lv_aload_n hx hb dL_law_27 rfl (lv_at hl 1 rfl) ?_
  refine lv_iconst (v := nI 0) hx hb dL_law_28 (by decide +kernel) ?_
  refine cell_f S hL hX0 hbl hbA (k := 0) (by decide) ⟨(Nat.le_of_ble_eq_true rfl), (Nat.le_of_ble_eq_true rfl)⟩ hl.1 (rest := [.ref q2, .ref q2]) (Nat.le_of_ble_eq_true rfl) dL_law_29 ⟨(Nat.le_of_ble_eq_true rfl), (Nat.le_of_ble_eq_true rfl)⟩ hPm hPx hS hA (fun H locs hPm hPx hS => ?_)
  refine lv_aload_n hx hb dL_law_32 rfl (lv_at hl 1 rfl) ?_
  refine lv_iconst (v := nI 1) hx hb dL_law_33 (by decide +kernel) ?_
  refine cell_f S hL hX0 hbl hbA (k := 1) (by decide) ⟨(Nat.le_of_ble_eq_true rfl), (Nat.le_of_ble_eq_true rfl)⟩ hl.1 (rest := [.int (cv L xs 0), .ref q2, .ref q2]) (Nat.le_of_ble_eq_true rfl) dL_law_34 ⟨(Nat.le_of_ble_eq_true rfl), (Nat.le_of_ble_eq_true rfl)⟩ hPm hPx hS hA (fun H locs hPm hPx hS => ?_)
  refine lv_aload_n hx hb dL_law_37 rfl (lv_at hl 1 rfl) ?_
  refine lv_iconst (v := nI 2) hx hb dL_law_38 (by decide +kernel) ?_
  refine cell_f S hL hX0 hbl hbA (k := 2) (by decide) ⟨(Nat.le_of_ble_eq_true rfl), (Nat.le_of_ble_eq_true rfl)⟩ hl.1 (rest := [.int (cv L xs 1), .int (cv L xs 0), .ref q2, .ref q2]) (Nat.le_of_ble_eq_true rfl) dL_law_39 ⟨(Nat.le_of_ble_eq_true rfl), (Nat.le_of_ble_eq_true rfl)⟩ hPm hPx hS hA (fun H locs hPm hPx hS => ?_)
  refine ini_f (D := (dC, dI)) S (c_X1_init l (dC, dI) (h := q2) (cv L xs 0) (cv L xs 1) (cv L xs 2)) (cwI 3 hts gL_law_X1_init rfl rfl rfl (hts (.initialized RX1) (by decide +kernel)) (hts (.methodLink RL 20 yX1_init) (by decide +kernel)) (hts (.instanceMethod yX1_init) (by decide +kernel)) rfl (by decide +kernel) ⟨(Nat.le_of_ble_eq_true rfl), (Nat.le_of_ble_eq_true rfl)⟩) rfl hK hl.1 (rest := [.ref q2]) rfl (Nat.le_of_ble_eq_true rfl) dL_law_42 ⟨(Nat.le_of_ble_eq_true rfl), (Nat.le_of_ble_eq_true rfl)⟩ hPm hDm hPx hX.symm hS hA (fun u H locs hdim2 hPm hDm hK2 hPx hX hS => ?_)
  obtain ⟨b1, b2, b3, b4, b5, cJ, cI, P', mR', nC', vd⟩ := u
  obtain ⟨hdim2, hvd⟩ := hdim2
  have hdim2 : Dims (cv L xs 0) (cv L xs 1) (cv L xs 2) P' mR' nC' := hdim2
  have hvd : vd = if mR' = 0 then 0 else 1 := hvd
  obtain ⟨rfl, rfl, rfl⟩ := hdim.uniq hdim2
  have hKa : va_K (dC, dI) vwCl [(cA, .int), (cJ, .long), (cI, .int)] s := hK1.app hK2
  refine W.widen (k := 11) (n := 1687) (by decide) (by decide) ?_
  refine lv_astore_n (lv' := [(2, .ref q2), (1, .ref q1), (0, .ref b)]) hx hb dL_law_45 rfl hl (by decide) rfl (fun ls hl => ?_)
  refine lv_iconst (v := nI 3) hx hb dL_law_46 (by decide +kernel) ?_
  refine lv_istore_n (lv' := [(3, .int (nI 3)), (2, .ref q2), (1, .ref q1), (0, .ref b)]) hx hb dL_law_47 rfl hl (by decide) rfl (fun ls hl => ?_)
  have hF := LF_of hdim hvd
  exact law_loop (fun _ => ⟨C0, hL, hF, hKa⟩) (L + 5) 3 (by omega) (by omega) _ _ _ _ _ _ _ _ _ _ _ _ _ _ _ (LI_0 (fun h => (hF.2.2.1 h).2.1)) ls _ _ (lv_sub hl [3, 2, 1, 0] rfl) hPx hDx hPm hDm hX.symm hS
end
section
set_option maxHeartbeats 4000000 in
theorem lw_walk (l : Launch) (b : Addr) (xs : List Int32) : MetFree l x (headSpec (Jvm.Cond.code x code maxLocals ret :: tables_1) room_1) (lw_P b xs) (fun _ _ _ _ _ => True) lw_Q := by
  refine MetFree.of_bodyS (code := code) (maxLocals := maxLocals) (ret := ret) (by decide) ?_ ?_
  · intro args s m h hn
    obtain ⟨meth, c, h1, h2, h3, h4, h5, h6, -, -⟩ := Cond.code_spec hn (atoms_spec (ws := Jvm.Cond.code x code maxLocals ret :: tables_1) h _ List.mem_cons_self)
    exact ⟨meth, c, h1, h2, h3, h4, h5, h6⟩
  · intro p e s m args below meth c s₁ B hml0 hP _
    obtain ⟨rfl, hx, hbd, hgv⟩ := hP
    obtain ⟨scr, harrAt, hlist, hof, hsmall⟩ := hx
    obtain ⟨hcb, hkn, -, -⟩ := State.arrayAt?_spec harrAt
    have hown : s.vm.findClass R_law = some m.cls := findClass_of_methodNamed B.named
    have hts0 : ∀ c ∈ (Jvm.Cond.code x code maxLocals ret :: tables_1), c.before #[Value.ref b] s = true := atoms_spec (ws := Jvm.Cond.code x code maxLocals ret :: tables_1) B.pre
    have hts : ∀ w ∈ lw_tbl, w.before #[Value.ref b] s = true := k2_hts_sels lw_privs (fun w hw => hts0 w (List.mem_cons_of_mem _ hw)) lw_privs_ok
    have hml : c.maxLocals = 4 := B.maxLocals_eq (hts0 _ List.mem_cons_self)
    have X₀ : Stand p l e room_1 s m #[Value.ref b] below meth c s₁ [] 0 0 := Stand.of_body B
    have hh0 : s₁.heap = s.heap := by rw [B.state]; rfl
    have hsz : scr.slots.size = xs.length := by rw [← Array.length_toList, hlist, List.length_map]
    have hval : ∀ j : Nat, j < xs.length → scr.slots[j]? = some (.int (xs.getD j 0)) := fun j hj => by
      rw [← Array.getElem?_toList, hlist]
      simp [hj]
    have hbl : b < s.heap.size := (Array.getElem?_eq_some_iff.mp hcb).1
    have hX : va_X b xs.length (fun j => xs.getD j 0) s s.heap := ⟨scr, hcb, hof, hkn, hsz, hval⟩
    have K : W p l e room_1 s m #[Value.ref b] below meth c s₁.heap [] 0 0 (lw_Z below #[Value.ref b] s) (entryFrame m ([Value.ref b] : List Value).toArray 4) := by
      rw [hh0]
      exact whole_start l hbd ⟨B.exec, B.bytes, B.returns, hml, hown, hts, hX, hbl, B.notSynchronized, hgv⟩
    obtain ⟨t, a1, o, b1, b2, b3⟩ := K s₁ rfl X₀
    exact ⟨t, o, a1, b1, b2, b3⟩
theorem lw_pre_spec {args : Array Value} {s : State} (h : (Jvm.Cond.and given_1 narrow_1).before args s = true) (hr : rest_1_c.before args s = true) : ∃ (b : Addr) (xs : List Int32), lw_P b xs args s := by
  have hs := flat_of_before _ h
  have hq := flat_of_before _ hr
  have hc : (Cond.count 1).before args s = true := hs _ (by decide +kernel)
  have harr : (Cond.arrayOf (.arg 0) .int).before args s = true := hs _ (by decide +kernel)
  have hle : (Cond.le (.length (.arg 0)) (.int 2051)).before args s = true := hs _ (by decide +kernel)
  have hlen : (Cond.isInt (.length (.arg 0))).before args s = true := hq _ (by decide +kernel)
  have hall : (Cond.all (.arg 0) (.isInt (.elem (.arg 0) (.index 0)))).before args s = true := hq _ (by decide +kernel)
  obtain ⟨b, xs, hb, hx⟩ := State.ints_of_pre rfl harr hlen hall
  have hsm : xs.length < 2 ^ 31 := hx.choose_spec.2.2.2
  have hev : (Term.length (.arg 0)).eval args s none [] s = some (.int xs.length.toInt32) := hx.length_eval hb
  have hv := Cond.le_ints hev (show (Term.int 2051).eval args s none [] s = some (.int 2051) from rfl)
  have hd : xs.length.toInt32 ≤ 2051 := by
    simpa [Cond.before, Cond.holds, hv] using hle
  have hN : xs.length ≤ 2051 := (Int32.ofNat_le_ofNat hsm (by decide)).mp (show Int32.ofNat xs.length ≤ Int32.ofNat 2051 from hd)
  exact ⟨b, xs, Cond.one_arg hc (show args[0]? = some (.ref b) from hb), hx, hN, h⟩
theorem lw_comes (l : Launch) : Comes l x (Jvm.Cond.code x code maxLocals ret :: tables_1) room_1 (fun tb e args s => Calls_1 tb e args s ∧ rest_1 tb e args s ∧ Pre_1 tb e args s)
    (fun _ _ args s o t => lw_Q args s o t) := by
  intro p e ha hc hk s m args below hf hfit hheap happ hpre
  obtain ⟨b, xs, hP⟩ := lw_pre_spec hpre.2.2 hpre.2.1
  obtain ⟨k, o, h1, h2, h3, hQ⟩ := lw_walk l b xs p e ha hc hk s m args below hf ((Spec.applies_iff_loose hf).mp happ).1 hP trivial
  exact ⟨k, o, h1, h2, h3, hQ⟩
theorem lw_frame {s t : State} {o : Outcome} {args : Array Value} (h : Framed s o t [] 600000 7302250) :
    Framed s o t (fieldLocs frame_1_writes args s ++ arrayLocs frame_1_arrays args s ++ staticLocs frame_1_statics s) 600000 7302250 := h
theorem lw_limb (L : Cond) (hL : ∀ (args : Array Value) (s t : State), L.after args s (.returned (some (.int 1))) t = true) :
    ArmFor flags0 classFile x code maxLocals ret World_1 tables_1 room_1 Calls_1 rest_1 Pre_1
      (fun tb e a s o t => postC L tb e a s o t ∧ Framed s o t (fieldLocs frame_1_writes a s ++ arrayLocs frame_1_arrays a s ++ staticLocs frame_1_statics s) 600000 7302250) := by
  intro l _ _ _ p e ha hc hk s m args below hf hfit hheap happ hpre
  obtain ⟨k, o, h1, h2, h3, rfl, hF⟩ := lw_comes l p e ha hc hk s m args below hf hfit hheap happ hpre
  exact ⟨k, _, h1, h2, h3, hL args s _, lw_frame hF⟩
theorem i_vc : Claimed_1_1 ∧ Claimed_1_2 := ⟨lw_limb limb_1_1 (fun args s t => by simp [limb_1_1, Cond.after, Cond.holds, Cond.value]), lw_limb limb_1_2 (fun args s t => Cond.after_iff.mpr (by
  first | (rw [show limb_1_2 = Cond.eq .result (.int 1) from rfl, Cond.eq_ints (x := 1) (y := 1) rfl rfl]; simp; done) | (simp [limb_1_2, Cond.value, Term.eval]; done)))⟩
end
