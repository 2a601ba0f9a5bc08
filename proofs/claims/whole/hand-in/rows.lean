section
-- ===== PART A: goes FIRST, ahead of the names: the tables' words, and 'selects' of the private methods out of them =====
/-- a private method of a class that the tables say can be made, by its rows of tables_1 -/
def lw_okq (q : MethodName × Nat) : Prop := (q.1.cls ≠ "java/lang/invoke/MethodHandle" ∧ q.1.cls ≠ "java/lang/invoke/VarHandle") ∧ Cond.instantiable q.1.cls q.2 ∈ tables_1 ∧ Cond.privateMethod q.1 ∈ tables_1 ∧ Cond.instanceMethod q.1 ∈ tables_1
theorem lw_p0 : lw_okq (⟨"DottedSiblings", "isServer", "(I)Z"⟩, 9) := ⟨⟨by decide +kernel, by decide +kernel⟩, List.mem_of_getElem? (i := 6) (by decide +kernel), List.mem_of_getElem? (i := 55) (by decide +kernel), List.mem_of_getElem? (i := 56) (by decide +kernel)⟩
theorem lw_p1 : lw_okq (⟨"DottedSiblings", "isClient", "(I)Z"⟩, 9) := ⟨⟨by decide +kernel, by decide +kernel⟩, List.mem_of_getElem? (i := 6) (by decide +kernel), List.mem_of_getElem? (i := 59) (by decide +kernel), List.mem_of_getElem? (i := 60) (by decide +kernel)⟩
theorem lw_p2 : lw_okq (⟨"DottedSiblings", "greatestOf", "(IJ)J"⟩, 9) := ⟨⟨by decide +kernel, by decide +kernel⟩, List.mem_of_getElem? (i := 6) (by decide +kernel), List.mem_of_getElem? (i := 66) (by decide +kernel), List.mem_of_getElem? (i := 67) (by decide +kernel)⟩
theorem lw_p3 : lw_okq (⟨"DottedSiblings", "siblingAt", "(IJI)I"⟩, 9) := ⟨⟨by decide +kernel, by decide +kernel⟩, List.mem_of_getElem? (i := 6) (by decide +kernel), List.mem_of_getElem? (i := 85) (by decide +kernel), List.mem_of_getElem? (i := 86) (by decide +kernel)⟩
theorem lw_p4 : lw_okq (⟨"DottedSiblings", "vectorAt", "(IJI)I"⟩, 9) := ⟨⟨by decide +kernel, by decide +kernel⟩, List.mem_of_getElem? (i := 6) (by decide +kernel), List.mem_of_getElem? (i := 93) (by decide +kernel), List.mem_of_getElem? (i := 94) (by decide +kernel)⟩
theorem lw_p5 : lw_okq (⟨"DottedSiblings", "detailOf", "(III)J"⟩, 9) := ⟨⟨by decide +kernel, by decide +kernel⟩, List.mem_of_getElem? (i := 6) (by decide +kernel), List.mem_of_getElem? (i := 116) (by decide +kernel), List.mem_of_getElem? (i := 117) (by decide +kernel)⟩
theorem lw_p6 : lw_okq (⟨"DottedSiblingsModel", "isServer", "(I)Z"⟩, 10) := ⟨⟨by decide +kernel, by decide +kernel⟩, List.mem_of_getElem? (i := 143) (by decide +kernel), List.mem_of_getElem? (i := 184) (by decide +kernel), List.mem_of_getElem? (i := 185) (by decide +kernel)⟩
theorem lw_p7 : lw_okq (⟨"DottedSiblingsModel", "isClient", "(I)Z"⟩, 10) := ⟨⟨by decide +kernel, by decide +kernel⟩, List.mem_of_getElem? (i := 143) (by decide +kernel), List.mem_of_getElem? (i := 188) (by decide +kernel), List.mem_of_getElem? (i := 189) (by decide +kernel)⟩
theorem lw_p8 : lw_okq (⟨"DottedSiblingsModel", "newest", "(JI)J"⟩, 10) := ⟨⟨by decide +kernel, by decide +kernel⟩, List.mem_of_getElem? (i := 143) (by decide +kernel), List.mem_of_getElem? (i := 195) (by decide +kernel), List.mem_of_getElem? (i := 196) (by decide +kernel)⟩
theorem lw_p9 : lw_okq (⟨"DottedSiblingsModel", "at", "(JII)I"⟩, 10) := ⟨⟨by decide +kernel, by decide +kernel⟩, List.mem_of_getElem? (i := 143) (by decide +kernel), List.mem_of_getElem? (i := 208) (by decide +kernel), List.mem_of_getElem? (i := 209) (by decide +kernel)⟩
theorem lw_p10 : lw_okq (⟨"DottedSiblingsModel", "vector", "(JII)I"⟩, 10) := ⟨⟨by decide +kernel, by decide +kernel⟩, List.mem_of_getElem? (i := 143) (by decide +kernel), List.mem_of_getElem? (i := 236) (by decide +kernel), List.mem_of_getElem? (i := 237) (by decide +kernel)⟩
def lw_privs_1 : List (MethodName × Nat) := [(⟨"DottedSiblings", "isServer", "(I)Z"⟩, 9), (⟨"DottedSiblings", "isClient", "(I)Z"⟩, 9), (⟨"DottedSiblings", "greatestOf", "(IJ)J"⟩, 9), (⟨"DottedSiblings", "siblingAt", "(IJI)I"⟩, 9), (⟨"DottedSiblings", "vectorAt", "(IJI)I"⟩, 9), (⟨"DottedSiblings", "detailOf", "(III)J"⟩, 9), (⟨"DottedSiblingsModel", "isServer", "(I)Z"⟩, 10), (⟨"DottedSiblingsModel", "isClient", "(I)Z"⟩, 10), (⟨"DottedSiblingsModel", "newest", "(JI)J"⟩, 10), (⟨"DottedSiblingsModel", "at", "(JII)I"⟩, 10), (⟨"DottedSiblingsModel", "vector", "(JII)I"⟩, 10)]
theorem lw_r1 : ∀ q ∈ lw_privs_1, lw_okq q := List.forall_mem_cons.mpr ⟨lw_p0, List.forall_mem_cons.mpr ⟨lw_p1, List.forall_mem_cons.mpr ⟨lw_p2, List.forall_mem_cons.mpr ⟨lw_p3, List.forall_mem_cons.mpr ⟨lw_p4, List.forall_mem_cons.mpr ⟨lw_p5, List.forall_mem_cons.mpr ⟨lw_p6, List.forall_mem_cons.mpr ⟨lw_p7, List.forall_mem_cons.mpr ⟨lw_p8, List.forall_mem_cons.mpr ⟨lw_p9, List.forall_mem_cons.mpr ⟨lw_p10, fun _ h => absurd h List.not_mem_nil⟩⟩⟩⟩⟩⟩⟩⟩⟩⟩⟩
def lw_privs : List (MethodName × Nat) := lw_privs_1
def lw_tbl : List Cond := k2_sels lw_privs ++ tables_1
theorem lw_privs_ok : ∀ q ∈ lw_privs, lw_okq q := lw_r1
-- ===== end of PART A; then your names; then what follows =====
end
section
/-! ===== BEGIN words of one list among another's, by their places ===== -/
theorem goodIn_r {big : List Cond} (ws : List Cond) (ps : List Nat) (hp : ws = ps.filterMap (fun i => big[i]?)) (h : ws.all goodWord = true) : GoodIn big ws := by
  intro w hw
  have h1 := List.all_eq_true.mp h w hw
  rw [hp] at hw
  obtain ⟨i, -, hi⟩ := List.mem_filterMap.mp hw
  have hm : w ∈ big := by first | exact List.mem_of_getElem? hi | exact List.getElem?_mem hi
  exact ⟨hm, good_of_word h1⟩
theorem goodIn_app {big a b : List Cond} (ha : GoodIn big a) (hb : GoodIn big b) : GoodIn big (a ++ b) := fun w h => (List.mem_append.mp h).elim (ha w) (hb w)
theorem goodIn_ca {big a b : List Cond} {c : Cond} (ha : GoodIn big (c :: a)) (hb : GoodIn big b) : GoodIn big (c :: (a ++ b)) := fun w h => (List.mem_cons.mp h).elim (fun e => ha w (List.mem_cons.mpr (Or.inl e))) (fun h => (List.mem_append.mp h).elim (fun h => ha w (List.mem_cons.mpr (Or.inr h))) (hb w))
theorem goodIn_sub {big ws : List Cond} (hm : ∀ w ∈ ws, w ∈ big) (h : ws.all goodWord = true) : GoodIn big ws := fun w hw => ⟨hm w hw, good_of_word (List.all_eq_true.mp h w hw)⟩
/-! ===== END ===== -/

/-! ===== BEGIN printed: names, fields, word lists, decode rows ===== -/
def RX0 : String := "DottedSiblings"
def TX0 : u_T := fun k => match k with
  | 0 => ("DottedSiblings", "servers", "I", true)
  | 1 => ("DottedSiblings", "clients", "I", true)
  | 2 => ("DottedSiblings", "written", "[I", true)
  | 3 => ("DottedSiblings", "values", "[[I", true)
  | 4 => ("DottedSiblings", "makers", "[[I", true)
  | 5 => ("DottedSiblings", "counters", "[[I", true)
  | 6 => ("DottedSiblings", "pasts", "[[J", true)
  | 7 => ("DottedSiblings", "knownSets", "[[J", true)
  | _ => ("DottedSiblings", "contextSets", "[[J", true)
def tyX0 : Nat → FieldType := fun k => match k with
  | 0 => .int
  | 1 => .int
  | 2 => .array .int
  | 3 => .array (.array .int)
  | 4 => .array (.array .int)
  | 5 => .array (.array .int)
  | 6 => .array (.array .long)
  | 7 => .array (.array .long)
  | _ => .array (.array .long)
abbrev wsX00 : List Cond := u_ws RX0 TX0 9
theorem nmX0 : ∀ a, a < 9 → ∀ b, b < 9 → a ≠ b → (TX0 a).2.1 ≠ (TX0 b).2.1 := by decide +kernel
theorem tyX0_ok : ∀ k, k < 9 → parseFieldDescriptor (TX0 k).2.2.1 = some (tyX0 k) := by decide +kernel
abbrev cX0_init : ByteArray := prog_1_method_1_code
def yX0_init : MethodName := ⟨RX0, "<init>", "(II)V"⟩
abbrev cX0_get : ByteArray := prog_1_method_2_code
def yX0_get : MethodName := ⟨RX0, "get", "(III)I"⟩
abbrev cX0_read : ByteArray := prog_1_method_3_code
def yX0_read : MethodName := ⟨RX0, "read", "(III)J"⟩
abbrev cX0_put : ByteArray := prog_1_method_4_code
def yX0_put : MethodName := ⟨RX0, "put", "(IIII)I"⟩
abbrev cX0_sync : ByteArray := prog_1_method_5_code
def yX0_sync : MethodName := ⟨RX0, "sync", "(III)Z"⟩
abbrev cX0_forget : ByteArray := prog_1_method_6_code
def yX0_forget : MethodName := ⟨RX0, "forget", "(II)Z"⟩
abbrev cX0_siblings : ByteArray := prog_1_method_7_code
def yX0_siblings : MethodName := ⟨RX0, "siblings", "(II)I"⟩
abbrev cX0_sibling : ByteArray := prog_1_method_8_code
def yX0_sibling : MethodName := ⟨RX0, "sibling", "(IIII)J"⟩
abbrev cX0_known : ByteArray := prog_1_method_9_code
def yX0_known : MethodName := ⟨RX0, "known", "(III)I"⟩
abbrev cX0_context : ByteArray := prog_1_method_10_code
def yX0_context : MethodName := ⟨RX0, "context", "(III)I"⟩
abbrev cX0_sees : ByteArray := prog_1_method_11_code
def yX0_sees : MethodName := ⟨RX0, "sees", "(III)Z"⟩
abbrev cX0_same : ByteArray := prog_1_method_12_code
def yX0_same : MethodName := ⟨RX0, "same", "(III)Z"⟩
abbrev cX0_weight : ByteArray := prog_1_method_13_code
def yX0_weight : MethodName := ⟨RX0, "weight", "(II)I"⟩
abbrev cX0_allowedParties : ByteArray := prog_1_method_14_code
def yX0_allowedParties : MethodName := ⟨RX0, "allowedParties", "(I)I"⟩
abbrev cX0_isServer : ByteArray := prog_1_method_15_code
def yX0_isServer : MethodName := ⟨RX0, "isServer", "(I)Z"⟩
abbrev cX0_isClient : ByteArray := prog_1_method_16_code
def yX0_isClient : MethodName := ⟨RX0, "isClient", "(I)Z"⟩
abbrev cX0_isKey : ByteArray := prog_1_method_17_code
def yX0_isKey : MethodName := ⟨RX0, "isKey", "(I)Z"⟩
abbrev cX0_has : ByteArray := prog_1_method_18_code
def yX0_has : MethodName := ⟨RX0, "has", "(JI)Z"⟩
abbrev cX0_greatestOf : ByteArray := prog_1_method_19_code
def yX0_greatestOf : MethodName := ⟨RX0, "greatestOf", "(IJ)J"⟩
abbrev cX0_siblingAt : ByteArray := prog_1_method_20_code
def yX0_siblingAt : MethodName := ⟨RX0, "siblingAt", "(IJI)I"⟩
abbrev cX0_detailOf : ByteArray := prog_1_method_21_code
def yX0_detailOf : MethodName := ⟨RX0, "detailOf", "(III)J"⟩
abbrev cX0_vectorAt : ByteArray := prog_1_method_22_code
def yX0_vectorAt : MethodName := ⟨RX0, "vectorAt", "(IJI)I"⟩
def RX1 : String := "DottedSiblingsModel"
def TX1 : u_T := fun k => match k with
  | 0 => ("DottedSiblingsModel", "servers", "I", true)
  | 1 => ("DottedSiblingsModel", "clients", "I", true)
  | 2 => ("DottedSiblingsModel", "counts", "[I", true)
  | 3 => ("DottedSiblingsModel", "values", "[I", true)
  | 4 => ("DottedSiblingsModel", "made", "[I", true)
  | 5 => ("DottedSiblingsModel", "counters", "[I", true)
  | 6 => ("DottedSiblingsModel", "pasts", "[J", true)
  | 7 => ("DottedSiblingsModel", "known", "[J", true)
  | 8 => ("DottedSiblingsModel", "contexts", "[J", true)
  | _ => ("DottedSiblingsModel", "reads", "[J", true)
def tyX1 : Nat → FieldType := fun k => match k with
  | 0 => .int
  | 1 => .int
  | 2 => .array .int
  | 3 => .array .int
  | 4 => .array .int
  | 5 => .array .int
  | 6 => .array .long
  | 7 => .array .long
  | 8 => .array .long
  | _ => .array .long
abbrev wsX10 : List Cond := u_ws RX1 TX1 10
theorem nmX1 : ∀ a, a < 10 → ∀ b, b < 10 → a ≠ b → (TX1 a).2.1 ≠ (TX1 b).2.1 := by decide +kernel
theorem tyX1_ok : ∀ k, k < 10 → parseFieldDescriptor (TX1 k).2.2.1 = some (tyX1 k) := by decide +kernel
abbrev cX1_init : ByteArray := prog_3_method_1_code
def yX1_init : MethodName := ⟨RX1, "<init>", "(II)V"⟩
abbrev cX1_isServer : ByteArray := prog_3_method_3_code
def yX1_isServer : MethodName := ⟨RX1, "isServer", "(I)Z"⟩
abbrev cX1_isClient : ByteArray := prog_3_method_4_code
def yX1_isClient : MethodName := ⟨RX1, "isClient", "(I)Z"⟩
abbrev cX1_isKey : ByteArray := prog_3_method_5_code
def yX1_isKey : MethodName := ⟨RX1, "isKey", "(I)Z"⟩
abbrev cX1_newest : ByteArray := prog_3_method_6_code
def yX1_newest : MethodName := ⟨RX1, "newest", "(JI)J"⟩
abbrev cX1_sizeOf : ByteArray := prog_3_method_7_code
def yX1_sizeOf : MethodName := ⟨RX1, "sizeOf", "(J)I"⟩
abbrev cX1_at : ByteArray := prog_3_method_8_code
def yX1_at : MethodName := ⟨RX1, "at", "(JII)I"⟩
abbrev cX1_get : ByteArray := prog_3_method_9_code
def yX1_get : MethodName := ⟨RX1, "get", "(III)I"⟩
abbrev cX1_read : ByteArray := prog_3_method_10_code
def yX1_read : MethodName := ⟨RX1, "read", "(III)J"⟩
abbrev cX1_put : ByteArray := prog_3_method_11_code
def yX1_put : MethodName := ⟨RX1, "put", "(IIII)I"⟩
abbrev cX1_sync : ByteArray := prog_3_method_12_code
def yX1_sync : MethodName := ⟨RX1, "sync", "(III)Z"⟩
abbrev cX1_forget : ByteArray := prog_3_method_13_code
def yX1_forget : MethodName := ⟨RX1, "forget", "(II)Z"⟩
abbrev cX1_siblings : ByteArray := prog_3_method_14_code
def yX1_siblings : MethodName := ⟨RX1, "siblings", "(II)I"⟩
abbrev cX1_sibling : ByteArray := prog_3_method_15_code
def yX1_sibling : MethodName := ⟨RX1, "sibling", "(IIII)J"⟩
abbrev cX1_vector : ByteArray := prog_3_method_16_code
def yX1_vector : MethodName := ⟨RX1, "vector", "(JII)I"⟩
abbrev cX1_known : ByteArray := prog_3_method_17_code
def yX1_known : MethodName := ⟨RX1, "known", "(III)I"⟩
abbrev cX1_context : ByteArray := prog_3_method_18_code
def yX1_context : MethodName := ⟨RX1, "context", "(III)I"⟩
abbrev cX1_sees : ByteArray := prog_3_method_19_code
def yX1_sees : MethodName := ⟨RX1, "sees", "(III)Z"⟩
abbrev cX1_same : ByteArray := prog_3_method_20_code
def yX1_same : MethodName := ⟨RX1, "same", "(III)Z"⟩
abbrev cX1_weight : ByteArray := prog_3_method_21_code
def yX1_weight : MethodName := ⟨RX1, "weight", "(II)I"⟩
def RJ13 : String := "java/lang/Long"
def TJ13 : u_T := fun k => match k with
  | _ => ("", "", "", false)
def tyJ13 : Nat → FieldType := fun k => match k with
  | _ => .int
abbrev wsJ130 : List Cond := u_ws RJ13 TJ13 0
theorem nmJ13 : ∀ a, a < 0 → ∀ b, b < 0 → a ≠ b → (TJ13 a).2.1 ≠ (TJ13 b).2.1 := by decide +kernel
theorem tyJ13_ok : ∀ k, k < 0 → parseFieldDescriptor (TJ13 k).2.2.1 = some (tyJ13 k) := by decide +kernel
abbrev cJ13_bitCount_95d88 : ByteArray := prog_4_method_50_code
def yJ13_bitCount_95d88 : MethodName := ⟨RJ13, "bitCount", "(J)I"⟩
def RJ9 : String := "java/lang/Math"
def TJ9 : u_T := fun k => match k with
  | _ => ("", "", "", false)
def tyJ9 : Nat → FieldType := fun k => match k with
  | _ => .int
abbrev wsJ90 : List Cond := u_ws RJ9 TJ9 0
theorem nmJ9 : ∀ a, a < 0 → ∀ b, b < 0 → a ≠ b → (TJ9 a).2.1 ≠ (TJ9 b).2.1 := by decide +kernel
theorem tyJ9_ok : ∀ k, k < 0 → parseFieldDescriptor (TJ9 k).2.2.1 = some (tyJ9 k) := by decide +kernel
abbrev cJ9_max_7cf53 : ByteArray := prog_5_method_65_code
def yJ9_max_7cf53 : MethodName := ⟨RJ9, "max", "(II)I"⟩
def RL : String := "DottedSiblingsLaw"
abbrev cL_cell : ByteArray := method_2_code
def yL_cell : MethodName := ⟨RL, "cell", "([II)I"⟩
abbrev cL_law : ByteArray := code
def yL_law : MethodName := ⟨RL, "law", "([I)Z"⟩
def wsX0_allowedParties : List Cond := .code yX0_allowedParties cX0_allowedParties 1 (some .int) :: ([])
def wsX0_init : List Cond := .code yX0_init cX0_init 3 none :: ([.methodLink RX0 3 objectInit, .instanceMethod objectInit, .code objectInit ⟨#[0xb1]⟩ 1 none, .fieldLink RX0 15 "DottedSiblings" "servers" "I", .fieldLink RX0 19 "DottedSiblings" "clients" "I", .arrayClass .int, .fieldLink RX0 22 "DottedSiblings" "written" "[I", .classLink RX0 26 "[[I", .fieldLink RX0 28 "DottedSiblings" "values" "[[I", .fieldLink RX0 31 "DottedSiblings" "makers" "[[I", .fieldLink RX0 34 "DottedSiblings" "counters" "[[I", .classLink RX0 37 "[[J", .arrayClass .long, .fieldLink RX0 39 "DottedSiblings" "pasts" "[[J", .fieldLink RX0 42 "DottedSiblings" "knownSets" "[[J", .fieldLink RX0 45 "DottedSiblings" "contextSets" "[[J", .methodLink RX0 9 yX0_allowedParties, .static yX0_allowedParties, .initialized RX0, .code yX0_allowedParties cX0_allowedParties 1 (some .int)] ++ wsX00)
def wsX0_isServer : List Cond := .code yX0_isServer cX0_isServer 2 (some .boolean) :: ([.fieldLink RX0 15 "DottedSiblings" "servers" "I"] ++ wsX00)
def wsX0_isClient : List Cond := .code yX0_isClient cX0_isClient 2 (some .boolean) :: ([.fieldLink RX0 19 "DottedSiblings" "clients" "I"] ++ wsX00)
def wsX0_isKey : List Cond := .code yX0_isKey cX0_isKey 1 (some .boolean) :: ([])
def wsX0_has : List Cond := .code yX0_has cX0_has 3 (some .boolean) :: ([])
def wsX0_greatestOf : List Cond := .code yX0_greatestOf cX0_greatestOf 7 (some .long) :: ([.fieldLink RX0 22 "DottedSiblings" "written" "[I", .fieldLink RX0 39 "DottedSiblings" "pasts" "[[J", .constantLong RX0 83 (-1), .methodLink RX0 79 yX0_has, .static yX0_has, .initialized RX0, .code yX0_has cX0_has 3 (some .boolean)] ++ wsX00)
def wsJ13_bitCount_95d88 : List Cond := .code yJ13_bitCount_95d88 cJ13_bitCount_95d88 2 (some .int) :: ([.constantLong RJ13 314 (6148914691236517205), .constantLong RJ13 316 (3689348814741910323), .constantLong RJ13 318 (1085102592571150095)])
def wsX0_get_r1 : List Cond := [Cond.fieldLink RX0 45 "DottedSiblings" "contextSets" "[[J", Cond.fieldLink RX0 42 "DottedSiblings" "knownSets" "[[J", Cond.methodLink RX0 48 yX0_isServer, Cond.instanceMethod yX0_isServer, Cond.selects RX0 yX0_isServer yX0_isServer, Cond.initialized RX0, Cond.code yX0_isServer cX0_isServer 2 (some .boolean), Cond.fieldLink RX0 15 "DottedSiblings" "servers" "I", Cond.methodLink RX0 52 yX0_isClient, Cond.instanceMethod yX0_isClient, Cond.selects RX0 yX0_isClient yX0_isClient, Cond.code yX0_isClient cX0_isClient 2 (some .boolean), Cond.fieldLink RX0 19 "DottedSiblings" "clients" "I", Cond.methodLink RX0 55 yX0_isKey, Cond.static yX0_isKey, Cond.code yX0_isKey cX0_isKey 1 (some .boolean), Cond.methodLink RX0 58 yX0_greatestOf, Cond.instanceMethod yX0_greatestOf, Cond.selects RX0 yX0_greatestOf yX0_greatestOf, Cond.code yX0_greatestOf cX0_greatestOf 7 (some .long), Cond.fieldLink RX0 22 "DottedSiblings" "written" "[I", Cond.fieldLink RX0 39 "DottedSiblings" "pasts" "[[J", Cond.constantLong RX0 83 (-1), Cond.methodLink RX0 79 yX0_has]
def wsX0_get_r2 : List Cond := [Cond.static yX0_has, Cond.code yX0_has cX0_has 3 (some .boolean), Cond.methodLink RX0 62 yJ13_bitCount_95d88, Cond.static yJ13_bitCount_95d88, Cond.initialized RJ13, Cond.code yJ13_bitCount_95d88 cJ13_bitCount_95d88 2 (some .int), Cond.constantLong RJ13 314 (6148914691236517205), Cond.constantLong RJ13 316 (3689348814741910323), Cond.constantLong RJ13 318 (1085102592571150095)]
def wsX0_get : List Cond := .code yX0_get cX0_get 4 (some .int) :: ((wsX0_get_r1 ++ wsX0_get_r2) ++ wsX00)
def wsX0_siblingAt : List Cond := .code yX0_siblingAt cX0_siblingAt 10 (some .int) :: ([.fieldLink RX0 15 "DottedSiblings" "servers" "I", .fieldLink RX0 22 "DottedSiblings" "written" "[I", .fieldLink RX0 31 "DottedSiblings" "makers" "[[I", .methodLink RX0 58 yX0_greatestOf, .instanceMethod yX0_greatestOf, .selects RX0 yX0_greatestOf yX0_greatestOf, .initialized RX0, .code yX0_greatestOf cX0_greatestOf 7 (some .long), .fieldLink RX0 39 "DottedSiblings" "pasts" "[[J", .constantLong RX0 83 (-1), .methodLink RX0 79 yX0_has, .static yX0_has, .code yX0_has cX0_has 3 (some .boolean)] ++ wsX00)
def wsX0_read_r1 : List Cond := [Cond.constantLong RX0 66 (-9223372036854775808), Cond.fieldLink RX0 45 "DottedSiblings" "contextSets" "[[J", Cond.fieldLink RX0 28 "DottedSiblings" "values" "[[I", Cond.methodLink RX0 52 yX0_isClient, Cond.instanceMethod yX0_isClient, Cond.selects RX0 yX0_isClient yX0_isClient, Cond.initialized RX0, Cond.code yX0_isClient cX0_isClient 2 (some .boolean), Cond.fieldLink RX0 19 "DottedSiblings" "clients" "I", Cond.methodLink RX0 55 yX0_isKey, Cond.static yX0_isKey, Cond.code yX0_isKey cX0_isKey 1 (some .boolean), Cond.methodLink RX0 68 yX0_siblingAt, Cond.instanceMethod yX0_siblingAt, Cond.selects RX0 yX0_siblingAt yX0_siblingAt, Cond.code yX0_siblingAt cX0_siblingAt 10 (some .int), Cond.fieldLink RX0 15 "DottedSiblings" "servers" "I", Cond.fieldLink RX0 22 "DottedSiblings" "written" "[I", Cond.fieldLink RX0 31 "DottedSiblings" "makers" "[[I", Cond.methodLink RX0 58 yX0_greatestOf, Cond.instanceMethod yX0_greatestOf, Cond.selects RX0 yX0_greatestOf yX0_greatestOf, Cond.code yX0_greatestOf cX0_greatestOf 7 (some .long), Cond.fieldLink RX0 39 "DottedSiblings" "pasts" "[[J"]
def wsX0_read_r2 : List Cond := [Cond.constantLong RX0 83 (-1), Cond.methodLink RX0 79 yX0_has, Cond.static yX0_has, Cond.code yX0_has cX0_has 3 (some .boolean)]
def wsX0_read : List Cond := .code yX0_read cX0_read 5 (some .long) :: ((wsX0_read_r1 ++ wsX0_read_r2) ++ wsX00)
def wsX0_vectorAt : List Cond := .code yX0_vectorAt cX0_vectorAt 7 (some .int) :: ([.fieldLink RX0 22 "DottedSiblings" "written" "[I", .fieldLink RX0 31 "DottedSiblings" "makers" "[[I", .fieldLink RX0 34 "DottedSiblings" "counters" "[[I", .methodLink RX0 85 Lib.Math.max.name, .static Lib.Math.max.name, .initialized "java/lang/Math", .code Lib.Math.max.name Lib.Math.max.code 2 (some .int), .methodLink RX0 79 yX0_has, .static yX0_has, .initialized RX0, .code yX0_has cX0_has 3 (some .boolean)] ++ wsX00)
def wsX0_put_r1 : List Cond := [Cond.fieldLink RX0 22 "DottedSiblings" "written" "[I", Cond.fieldLink RX0 45 "DottedSiblings" "contextSets" "[[J", Cond.fieldLink RX0 28 "DottedSiblings" "values" "[[I", Cond.fieldLink RX0 31 "DottedSiblings" "makers" "[[I", Cond.fieldLink RX0 34 "DottedSiblings" "counters" "[[I", Cond.fieldLink RX0 42 "DottedSiblings" "knownSets" "[[J", Cond.fieldLink RX0 39 "DottedSiblings" "pasts" "[[J", Cond.methodLink RX0 48 yX0_isServer, Cond.instanceMethod yX0_isServer, Cond.selects RX0 yX0_isServer yX0_isServer, Cond.initialized RX0, Cond.code yX0_isServer cX0_isServer 2 (some .boolean), Cond.fieldLink RX0 15 "DottedSiblings" "servers" "I", Cond.methodLink RX0 52 yX0_isClient, Cond.instanceMethod yX0_isClient, Cond.selects RX0 yX0_isClient yX0_isClient, Cond.code yX0_isClient cX0_isClient 2 (some .boolean), Cond.fieldLink RX0 19 "DottedSiblings" "clients" "I", Cond.methodLink RX0 55 yX0_isKey, Cond.static yX0_isKey, Cond.code yX0_isKey cX0_isKey 1 (some .boolean), Cond.methodLink RX0 72 yX0_vectorAt, Cond.instanceMethod yX0_vectorAt, Cond.selects RX0 yX0_vectorAt yX0_vectorAt]
def wsX0_put_r2 : List Cond := [Cond.code yX0_vectorAt cX0_vectorAt 7 (some .int), Cond.methodLink RX0 85 Lib.Math.max.name, Cond.static Lib.Math.max.name, Cond.initialized "java/lang/Math", Cond.code Lib.Math.max.name Lib.Math.max.code 2 (some .int), Cond.methodLink RX0 79 yX0_has, Cond.static yX0_has, Cond.code yX0_has cX0_has 3 (some .boolean)]
def wsX0_put : List Cond := .code yX0_put cX0_put 8 (some .int) :: ((wsX0_put_r1 ++ wsX0_put_r2) ++ wsX00)
def wsX0_sync : List Cond := .code yX0_sync cX0_sync 6 (some .boolean) :: ([.fieldLink RX0 42 "DottedSiblings" "knownSets" "[[J", .methodLink RX0 48 yX0_isServer, .instanceMethod yX0_isServer, .selects RX0 yX0_isServer yX0_isServer, .initialized RX0, .code yX0_isServer cX0_isServer 2 (some .boolean), .fieldLink RX0 15 "DottedSiblings" "servers" "I", .methodLink RX0 55 yX0_isKey, .static yX0_isKey, .code yX0_isKey cX0_isKey 1 (some .boolean)] ++ wsX00)
def wsX0_forget : List Cond := .code yX0_forget cX0_forget 3 (some .boolean) :: ([.fieldLink RX0 45 "DottedSiblings" "contextSets" "[[J", .methodLink RX0 52 yX0_isClient, .instanceMethod yX0_isClient, .selects RX0 yX0_isClient yX0_isClient, .initialized RX0, .code yX0_isClient cX0_isClient 2 (some .boolean), .fieldLink RX0 19 "DottedSiblings" "clients" "I", .methodLink RX0 55 yX0_isKey, .static yX0_isKey, .code yX0_isKey cX0_isKey 1 (some .boolean)] ++ wsX00)
def wsX0_siblings_r1 : List Cond := [Cond.fieldLink RX0 42 "DottedSiblings" "knownSets" "[[J", Cond.methodLink RX0 48 yX0_isServer, Cond.instanceMethod yX0_isServer, Cond.selects RX0 yX0_isServer yX0_isServer, Cond.initialized RX0, Cond.code yX0_isServer cX0_isServer 2 (some .boolean), Cond.fieldLink RX0 15 "DottedSiblings" "servers" "I", Cond.methodLink RX0 55 yX0_isKey, Cond.static yX0_isKey, Cond.code yX0_isKey cX0_isKey 1 (some .boolean), Cond.methodLink RX0 58 yX0_greatestOf, Cond.instanceMethod yX0_greatestOf, Cond.selects RX0 yX0_greatestOf yX0_greatestOf, Cond.code yX0_greatestOf cX0_greatestOf 7 (some .long), Cond.fieldLink RX0 22 "DottedSiblings" "written" "[I", Cond.fieldLink RX0 39 "DottedSiblings" "pasts" "[[J", Cond.constantLong RX0 83 (-1), Cond.methodLink RX0 79 yX0_has, Cond.static yX0_has, Cond.code yX0_has cX0_has 3 (some .boolean), Cond.methodLink RX0 62 yJ13_bitCount_95d88, Cond.static yJ13_bitCount_95d88, Cond.initialized RJ13, Cond.code yJ13_bitCount_95d88 cJ13_bitCount_95d88 2 (some .int)]
def wsX0_siblings_r2 : List Cond := [Cond.constantLong RJ13 314 (6148914691236517205), Cond.constantLong RJ13 316 (3689348814741910323), Cond.constantLong RJ13 318 (1085102592571150095)]
def wsX0_siblings : List Cond := .code yX0_siblings cX0_siblings 3 (some .int) :: ((wsX0_siblings_r1 ++ wsX0_siblings_r2) ++ wsX00)
def wsX0_detailOf : List Cond := .code yX0_detailOf cX0_detailOf 4 (some .long) :: ([.fieldLink RX0 28 "DottedSiblings" "values" "[[I", .fieldLink RX0 31 "DottedSiblings" "makers" "[[I", .fieldLink RX0 34 "DottedSiblings" "counters" "[[I", .constantLong RX0 66 (-9223372036854775808)] ++ wsX00)
def wsX0_sibling_r1 : List Cond := [Cond.constantLong RX0 66 (-9223372036854775808), Cond.fieldLink RX0 42 "DottedSiblings" "knownSets" "[[J", Cond.methodLink RX0 48 yX0_isServer, Cond.instanceMethod yX0_isServer, Cond.selects RX0 yX0_isServer yX0_isServer, Cond.initialized RX0, Cond.code yX0_isServer cX0_isServer 2 (some .boolean), Cond.fieldLink RX0 15 "DottedSiblings" "servers" "I", Cond.methodLink RX0 55 yX0_isKey, Cond.static yX0_isKey, Cond.code yX0_isKey cX0_isKey 1 (some .boolean), Cond.methodLink RX0 68 yX0_siblingAt, Cond.instanceMethod yX0_siblingAt, Cond.selects RX0 yX0_siblingAt yX0_siblingAt, Cond.code yX0_siblingAt cX0_siblingAt 10 (some .int), Cond.fieldLink RX0 22 "DottedSiblings" "written" "[I", Cond.fieldLink RX0 31 "DottedSiblings" "makers" "[[I", Cond.methodLink RX0 58 yX0_greatestOf, Cond.instanceMethod yX0_greatestOf, Cond.selects RX0 yX0_greatestOf yX0_greatestOf, Cond.code yX0_greatestOf cX0_greatestOf 7 (some .long), Cond.fieldLink RX0 39 "DottedSiblings" "pasts" "[[J", Cond.constantLong RX0 83 (-1), Cond.methodLink RX0 79 yX0_has]
def wsX0_sibling_r2 : List Cond := [Cond.static yX0_has, Cond.code yX0_has cX0_has 3 (some .boolean), Cond.methodLink RX0 75 yX0_detailOf, Cond.instanceMethod yX0_detailOf, Cond.selects RX0 yX0_detailOf yX0_detailOf, Cond.code yX0_detailOf cX0_detailOf 4 (some .long), Cond.fieldLink RX0 28 "DottedSiblings" "values" "[[I", Cond.fieldLink RX0 34 "DottedSiblings" "counters" "[[I"]
def wsX0_sibling : List Cond := .code yX0_sibling cX0_sibling 6 (some .long) :: ((wsX0_sibling_r1 ++ wsX0_sibling_r2) ++ wsX00)
def wsX0_known : List Cond := .code yX0_known cX0_known 4 (some .int) :: ([.fieldLink RX0 42 "DottedSiblings" "knownSets" "[[J", .methodLink RX0 48 yX0_isServer, .instanceMethod yX0_isServer, .selects RX0 yX0_isServer yX0_isServer, .initialized RX0, .code yX0_isServer cX0_isServer 2 (some .boolean), .fieldLink RX0 15 "DottedSiblings" "servers" "I", .methodLink RX0 55 yX0_isKey, .static yX0_isKey, .code yX0_isKey cX0_isKey 1 (some .boolean), .methodLink RX0 72 yX0_vectorAt, .instanceMethod yX0_vectorAt, .selects RX0 yX0_vectorAt yX0_vectorAt, .code yX0_vectorAt cX0_vectorAt 7 (some .int), .fieldLink RX0 22 "DottedSiblings" "written" "[I", .fieldLink RX0 31 "DottedSiblings" "makers" "[[I", .fieldLink RX0 34 "DottedSiblings" "counters" "[[I", .methodLink RX0 85 Lib.Math.max.name, .static Lib.Math.max.name, .initialized "java/lang/Math", .code Lib.Math.max.name Lib.Math.max.code 2 (some .int), .methodLink RX0 79 yX0_has, .static yX0_has, .code yX0_has cX0_has 3 (some .boolean)] ++ wsX00)
def wsX0_context_r1 : List Cond := [Cond.fieldLink RX0 45 "DottedSiblings" "contextSets" "[[J", Cond.methodLink RX0 52 yX0_isClient, Cond.instanceMethod yX0_isClient, Cond.selects RX0 yX0_isClient yX0_isClient, Cond.initialized RX0, Cond.code yX0_isClient cX0_isClient 2 (some .boolean), Cond.fieldLink RX0 19 "DottedSiblings" "clients" "I", Cond.methodLink RX0 55 yX0_isKey, Cond.static yX0_isKey, Cond.code yX0_isKey cX0_isKey 1 (some .boolean), Cond.methodLink RX0 48 yX0_isServer, Cond.instanceMethod yX0_isServer, Cond.selects RX0 yX0_isServer yX0_isServer, Cond.code yX0_isServer cX0_isServer 2 (some .boolean), Cond.fieldLink RX0 15 "DottedSiblings" "servers" "I", Cond.methodLink RX0 72 yX0_vectorAt, Cond.instanceMethod yX0_vectorAt, Cond.selects RX0 yX0_vectorAt yX0_vectorAt, Cond.code yX0_vectorAt cX0_vectorAt 7 (some .int), Cond.fieldLink RX0 22 "DottedSiblings" "written" "[I", Cond.fieldLink RX0 31 "DottedSiblings" "makers" "[[I", Cond.fieldLink RX0 34 "DottedSiblings" "counters" "[[I", Cond.methodLink RX0 85 Lib.Math.max.name, Cond.static Lib.Math.max.name]
def wsX0_context_r2 : List Cond := [Cond.initialized "java/lang/Math", Cond.code Lib.Math.max.name Lib.Math.max.code 2 (some .int), Cond.methodLink RX0 79 yX0_has, Cond.static yX0_has, Cond.code yX0_has cX0_has 3 (some .boolean)]
def wsX0_context : List Cond := .code yX0_context cX0_context 4 (some .int) :: ((wsX0_context_r1 ++ wsX0_context_r2) ++ wsX00)
def wsX0_sees : List Cond := .code yX0_sees cX0_sees 4 (some .boolean) :: ([.fieldLink RX0 22 "DottedSiblings" "written" "[I", .fieldLink RX0 45 "DottedSiblings" "contextSets" "[[J", .methodLink RX0 52 yX0_isClient, .instanceMethod yX0_isClient, .selects RX0 yX0_isClient yX0_isClient, .initialized RX0, .code yX0_isClient cX0_isClient 2 (some .boolean), .fieldLink RX0 19 "DottedSiblings" "clients" "I", .methodLink RX0 55 yX0_isKey, .static yX0_isKey, .code yX0_isKey cX0_isKey 1 (some .boolean), .methodLink RX0 79 yX0_has, .static yX0_has, .code yX0_has cX0_has 3 (some .boolean)] ++ wsX00)
def wsX0_same : List Cond := .code yX0_same cX0_same 4 (some .boolean) :: ([.fieldLink RX0 42 "DottedSiblings" "knownSets" "[[J", .methodLink RX0 48 yX0_isServer, .instanceMethod yX0_isServer, .selects RX0 yX0_isServer yX0_isServer, .initialized RX0, .code yX0_isServer cX0_isServer 2 (some .boolean), .fieldLink RX0 15 "DottedSiblings" "servers" "I", .methodLink RX0 55 yX0_isKey, .static yX0_isKey, .code yX0_isKey cX0_isKey 1 (some .boolean)] ++ wsX00)
def wsX0_weight_r1 : List Cond := [Cond.fieldLink RX0 42 "DottedSiblings" "knownSets" "[[J", Cond.fieldLink RX0 15 "DottedSiblings" "servers" "I", Cond.methodLink RX0 48 yX0_isServer, Cond.instanceMethod yX0_isServer, Cond.selects RX0 yX0_isServer yX0_isServer, Cond.initialized RX0, Cond.code yX0_isServer cX0_isServer 2 (some .boolean), Cond.methodLink RX0 55 yX0_isKey, Cond.static yX0_isKey, Cond.code yX0_isKey cX0_isKey 1 (some .boolean), Cond.methodLink RX0 72 yX0_vectorAt, Cond.instanceMethod yX0_vectorAt, Cond.selects RX0 yX0_vectorAt yX0_vectorAt, Cond.code yX0_vectorAt cX0_vectorAt 7 (some .int), Cond.fieldLink RX0 22 "DottedSiblings" "written" "[I", Cond.fieldLink RX0 31 "DottedSiblings" "makers" "[[I", Cond.fieldLink RX0 34 "DottedSiblings" "counters" "[[I", Cond.methodLink RX0 85 Lib.Math.max.name, Cond.static Lib.Math.max.name, Cond.initialized "java/lang/Math", Cond.code Lib.Math.max.name Lib.Math.max.code 2 (some .int), Cond.methodLink RX0 79 yX0_has, Cond.static yX0_has, Cond.code yX0_has cX0_has 3 (some .boolean)]
def wsX0_weight_r2 : List Cond := [Cond.methodLink RX0 58 yX0_greatestOf, Cond.instanceMethod yX0_greatestOf, Cond.selects RX0 yX0_greatestOf yX0_greatestOf, Cond.code yX0_greatestOf cX0_greatestOf 7 (some .long), Cond.fieldLink RX0 39 "DottedSiblings" "pasts" "[[J", Cond.constantLong RX0 83 (-1), Cond.methodLink RX0 62 yJ13_bitCount_95d88, Cond.static yJ13_bitCount_95d88, Cond.initialized RJ13, Cond.code yJ13_bitCount_95d88 cJ13_bitCount_95d88 2 (some .int), Cond.constantLong RJ13 314 (6148914691236517205), Cond.constantLong RJ13 316 (3689348814741910323), Cond.constantLong RJ13 318 (1085102592571150095)]
def wsX0_weight : List Cond := .code yX0_weight cX0_weight 7 (some .int) :: ((wsX0_weight_r1 ++ wsX0_weight_r2) ++ wsX00)
def wsX1_init : List Cond := .code yX1_init cX1_init 3 none :: ([.methodLink RX1 1 objectInit, .instanceMethod objectInit, .code objectInit ⟨#[0xb1]⟩ 1 none, .arrayClass .int, .fieldLink RX1 7 "DottedSiblingsModel" "counts" "[I", .fieldLink RX1 13 "DottedSiblingsModel" "values" "[I", .fieldLink RX1 16 "DottedSiblingsModel" "made" "[I", .fieldLink RX1 19 "DottedSiblingsModel" "counters" "[I", .arrayClass .long, .fieldLink RX1 22 "DottedSiblingsModel" "pasts" "[J", .fieldLink RX1 26 "DottedSiblingsModel" "known" "[J", .fieldLink RX1 29 "DottedSiblingsModel" "contexts" "[J", .fieldLink RX1 32 "DottedSiblingsModel" "reads" "[J", .fieldLink RX1 35 "DottedSiblingsModel" "servers" "I", .fieldLink RX1 39 "DottedSiblingsModel" "clients" "I"] ++ wsX10)
def wsX1_isServer : List Cond := .code yX1_isServer cX1_isServer 2 (some .boolean) :: ([.fieldLink RX1 35 "DottedSiblingsModel" "servers" "I"] ++ wsX10)
def wsX1_isClient : List Cond := .code yX1_isClient cX1_isClient 2 (some .boolean) :: ([.fieldLink RX1 39 "DottedSiblingsModel" "clients" "I"] ++ wsX10)
def wsX1_isKey : List Cond := .code yX1_isKey cX1_isKey 1 (some .boolean) :: ([])
def wsX1_newest : List Cond := .code yX1_newest cX1_newest 7 (some .long) :: ([.fieldLink RX1 7 "DottedSiblingsModel" "counts" "[I", .fieldLink RX1 22 "DottedSiblingsModel" "pasts" "[J", .constantLong RX1 42 (-1)] ++ wsX10)
def wsX1_sizeOf : List Cond := .code yX1_sizeOf cX1_sizeOf 4 (some .int) :: ([])
def wsX1_at : List Cond := .code yX1_at cX1_at 8 (some .int) :: ([.fieldLink RX1 35 "DottedSiblingsModel" "servers" "I", .fieldLink RX1 7 "DottedSiblingsModel" "counts" "[I", .fieldLink RX1 16 "DottedSiblingsModel" "made" "[I"] ++ wsX10)
def wsX1_get_r1 : List Cond := [Cond.fieldLink RX1 29 "DottedSiblingsModel" "contexts" "[J", Cond.fieldLink RX1 26 "DottedSiblingsModel" "known" "[J", Cond.fieldLink RX1 32 "DottedSiblingsModel" "reads" "[J", Cond.methodLink RX1 44 yX1_isServer, Cond.instanceMethod yX1_isServer, Cond.selects RX1 yX1_isServer yX1_isServer, Cond.initialized RX1, Cond.code yX1_isServer cX1_isServer 2 (some .boolean), Cond.fieldLink RX1 35 "DottedSiblingsModel" "servers" "I", Cond.methodLink RX1 48 yX1_isClient, Cond.instanceMethod yX1_isClient, Cond.selects RX1 yX1_isClient yX1_isClient, Cond.code yX1_isClient cX1_isClient 2 (some .boolean), Cond.fieldLink RX1 39 "DottedSiblingsModel" "clients" "I", Cond.methodLink RX1 51 yX1_isKey, Cond.static yX1_isKey, Cond.code yX1_isKey cX1_isKey 1 (some .boolean), Cond.methodLink RX1 54 yX1_newest, Cond.instanceMethod yX1_newest, Cond.selects RX1 yX1_newest yX1_newest, Cond.code yX1_newest cX1_newest 7 (some .long), Cond.fieldLink RX1 7 "DottedSiblingsModel" "counts" "[I", Cond.fieldLink RX1 22 "DottedSiblingsModel" "pasts" "[J", Cond.constantLong RX1 42 (-1)]
def wsX1_get_r2 : List Cond := [Cond.methodLink RX1 58 yX1_sizeOf, Cond.static yX1_sizeOf, Cond.code yX1_sizeOf cX1_sizeOf 4 (some .int)]
def wsX1_get : List Cond := .code yX1_get cX1_get 4 (some .int) :: ((wsX1_get_r1 ++ wsX1_get_r2) ++ wsX10)
def wsX1_read : List Cond := .code yX1_read cX1_read 5 (some .long) :: ([.constantLong RX1 62 (-9223372036854775808), .fieldLink RX1 32 "DottedSiblingsModel" "reads" "[J", .fieldLink RX1 13 "DottedSiblingsModel" "values" "[I", .methodLink RX1 48 yX1_isClient, .instanceMethod yX1_isClient, .selects RX1 yX1_isClient yX1_isClient, .initialized RX1, .code yX1_isClient cX1_isClient 2 (some .boolean), .fieldLink RX1 39 "DottedSiblingsModel" "clients" "I", .methodLink RX1 51 yX1_isKey, .static yX1_isKey, .code yX1_isKey cX1_isKey 1 (some .boolean), .methodLink RX1 64 yX1_at, .instanceMethod yX1_at, .selects RX1 yX1_at yX1_at, .code yX1_at cX1_at 8 (some .int), .fieldLink RX1 35 "DottedSiblingsModel" "servers" "I", .fieldLink RX1 7 "DottedSiblingsModel" "counts" "[I", .fieldLink RX1 16 "DottedSiblingsModel" "made" "[I"] ++ wsX10)
def wsX1_put : List Cond := .code yX1_put cX1_put 8 (some .int) :: ([.fieldLink RX1 7 "DottedSiblingsModel" "counts" "[I", .fieldLink RX1 16 "DottedSiblingsModel" "made" "[I", .fieldLink RX1 13 "DottedSiblingsModel" "values" "[I", .fieldLink RX1 19 "DottedSiblingsModel" "counters" "[I", .fieldLink RX1 22 "DottedSiblingsModel" "pasts" "[J", .fieldLink RX1 29 "DottedSiblingsModel" "contexts" "[J", .fieldLink RX1 26 "DottedSiblingsModel" "known" "[J", .methodLink RX1 44 yX1_isServer, .instanceMethod yX1_isServer, .selects RX1 yX1_isServer yX1_isServer, .initialized RX1, .code yX1_isServer cX1_isServer 2 (some .boolean), .fieldLink RX1 35 "DottedSiblingsModel" "servers" "I", .methodLink RX1 48 yX1_isClient, .instanceMethod yX1_isClient, .selects RX1 yX1_isClient yX1_isClient, .code yX1_isClient cX1_isClient 2 (some .boolean), .fieldLink RX1 39 "DottedSiblingsModel" "clients" "I", .methodLink RX1 51 yX1_isKey, .static yX1_isKey, .code yX1_isKey cX1_isKey 1 (some .boolean)] ++ wsX10)
def wsX1_sync : List Cond := .code yX1_sync cX1_sync 4 (some .boolean) :: ([.fieldLink RX1 26 "DottedSiblingsModel" "known" "[J", .methodLink RX1 44 yX1_isServer, .instanceMethod yX1_isServer, .selects RX1 yX1_isServer yX1_isServer, .initialized RX1, .code yX1_isServer cX1_isServer 2 (some .boolean), .fieldLink RX1 35 "DottedSiblingsModel" "servers" "I", .methodLink RX1 51 yX1_isKey, .static yX1_isKey, .code yX1_isKey cX1_isKey 1 (some .boolean)] ++ wsX10)
def wsX1_forget : List Cond := .code yX1_forget cX1_forget 3 (some .boolean) :: ([.fieldLink RX1 29 "DottedSiblingsModel" "contexts" "[J", .fieldLink RX1 32 "DottedSiblingsModel" "reads" "[J", .methodLink RX1 48 yX1_isClient, .instanceMethod yX1_isClient, .selects RX1 yX1_isClient yX1_isClient, .initialized RX1, .code yX1_isClient cX1_isClient 2 (some .boolean), .fieldLink RX1 39 "DottedSiblingsModel" "clients" "I", .methodLink RX1 51 yX1_isKey, .static yX1_isKey, .code yX1_isKey cX1_isKey 1 (some .boolean)] ++ wsX10)
def wsX1_siblings : List Cond := .code yX1_siblings cX1_siblings 3 (some .int) :: ([.fieldLink RX1 26 "DottedSiblingsModel" "known" "[J", .methodLink RX1 44 yX1_isServer, .instanceMethod yX1_isServer, .selects RX1 yX1_isServer yX1_isServer, .initialized RX1, .code yX1_isServer cX1_isServer 2 (some .boolean), .fieldLink RX1 35 "DottedSiblingsModel" "servers" "I", .methodLink RX1 51 yX1_isKey, .static yX1_isKey, .code yX1_isKey cX1_isKey 1 (some .boolean), .methodLink RX1 54 yX1_newest, .instanceMethod yX1_newest, .selects RX1 yX1_newest yX1_newest, .code yX1_newest cX1_newest 7 (some .long), .fieldLink RX1 7 "DottedSiblingsModel" "counts" "[I", .fieldLink RX1 22 "DottedSiblingsModel" "pasts" "[J", .constantLong RX1 42 (-1), .methodLink RX1 58 yX1_sizeOf, .static yX1_sizeOf, .code yX1_sizeOf cX1_sizeOf 4 (some .int)] ++ wsX10)
def wsX1_sibling_r1 : List Cond := [Cond.constantLong RX1 62 (-9223372036854775808), Cond.fieldLink RX1 26 "DottedSiblingsModel" "known" "[J", Cond.fieldLink RX1 13 "DottedSiblingsModel" "values" "[I", Cond.fieldLink RX1 16 "DottedSiblingsModel" "made" "[I", Cond.fieldLink RX1 19 "DottedSiblingsModel" "counters" "[I", Cond.methodLink RX1 44 yX1_isServer, Cond.instanceMethod yX1_isServer, Cond.selects RX1 yX1_isServer yX1_isServer, Cond.initialized RX1, Cond.code yX1_isServer cX1_isServer 2 (some .boolean), Cond.fieldLink RX1 35 "DottedSiblingsModel" "servers" "I", Cond.methodLink RX1 51 yX1_isKey, Cond.static yX1_isKey, Cond.code yX1_isKey cX1_isKey 1 (some .boolean), Cond.methodLink RX1 54 yX1_newest, Cond.instanceMethod yX1_newest, Cond.selects RX1 yX1_newest yX1_newest, Cond.code yX1_newest cX1_newest 7 (some .long), Cond.fieldLink RX1 7 "DottedSiblingsModel" "counts" "[I", Cond.fieldLink RX1 22 "DottedSiblingsModel" "pasts" "[J", Cond.constantLong RX1 42 (-1), Cond.methodLink RX1 64 yX1_at, Cond.instanceMethod yX1_at, Cond.selects RX1 yX1_at yX1_at]
def wsX1_sibling_r2 : List Cond := [Cond.code yX1_at cX1_at 8 (some .int)]
def wsX1_sibling : List Cond := .code yX1_sibling cX1_sibling 6 (some .long) :: ((wsX1_sibling_r1 ++ wsX1_sibling_r2) ++ wsX10)
def wsX1_vector : List Cond := .code yX1_vector cX1_vector 8 (some .int) :: ([.fieldLink RX1 7 "DottedSiblingsModel" "counts" "[I", .fieldLink RX1 16 "DottedSiblingsModel" "made" "[I", .fieldLink RX1 19 "DottedSiblingsModel" "counters" "[I"] ++ wsX10)
def wsX1_known : List Cond := .code yX1_known cX1_known 4 (some .int) :: ([.fieldLink RX1 26 "DottedSiblingsModel" "known" "[J", .methodLink RX1 44 yX1_isServer, .instanceMethod yX1_isServer, .selects RX1 yX1_isServer yX1_isServer, .initialized RX1, .code yX1_isServer cX1_isServer 2 (some .boolean), .fieldLink RX1 35 "DottedSiblingsModel" "servers" "I", .methodLink RX1 51 yX1_isKey, .static yX1_isKey, .code yX1_isKey cX1_isKey 1 (some .boolean), .methodLink RX1 68 yX1_vector, .instanceMethod yX1_vector, .selects RX1 yX1_vector yX1_vector, .code yX1_vector cX1_vector 8 (some .int), .fieldLink RX1 7 "DottedSiblingsModel" "counts" "[I", .fieldLink RX1 16 "DottedSiblingsModel" "made" "[I", .fieldLink RX1 19 "DottedSiblingsModel" "counters" "[I"] ++ wsX10)
def wsX1_context : List Cond := .code yX1_context cX1_context 4 (some .int) :: ([.fieldLink RX1 29 "DottedSiblingsModel" "contexts" "[J", .methodLink RX1 48 yX1_isClient, .instanceMethod yX1_isClient, .selects RX1 yX1_isClient yX1_isClient, .initialized RX1, .code yX1_isClient cX1_isClient 2 (some .boolean), .fieldLink RX1 39 "DottedSiblingsModel" "clients" "I", .methodLink RX1 51 yX1_isKey, .static yX1_isKey, .code yX1_isKey cX1_isKey 1 (some .boolean), .methodLink RX1 44 yX1_isServer, .instanceMethod yX1_isServer, .selects RX1 yX1_isServer yX1_isServer, .code yX1_isServer cX1_isServer 2 (some .boolean), .fieldLink RX1 35 "DottedSiblingsModel" "servers" "I", .methodLink RX1 68 yX1_vector, .instanceMethod yX1_vector, .selects RX1 yX1_vector yX1_vector, .code yX1_vector cX1_vector 8 (some .int), .fieldLink RX1 7 "DottedSiblingsModel" "counts" "[I", .fieldLink RX1 16 "DottedSiblingsModel" "made" "[I", .fieldLink RX1 19 "DottedSiblingsModel" "counters" "[I"] ++ wsX10)
def wsX1_sees : List Cond := .code yX1_sees cX1_sees 4 (some .boolean) :: ([.fieldLink RX1 7 "DottedSiblingsModel" "counts" "[I", .fieldLink RX1 29 "DottedSiblingsModel" "contexts" "[J", .methodLink RX1 48 yX1_isClient, .instanceMethod yX1_isClient, .selects RX1 yX1_isClient yX1_isClient, .initialized RX1, .code yX1_isClient cX1_isClient 2 (some .boolean), .fieldLink RX1 39 "DottedSiblingsModel" "clients" "I", .methodLink RX1 51 yX1_isKey, .static yX1_isKey, .code yX1_isKey cX1_isKey 1 (some .boolean)] ++ wsX10)
def wsX1_same : List Cond := .code yX1_same cX1_same 4 (some .boolean) :: ([.fieldLink RX1 26 "DottedSiblingsModel" "known" "[J", .methodLink RX1 44 yX1_isServer, .instanceMethod yX1_isServer, .selects RX1 yX1_isServer yX1_isServer, .initialized RX1, .code yX1_isServer cX1_isServer 2 (some .boolean), .fieldLink RX1 35 "DottedSiblingsModel" "servers" "I", .methodLink RX1 51 yX1_isKey, .static yX1_isKey, .code yX1_isKey cX1_isKey 1 (some .boolean)] ++ wsX10)
def wsX1_weight_r1 : List Cond := [Cond.fieldLink RX1 35 "DottedSiblingsModel" "servers" "I", Cond.methodLink RX1 44 yX1_isServer, Cond.instanceMethod yX1_isServer, Cond.selects RX1 yX1_isServer yX1_isServer, Cond.initialized RX1, Cond.code yX1_isServer cX1_isServer 2 (some .boolean), Cond.methodLink RX1 51 yX1_isKey, Cond.static yX1_isKey, Cond.code yX1_isKey cX1_isKey 1 (some .boolean), Cond.methodLink RX1 71 yX1_siblings, Cond.instanceMethod yX1_siblings, Cond.selects RX1 yX1_siblings yX1_siblings, Cond.code yX1_siblings cX1_siblings 3 (some .int), Cond.fieldLink RX1 26 "DottedSiblingsModel" "known" "[J", Cond.methodLink RX1 54 yX1_newest, Cond.instanceMethod yX1_newest, Cond.selects RX1 yX1_newest yX1_newest, Cond.code yX1_newest cX1_newest 7 (some .long), Cond.fieldLink RX1 7 "DottedSiblingsModel" "counts" "[I", Cond.fieldLink RX1 22 "DottedSiblingsModel" "pasts" "[J", Cond.constantLong RX1 42 (-1), Cond.methodLink RX1 58 yX1_sizeOf, Cond.static yX1_sizeOf, Cond.code yX1_sizeOf cX1_sizeOf 4 (some .int)]
def wsX1_weight_r2 : List Cond := [Cond.methodLink RX1 75 yX1_known, Cond.instanceMethod yX1_known, Cond.selects RX1 yX1_known yX1_known, Cond.code yX1_known cX1_known 4 (some .int), Cond.methodLink RX1 68 yX1_vector, Cond.instanceMethod yX1_vector, Cond.selects RX1 yX1_vector yX1_vector, Cond.code yX1_vector cX1_vector 8 (some .int), Cond.fieldLink RX1 16 "DottedSiblingsModel" "made" "[I", Cond.fieldLink RX1 19 "DottedSiblingsModel" "counters" "[I"]
def wsX1_weight : List Cond := .code yX1_weight cX1_weight 5 (some .int) :: ((wsX1_weight_r1 ++ wsX1_weight_r2) ++ wsX10)
def wsJ9_max_7cf53 : List Cond := .code yJ9_max_7cf53 cJ9_max_7cf53 2 (some .int) :: ([])
def wsL_cell : List Cond := .code yL_cell cL_cell 2 (some .int) :: ([])
def wsL_law_r1 : List Cond := [Cond.classLink RL 7 RX0, Cond.instantiable RX0 9, Cond.initialized RX0, Cond.classLink RL 18 RX1, Cond.instantiable RX1 10, Cond.initialized RX1, Cond.methodLink RL 9 yL_cell, Cond.static yL_cell, Cond.initialized RL, Cond.code yL_cell cL_cell 2 (some .int), Cond.methodLink RL 15 yX0_init, Cond.instanceMethod yX0_init, Cond.code yX0_init cX0_init 3 none, Cond.methodLink RX0 3 objectInit, Cond.instanceMethod objectInit, Cond.code objectInit ⟨#[0xb1]⟩ 1 none, Cond.fieldLink RX0 15 "DottedSiblings" "servers" "I", Cond.fieldLink RX0 19 "DottedSiblings" "clients" "I", Cond.arrayClass .int, Cond.fieldLink RX0 22 "DottedSiblings" "written" "[I", Cond.classLink RX0 26 "[[I", Cond.fieldLink RX0 28 "DottedSiblings" "values" "[[I", Cond.fieldLink RX0 31 "DottedSiblings" "makers" "[[I", Cond.fieldLink RX0 34 "DottedSiblings" "counters" "[[I"]
def wsL_law_r2 : List Cond := [Cond.classLink RX0 37 "[[J", Cond.arrayClass .long, Cond.fieldLink RX0 39 "DottedSiblings" "pasts" "[[J", Cond.fieldLink RX0 42 "DottedSiblings" "knownSets" "[[J", Cond.fieldLink RX0 45 "DottedSiblings" "contextSets" "[[J", Cond.methodLink RX0 9 yX0_allowedParties, Cond.static yX0_allowedParties, Cond.code yX0_allowedParties cX0_allowedParties 1 (some .int), Cond.methodLink RL 20 yX1_init, Cond.instanceMethod yX1_init, Cond.code yX1_init cX1_init 3 none, Cond.methodLink RX1 1 objectInit, Cond.fieldLink RX1 7 "DottedSiblingsModel" "counts" "[I", Cond.fieldLink RX1 13 "DottedSiblingsModel" "values" "[I", Cond.fieldLink RX1 16 "DottedSiblingsModel" "made" "[I", Cond.fieldLink RX1 19 "DottedSiblingsModel" "counters" "[I", Cond.fieldLink RX1 22 "DottedSiblingsModel" "pasts" "[J", Cond.fieldLink RX1 26 "DottedSiblingsModel" "known" "[J", Cond.fieldLink RX1 29 "DottedSiblingsModel" "contexts" "[J", Cond.fieldLink RX1 32 "DottedSiblingsModel" "reads" "[J", Cond.fieldLink RX1 35 "DottedSiblingsModel" "servers" "I", Cond.fieldLink RX1 39 "DottedSiblingsModel" "clients" "I", Cond.methodLink RL 21 yX0_get, Cond.instanceMethod yX0_get]
def wsL_law_r3 : List Cond := [Cond.selects RX0 yX0_get yX0_get, Cond.code yX0_get cX0_get 4 (some .int), Cond.methodLink RX0 48 yX0_isServer, Cond.instanceMethod yX0_isServer, Cond.selects RX0 yX0_isServer yX0_isServer, Cond.code yX0_isServer cX0_isServer 2 (some .boolean), Cond.methodLink RX0 52 yX0_isClient, Cond.instanceMethod yX0_isClient, Cond.selects RX0 yX0_isClient yX0_isClient, Cond.code yX0_isClient cX0_isClient 2 (some .boolean), Cond.methodLink RX0 55 yX0_isKey, Cond.static yX0_isKey, Cond.code yX0_isKey cX0_isKey 1 (some .boolean), Cond.methodLink RX0 58 yX0_greatestOf, Cond.instanceMethod yX0_greatestOf, Cond.selects RX0 yX0_greatestOf yX0_greatestOf, Cond.code yX0_greatestOf cX0_greatestOf 7 (some .long), Cond.constantLong RX0 83 (-1), Cond.methodLink RX0 79 yX0_has, Cond.static yX0_has, Cond.code yX0_has cX0_has 3 (some .boolean), Cond.methodLink RX0 62 yJ13_bitCount_95d88, Cond.static yJ13_bitCount_95d88, Cond.initialized RJ13]
def wsL_law_r4 : List Cond := [Cond.code yJ13_bitCount_95d88 cJ13_bitCount_95d88 2 (some .int), Cond.constantLong RJ13 314 (6148914691236517205), Cond.constantLong RJ13 316 (3689348814741910323), Cond.constantLong RJ13 318 (1085102592571150095), Cond.methodLink RL 25 yX1_get, Cond.instanceMethod yX1_get, Cond.selects RX1 yX1_get yX1_get, Cond.code yX1_get cX1_get 4 (some .int), Cond.methodLink RX1 44 yX1_isServer, Cond.instanceMethod yX1_isServer, Cond.selects RX1 yX1_isServer yX1_isServer, Cond.code yX1_isServer cX1_isServer 2 (some .boolean), Cond.methodLink RX1 48 yX1_isClient, Cond.instanceMethod yX1_isClient, Cond.selects RX1 yX1_isClient yX1_isClient, Cond.code yX1_isClient cX1_isClient 2 (some .boolean), Cond.methodLink RX1 51 yX1_isKey, Cond.static yX1_isKey, Cond.code yX1_isKey cX1_isKey 1 (some .boolean), Cond.methodLink RX1 54 yX1_newest, Cond.instanceMethod yX1_newest, Cond.selects RX1 yX1_newest yX1_newest, Cond.code yX1_newest cX1_newest 7 (some .long), Cond.constantLong RX1 42 (-1)]
def wsL_law_r5 : List Cond := [Cond.methodLink RX1 58 yX1_sizeOf, Cond.static yX1_sizeOf, Cond.code yX1_sizeOf cX1_sizeOf 4 (some .int), Cond.methodLink RL 26 yX0_read, Cond.instanceMethod yX0_read, Cond.selects RX0 yX0_read yX0_read, Cond.code yX0_read cX0_read 5 (some .long), Cond.constantLong RX0 66 (-9223372036854775808), Cond.methodLink RX0 68 yX0_siblingAt, Cond.instanceMethod yX0_siblingAt, Cond.selects RX0 yX0_siblingAt yX0_siblingAt, Cond.code yX0_siblingAt cX0_siblingAt 10 (some .int), Cond.methodLink RL 30 yX1_read, Cond.instanceMethod yX1_read, Cond.selects RX1 yX1_read yX1_read, Cond.code yX1_read cX1_read 5 (some .long), Cond.constantLong RX1 62 (-9223372036854775808), Cond.methodLink RX1 64 yX1_at, Cond.instanceMethod yX1_at, Cond.selects RX1 yX1_at yX1_at, Cond.code yX1_at cX1_at 8 (some .int), Cond.methodLink RL 31 yX0_put, Cond.instanceMethod yX0_put, Cond.selects RX0 yX0_put yX0_put]
def wsL_law_r6 : List Cond := [Cond.code yX0_put cX0_put 8 (some .int), Cond.methodLink RX0 72 yX0_vectorAt, Cond.instanceMethod yX0_vectorAt, Cond.selects RX0 yX0_vectorAt yX0_vectorAt, Cond.code yX0_vectorAt cX0_vectorAt 7 (some .int), Cond.methodLink RX0 85 Lib.Math.max.name, Cond.static Lib.Math.max.name, Cond.initialized "java/lang/Math", Cond.code Lib.Math.max.name Lib.Math.max.code 2 (some .int), Cond.methodLink RL 35 yX1_put, Cond.instanceMethod yX1_put, Cond.selects RX1 yX1_put yX1_put, Cond.code yX1_put cX1_put 8 (some .int), Cond.methodLink RL 36 yX0_sync, Cond.instanceMethod yX0_sync, Cond.selects RX0 yX0_sync yX0_sync, Cond.code yX0_sync cX0_sync 6 (some .boolean), Cond.methodLink RL 40 yX1_sync, Cond.instanceMethod yX1_sync, Cond.selects RX1 yX1_sync yX1_sync, Cond.code yX1_sync cX1_sync 4 (some .boolean), Cond.methodLink RL 41 yX0_forget, Cond.instanceMethod yX0_forget, Cond.selects RX0 yX0_forget yX0_forget]
def wsL_law_r7 : List Cond := [Cond.code yX0_forget cX0_forget 3 (some .boolean), Cond.methodLink RL 45 yX1_forget, Cond.instanceMethod yX1_forget, Cond.selects RX1 yX1_forget yX1_forget, Cond.code yX1_forget cX1_forget 3 (some .boolean), Cond.methodLink RL 46 yX0_siblings, Cond.instanceMethod yX0_siblings, Cond.selects RX0 yX0_siblings yX0_siblings, Cond.code yX0_siblings cX0_siblings 3 (some .int), Cond.methodLink RL 50 yX1_siblings, Cond.instanceMethod yX1_siblings, Cond.selects RX1 yX1_siblings yX1_siblings, Cond.code yX1_siblings cX1_siblings 3 (some .int), Cond.methodLink RL 51 yX0_sibling, Cond.instanceMethod yX0_sibling, Cond.selects RX0 yX0_sibling yX0_sibling, Cond.code yX0_sibling cX0_sibling 6 (some .long), Cond.methodLink RX0 75 yX0_detailOf, Cond.instanceMethod yX0_detailOf, Cond.selects RX0 yX0_detailOf yX0_detailOf, Cond.code yX0_detailOf cX0_detailOf 4 (some .long), Cond.methodLink RL 55 yX1_sibling, Cond.instanceMethod yX1_sibling, Cond.selects RX1 yX1_sibling yX1_sibling]
def wsL_law_r8 : List Cond := [Cond.code yX1_sibling cX1_sibling 6 (some .long), Cond.methodLink RL 56 yX0_known, Cond.instanceMethod yX0_known, Cond.selects RX0 yX0_known yX0_known, Cond.code yX0_known cX0_known 4 (some .int), Cond.methodLink RL 59 yX1_known, Cond.instanceMethod yX1_known, Cond.selects RX1 yX1_known yX1_known, Cond.code yX1_known cX1_known 4 (some .int), Cond.methodLink RX1 68 yX1_vector, Cond.instanceMethod yX1_vector, Cond.selects RX1 yX1_vector yX1_vector, Cond.code yX1_vector cX1_vector 8 (some .int), Cond.methodLink RL 60 yX0_context, Cond.instanceMethod yX0_context, Cond.selects RX0 yX0_context yX0_context, Cond.code yX0_context cX0_context 4 (some .int), Cond.methodLink RL 63 yX1_context, Cond.instanceMethod yX1_context, Cond.selects RX1 yX1_context yX1_context, Cond.code yX1_context cX1_context 4 (some .int), Cond.methodLink RL 64 yX0_sees, Cond.instanceMethod yX0_sees, Cond.selects RX0 yX0_sees yX0_sees]
def wsL_law_r9 : List Cond := [Cond.code yX0_sees cX0_sees 4 (some .boolean), Cond.methodLink RL 67 yX1_sees, Cond.instanceMethod yX1_sees, Cond.selects RX1 yX1_sees yX1_sees, Cond.code yX1_sees cX1_sees 4 (some .boolean), Cond.methodLink RL 68 yX0_same, Cond.instanceMethod yX0_same, Cond.selects RX0 yX0_same yX0_same, Cond.code yX0_same cX0_same 4 (some .boolean), Cond.methodLink RL 71 yX1_same, Cond.instanceMethod yX1_same, Cond.selects RX1 yX1_same yX1_same, Cond.code yX1_same cX1_same 4 (some .boolean), Cond.methodLink RL 72 yX0_weight, Cond.instanceMethod yX0_weight, Cond.selects RX0 yX0_weight yX0_weight, Cond.code yX0_weight cX0_weight 7 (some .int), Cond.methodLink RL 75 yX1_weight, Cond.instanceMethod yX1_weight, Cond.selects RX1 yX1_weight yX1_weight, Cond.code yX1_weight cX1_weight 5 (some .int), Cond.methodLink RX1 71 yX1_siblings, Cond.methodLink RX1 75 yX1_known]
def wsL_law : List Cond := (wsL_law_r1 ++ (wsL_law_r2 ++ (wsL_law_r3 ++ (wsL_law_r4 ++ (wsL_law_r5 ++ (wsL_law_r6 ++ (wsL_law_r7 ++ (wsL_law_r8 ++ wsL_law_r9)))))))) ++ wsX00 ++ wsX10 ++ ([] : List Cond)
set_option maxRecDepth 20000 in
theorem wsL_law_in : ∀ w ∈ wsL_law, w ∈ lw_tbl := fun w h => (goodIn_p wsL_law [152, 20, 23, 26, 157, 64, 68, 72, 75, 79, 82, 86, 193, 197, 201, 204, 208, 212, 93, 98, 216, 221, 102, 106, 109, 225, 113, 229, 117, 233, 121, 237, 125, 129, 241, 133, 245, 249, 137, 253, 141, 257, 145, 261, 149, 265] (by decide +kernel) (by decide +kernel) w h).1
theorem inlX0 : ∀ w ∈ wsX00, w ∈ wsL_law := fun _ h => List.mem_append_left _ (List.mem_append_left _ (List.mem_append_right _ h))
theorem inX0 : ∀ w ∈ wsX00, w ∈ lw_tbl := fun w h => wsL_law_in w (inlX0 w h)
theorem inlX1 : ∀ w ∈ wsX10, w ∈ wsL_law := fun _ h => List.mem_append_left _ (List.mem_append_right _ h)
theorem inX1 : ∀ w ∈ wsX10, w ∈ lw_tbl := fun w h => wsL_law_in w (inlX1 w h)
theorem inJ13 : ∀ w ∈ wsJ130, w ∈ lw_tbl := by decide +kernel
theorem inJ9 : ∀ w ∈ wsJ90, w ∈ lw_tbl := by decide +kernel
set_option maxRecDepth 20000 in
theorem ggX0_init_X0_allowedParties : GoodIn wsX0_init wsX0_allowedParties := goodIn_r _ [20] (by decide +kernel) (by decide +kernel)
set_option maxRecDepth 20000 in
theorem gX0_init_X0_allowedParties : GoodIn wsX0_init (va_wsS RX0 9 yX0_allowedParties wsX0_allowedParties) := goodIn_app (goodIn_of _ (by decide +kernel)) ggX0_init_X0_allowedParties
theorem dX0_init_0 : decode cX0_init 0 = .ok (.aload_n 0, 1) := by decide +kernel
theorem dX0_init_1 : decode cX0_init 1 = .ok (.invokespecial 3, 3) := by decide +kernel
theorem dX0_init_4 : decode cX0_init 4 = .ok (.aload_n 0, 1) := by decide +kernel
theorem dX0_init_5 : decode cX0_init 5 = .ok (.iload_n 1, 1) := by decide +kernel
theorem dX0_init_6 : decode cX0_init 6 = .ok (.invokestatic 9, 3) := by decide +kernel
theorem dX0_init_9 : decode cX0_init 9 = .ok (.putfield 15, 3) := by decide +kernel
theorem dX0_init_12 : decode cX0_init 12 = .ok (.aload_n 0, 1) := by decide +kernel
theorem dX0_init_13 : decode cX0_init 13 = .ok (.iload_n 2, 1) := by decide +kernel
theorem dX0_init_14 : decode cX0_init 14 = .ok (.invokestatic 9, 3) := by decide +kernel
theorem dX0_init_17 : decode cX0_init 17 = .ok (.putfield 19, 3) := by decide +kernel
theorem dX0_init_20 : decode cX0_init 20 = .ok (.aload_n 0, 1) := by decide +kernel
theorem dX0_init_21 : decode cX0_init 21 = .ok (.iconst 3, 1) := by decide +kernel
theorem dX0_init_22 : decode cX0_init 22 = .ok (.newarray .int, 2) := by decide +kernel
theorem dX0_init_24 : decode cX0_init 24 = .ok (.putfield 22, 3) := by decide +kernel
theorem dX0_init_27 : decode cX0_init 27 = .ok (.aload_n 0, 1) := by decide +kernel
theorem dX0_init_28 : decode cX0_init 28 = .ok (.iconst 3, 1) := by decide +kernel
theorem dX0_init_29 : decode cX0_init 29 = .ok (.bipush 40, 2) := by decide +kernel
theorem dX0_init_31 : decode cX0_init 31 = .ok (.multianewarray 26 2, 4) := by decide +kernel
theorem dX0_init_35 : decode cX0_init 35 = .ok (.putfield 28, 3) := by decide +kernel
theorem dX0_init_38 : decode cX0_init 38 = .ok (.aload_n 0, 1) := by decide +kernel
theorem dX0_init_39 : decode cX0_init 39 = .ok (.iconst 3, 1) := by decide +kernel
theorem dX0_init_40 : decode cX0_init 40 = .ok (.bipush 40, 2) := by decide +kernel
theorem dX0_init_42 : decode cX0_init 42 = .ok (.multianewarray 26 2, 4) := by decide +kernel
theorem dX0_init_46 : decode cX0_init 46 = .ok (.putfield 31, 3) := by decide +kernel
theorem dX0_init_49 : decode cX0_init 49 = .ok (.aload_n 0, 1) := by decide +kernel
theorem dX0_init_50 : decode cX0_init 50 = .ok (.iconst 3, 1) := by decide +kernel
theorem dX0_init_51 : decode cX0_init 51 = .ok (.bipush 40, 2) := by decide +kernel
theorem dX0_init_53 : decode cX0_init 53 = .ok (.multianewarray 26 2, 4) := by decide +kernel
theorem dX0_init_57 : decode cX0_init 57 = .ok (.putfield 34, 3) := by decide +kernel
theorem dX0_init_60 : decode cX0_init 60 = .ok (.aload_n 0, 1) := by decide +kernel
theorem dX0_init_61 : decode cX0_init 61 = .ok (.iconst 3, 1) := by decide +kernel
theorem dX0_init_62 : decode cX0_init 62 = .ok (.bipush 40, 2) := by decide +kernel
theorem dX0_init_64 : decode cX0_init 64 = .ok (.multianewarray 37 2, 4) := by decide +kernel
theorem dX0_init_68 : decode cX0_init 68 = .ok (.putfield 39, 3) := by decide +kernel
theorem dX0_init_71 : decode cX0_init 71 = .ok (.aload_n 0, 1) := by decide +kernel
theorem dX0_init_72 : decode cX0_init 72 = .ok (.iconst 3, 1) := by decide +kernel
theorem dX0_init_73 : decode cX0_init 73 = .ok (.aload_n 0, 1) := by decide +kernel
theorem dX0_init_74 : decode cX0_init 74 = .ok (.getfield 15, 3) := by decide +kernel
theorem dX0_init_77 : decode cX0_init 77 = .ok (.multianewarray 37 2, 4) := by decide +kernel
theorem dX0_init_81 : decode cX0_init 81 = .ok (.putfield 42, 3) := by decide +kernel
theorem dX0_init_84 : decode cX0_init 84 = .ok (.aload_n 0, 1) := by decide +kernel
theorem dX0_init_85 : decode cX0_init 85 = .ok (.iconst 3, 1) := by decide +kernel
theorem dX0_init_86 : decode cX0_init 86 = .ok (.aload_n 0, 1) := by decide +kernel
theorem dX0_init_87 : decode cX0_init 87 = .ok (.getfield 19, 3) := by decide +kernel
theorem dX0_init_90 : decode cX0_init 90 = .ok (.multianewarray 37 2, 4) := by decide +kernel
theorem dX0_init_94 : decode cX0_init 94 = .ok (.putfield 45, 3) := by decide +kernel
theorem dX0_init_97 : decode cX0_init 97 = .ok (.return_, 1) := by decide +kernel
set_option maxRecDepth 20000 in
theorem ggX0_get_X0_isServer : GoodIn wsX0_get wsX0_isServer := goodIn_r _ [7, 8, 34, 35, 36, 37, 38, 39, 40, 41, 42] (by decide +kernel) (by decide +kernel)
set_option maxRecDepth 20000 in
theorem gX0_get_X0_isServer : GoodIn wsX0_get (wsV RX0 48 RX0 yX0_isServer wsX0_isServer) := goodIn_app (goodIn_of _ (by decide +kernel)) ggX0_get_X0_isServer
set_option maxRecDepth 20000 in
theorem ggX0_get_X0_isClient : GoodIn wsX0_get wsX0_isClient := goodIn_r _ [12, 13, 34, 35, 36, 37, 38, 39, 40, 41, 42] (by decide +kernel) (by decide +kernel)
set_option maxRecDepth 20000 in
theorem gX0_get_X0_isClient : GoodIn wsX0_get (wsV RX0 52 RX0 yX0_isClient wsX0_isClient) := goodIn_app (goodIn_of _ (by decide +kernel)) ggX0_get_X0_isClient
set_option maxRecDepth 20000 in
theorem ggX0_get_X0_isKey : GoodIn wsX0_get wsX0_isKey := goodIn_r _ [16] (by decide +kernel) (by decide +kernel)
set_option maxRecDepth 20000 in
theorem gX0_get_X0_isKey : GoodIn wsX0_get (va_wsS RX0 55 yX0_isKey wsX0_isKey) := goodIn_app (goodIn_of _ (by decide +kernel)) ggX0_get_X0_isKey
set_option maxRecDepth 20000 in
theorem ggX0_get_X0_greatestOf : GoodIn wsX0_get wsX0_greatestOf := goodIn_r _ [20, 21, 22, 23, 24, 25, 6, 26, 34, 35, 36, 37, 38, 39, 40, 41, 42] (by decide +kernel) (by decide +kernel)
set_option maxRecDepth 20000 in
theorem gX0_get_X0_greatestOf : GoodIn wsX0_get (wsV RX0 58 RX0 yX0_greatestOf wsX0_greatestOf) := goodIn_app (goodIn_of _ (by decide +kernel)) ggX0_get_X0_greatestOf
set_option maxRecDepth 20000 in
theorem ggX0_get_J13_bitCount_95d88 : GoodIn wsX0_get wsJ13_bitCount_95d88 := goodIn_r _ [30, 31, 32, 33] (by decide +kernel) (by decide +kernel)
set_option maxRecDepth 20000 in
theorem gX0_get_J13_bitCount_95d88 : GoodIn wsX0_get (va_wsS RX0 62 yJ13_bitCount_95d88 wsJ13_bitCount_95d88) := goodIn_app (goodIn_of _ (by decide +kernel)) ggX0_get_J13_bitCount_95d88
theorem dX0_get_0 : decode cX0_get 0 = .ok (.aload_n 0, 1) := by decide +kernel
theorem dX0_get_1 : decode cX0_get 1 = .ok (.iload_n 1, 1) := by decide +kernel
theorem dX0_get_2 : decode cX0_get 2 = .ok (.invokevirtual 48, 3) := by decide +kernel
theorem dX0_get_5 : decode cX0_get 5 = .ok (.ifCond .eq 18, 3) := by decide +kernel
theorem dX0_get_8 : decode cX0_get 8 = .ok (.aload_n 0, 1) := by decide +kernel
theorem dX0_get_9 : decode cX0_get 9 = .ok (.iload_n 2, 1) := by decide +kernel
theorem dX0_get_10 : decode cX0_get 10 = .ok (.invokevirtual 52, 3) := by decide +kernel
theorem dX0_get_13 : decode cX0_get 13 = .ok (.ifCond .eq 10, 3) := by decide +kernel
theorem dX0_get_16 : decode cX0_get 16 = .ok (.iload_n 3, 1) := by decide +kernel
theorem dX0_get_17 : decode cX0_get 17 = .ok (.invokestatic 55, 3) := by decide +kernel
theorem dX0_get_20 : decode cX0_get 20 = .ok (.ifCond .ne 5, 3) := by decide +kernel
theorem dX0_get_23 : decode cX0_get 23 = .ok (.iconst (-1), 1) := by decide +kernel
theorem dX0_get_24 : decode cX0_get 24 = .ok (.ireturn, 1) := by decide +kernel
theorem dX0_get_25 : decode cX0_get 25 = .ok (.aload_n 0, 1) := by decide +kernel
theorem dX0_get_26 : decode cX0_get 26 = .ok (.getfield 45, 3) := by decide +kernel
theorem dX0_get_29 : decode cX0_get 29 = .ok (.iload_n 3, 1) := by decide +kernel
theorem dX0_get_30 : decode cX0_get 30 = .ok (.aaload, 1) := by decide +kernel
theorem dX0_get_31 : decode cX0_get 31 = .ok (.iload_n 2, 1) := by decide +kernel
theorem dX0_get_32 : decode cX0_get 32 = .ok (.aload_n 0, 1) := by decide +kernel
theorem dX0_get_33 : decode cX0_get 33 = .ok (.getfield 42, 3) := by decide +kernel
theorem dX0_get_36 : decode cX0_get 36 = .ok (.iload_n 3, 1) := by decide +kernel
theorem dX0_get_37 : decode cX0_get 37 = .ok (.aaload, 1) := by decide +kernel
theorem dX0_get_38 : decode cX0_get 38 = .ok (.iload_n 1, 1) := by decide +kernel
theorem dX0_get_39 : decode cX0_get 39 = .ok (.laload, 1) := by decide +kernel
theorem dX0_get_40 : decode cX0_get 40 = .ok (.lastore, 1) := by decide +kernel
theorem dX0_get_41 : decode cX0_get 41 = .ok (.aload_n 0, 1) := by decide +kernel
theorem dX0_get_42 : decode cX0_get 42 = .ok (.iload_n 3, 1) := by decide +kernel
theorem dX0_get_43 : decode cX0_get 43 = .ok (.aload_n 0, 1) := by decide +kernel
theorem dX0_get_44 : decode cX0_get 44 = .ok (.getfield 42, 3) := by decide +kernel
theorem dX0_get_47 : decode cX0_get 47 = .ok (.iload_n 3, 1) := by decide +kernel
theorem dX0_get_48 : decode cX0_get 48 = .ok (.aaload, 1) := by decide +kernel
theorem dX0_get_49 : decode cX0_get 49 = .ok (.iload_n 1, 1) := by decide +kernel
theorem dX0_get_50 : decode cX0_get 50 = .ok (.laload, 1) := by decide +kernel
theorem dX0_get_51 : decode cX0_get 51 = .ok (.invokevirtual 58, 3) := by decide +kernel
theorem dX0_get_54 : decode cX0_get 54 = .ok (.invokestatic 62, 3) := by decide +kernel
theorem dX0_get_57 : decode cX0_get 57 = .ok (.ireturn, 1) := by decide +kernel
set_option maxRecDepth 20000 in
theorem ggX0_read_X0_isClient : GoodIn wsX0_read wsX0_isClient := goodIn_r _ [8, 9, 29, 30, 31, 32, 33, 34, 35, 36, 37] (by decide +kernel) (by decide +kernel)
set_option maxRecDepth 20000 in
theorem gX0_read_X0_isClient : GoodIn wsX0_read (wsV RX0 52 RX0 yX0_isClient wsX0_isClient) := goodIn_app (goodIn_of _ (by decide +kernel)) ggX0_read_X0_isClient
set_option maxRecDepth 20000 in
theorem ggX0_read_X0_isKey : GoodIn wsX0_read wsX0_isKey := goodIn_r _ [12] (by decide +kernel) (by decide +kernel)
set_option maxRecDepth 20000 in
theorem gX0_read_X0_isKey : GoodIn wsX0_read (va_wsS RX0 55 yX0_isKey wsX0_isKey) := goodIn_app (goodIn_of _ (by decide +kernel)) ggX0_read_X0_isKey
set_option maxRecDepth 20000 in
theorem ggX0_read_X0_siblingAt : GoodIn wsX0_read wsX0_siblingAt := goodIn_r _ [16, 17, 18, 19, 20, 21, 22, 7, 23, 24, 25, 26, 27, 28, 29, 30, 31, 32, 33, 34, 35, 36, 37] (by decide +kernel) (by decide +kernel)
set_option maxRecDepth 20000 in
theorem gX0_read_X0_siblingAt : GoodIn wsX0_read (wsV RX0 68 RX0 yX0_siblingAt wsX0_siblingAt) := goodIn_app (goodIn_of _ (by decide +kernel)) ggX0_read_X0_siblingAt
theorem dX0_read_0 : decode cX0_read 0 = .ok (.aload_n 0, 1) := by decide +kernel
theorem dX0_read_1 : decode cX0_read 1 = .ok (.iload_n 1, 1) := by decide +kernel
theorem dX0_read_2 : decode cX0_read 2 = .ok (.invokevirtual 52, 3) := by decide +kernel
theorem dX0_read_5 : decode cX0_read 5 = .ok (.ifCond .eq 10, 3) := by decide +kernel
theorem dX0_read_8 : decode cX0_read 8 = .ok (.iload_n 2, 1) := by decide +kernel
theorem dX0_read_9 : decode cX0_read 9 = .ok (.invokestatic 55, 3) := by decide +kernel
theorem dX0_read_12 : decode cX0_read 12 = .ok (.ifCond .ne 7, 3) := by decide +kernel
theorem dX0_read_15 : decode cX0_read 15 = .ok (.ldc2_w 66, 3) := by decide +kernel
theorem dX0_read_18 : decode cX0_read 18 = .ok (.lreturn, 1) := by decide +kernel
theorem dX0_read_19 : decode cX0_read 19 = .ok (.aload_n 0, 1) := by decide +kernel
theorem dX0_read_20 : decode cX0_read 20 = .ok (.iload_n 2, 1) := by decide +kernel
theorem dX0_read_21 : decode cX0_read 21 = .ok (.aload_n 0, 1) := by decide +kernel
theorem dX0_read_22 : decode cX0_read 22 = .ok (.getfield 45, 3) := by decide +kernel
theorem dX0_read_25 : decode cX0_read 25 = .ok (.iload_n 2, 1) := by decide +kernel
theorem dX0_read_26 : decode cX0_read 26 = .ok (.aaload, 1) := by decide +kernel
theorem dX0_read_27 : decode cX0_read 27 = .ok (.iload_n 1, 1) := by decide +kernel
theorem dX0_read_28 : decode cX0_read 28 = .ok (.laload, 1) := by decide +kernel
theorem dX0_read_29 : decode cX0_read 29 = .ok (.iload_n 3, 1) := by decide +kernel
theorem dX0_read_30 : decode cX0_read 30 = .ok (.invokevirtual 68, 3) := by decide +kernel
theorem dX0_read_33 : decode cX0_read 33 = .ok (.istore 4, 2) := by decide +kernel
theorem dX0_read_35 : decode cX0_read 35 = .ok (.iload 4, 2) := by decide +kernel
theorem dX0_read_37 : decode cX0_read 37 = .ok (.iconst (-1), 1) := by decide +kernel
theorem dX0_read_38 : decode cX0_read 38 = .ok (.if_icmp .ne 9, 3) := by decide +kernel
theorem dX0_read_41 : decode cX0_read 41 = .ok (.ldc2_w 66, 3) := by decide +kernel
theorem dX0_read_44 : decode cX0_read 44 = .ok (.goto 13, 3) := by decide +kernel
theorem dX0_read_47 : decode cX0_read 47 = .ok (.aload_n 0, 1) := by decide +kernel
theorem dX0_read_48 : decode cX0_read 48 = .ok (.getfield 28, 3) := by decide +kernel
theorem dX0_read_51 : decode cX0_read 51 = .ok (.iload_n 2, 1) := by decide +kernel
theorem dX0_read_52 : decode cX0_read 52 = .ok (.aaload, 1) := by decide +kernel
theorem dX0_read_53 : decode cX0_read 53 = .ok (.iload 4, 2) := by decide +kernel
theorem dX0_read_55 : decode cX0_read 55 = .ok (.iaload, 1) := by decide +kernel
theorem dX0_read_56 : decode cX0_read 56 = .ok (.i2l, 1) := by decide +kernel
theorem dX0_read_57 : decode cX0_read 57 = .ok (.lreturn, 1) := by decide +kernel
set_option maxRecDepth 20000 in
theorem ggX0_put_X0_isServer : GoodIn wsX0_put wsX0_isServer := goodIn_r _ [12, 13, 33, 34, 35, 36, 37, 38, 39, 40, 41] (by decide +kernel) (by decide +kernel)
set_option maxRecDepth 20000 in
theorem gX0_put_X0_isServer : GoodIn wsX0_put (wsV RX0 48 RX0 yX0_isServer wsX0_isServer) := goodIn_app (goodIn_of _ (by decide +kernel)) ggX0_put_X0_isServer
set_option maxRecDepth 20000 in
theorem ggX0_put_X0_isClient : GoodIn wsX0_put wsX0_isClient := goodIn_r _ [17, 18, 33, 34, 35, 36, 37, 38, 39, 40, 41] (by decide +kernel) (by decide +kernel)
set_option maxRecDepth 20000 in
theorem gX0_put_X0_isClient : GoodIn wsX0_put (wsV RX0 52 RX0 yX0_isClient wsX0_isClient) := goodIn_app (goodIn_of _ (by decide +kernel)) ggX0_put_X0_isClient
set_option maxRecDepth 20000 in
theorem ggX0_put_X0_isKey : GoodIn wsX0_put wsX0_isKey := goodIn_r _ [21] (by decide +kernel) (by decide +kernel)
set_option maxRecDepth 20000 in
theorem gX0_put_X0_isKey : GoodIn wsX0_put (va_wsS RX0 55 yX0_isKey wsX0_isKey) := goodIn_app (goodIn_of _ (by decide +kernel)) ggX0_put_X0_isKey
set_option maxRecDepth 20000 in
theorem ggX0_put_X0_vectorAt : GoodIn wsX0_put wsX0_vectorAt := goodIn_r _ [25, 1, 4, 5, 26, 27, 28, 29, 30, 31, 11, 32, 33, 34, 35, 36, 37, 38, 39, 40, 41] (by decide +kernel) (by decide +kernel)
set_option maxRecDepth 20000 in
theorem gX0_put_X0_vectorAt : GoodIn wsX0_put (wsV RX0 72 RX0 yX0_vectorAt wsX0_vectorAt) := goodIn_app (goodIn_of _ (by decide +kernel)) ggX0_put_X0_vectorAt
theorem dX0_put_0 : decode cX0_put 0 = .ok (.aload_n 0, 1) := by decide +kernel
theorem dX0_put_1 : decode cX0_put 1 = .ok (.iload_n 1, 1) := by decide +kernel
theorem dX0_put_2 : decode cX0_put 2 = .ok (.invokevirtual 48, 3) := by decide +kernel
theorem dX0_put_5 : decode cX0_put 5 = .ok (.ifCond .eq 29, 3) := by decide +kernel
theorem dX0_put_8 : decode cX0_put 8 = .ok (.aload_n 0, 1) := by decide +kernel
theorem dX0_put_9 : decode cX0_put 9 = .ok (.iload_n 2, 1) := by decide +kernel
theorem dX0_put_10 : decode cX0_put 10 = .ok (.invokevirtual 52, 3) := by decide +kernel
theorem dX0_put_13 : decode cX0_put 13 = .ok (.ifCond .eq 21, 3) := by decide +kernel
theorem dX0_put_16 : decode cX0_put 16 = .ok (.iload_n 3, 1) := by decide +kernel
theorem dX0_put_17 : decode cX0_put 17 = .ok (.invokestatic 55, 3) := by decide +kernel
theorem dX0_put_20 : decode cX0_put 20 = .ok (.ifCond .eq 14, 3) := by decide +kernel
theorem dX0_put_23 : decode cX0_put 23 = .ok (.aload_n 0, 1) := by decide +kernel
theorem dX0_put_24 : decode cX0_put 24 = .ok (.getfield 22, 3) := by decide +kernel
theorem dX0_put_27 : decode cX0_put 27 = .ok (.iload_n 3, 1) := by decide +kernel
theorem dX0_put_28 : decode cX0_put 28 = .ok (.iaload, 1) := by decide +kernel
theorem dX0_put_29 : decode cX0_put 29 = .ok (.bipush 40, 2) := by decide +kernel
theorem dX0_put_31 : decode cX0_put 31 = .ok (.if_icmp .lt 5, 3) := by decide +kernel
theorem dX0_put_34 : decode cX0_put 34 = .ok (.iconst (-1), 1) := by decide +kernel
theorem dX0_put_35 : decode cX0_put 35 = .ok (.ireturn, 1) := by decide +kernel
theorem dX0_put_36 : decode cX0_put 36 = .ok (.aload_n 0, 1) := by decide +kernel
theorem dX0_put_37 : decode cX0_put 37 = .ok (.getfield 22, 3) := by decide +kernel
theorem dX0_put_40 : decode cX0_put 40 = .ok (.iload_n 3, 1) := by decide +kernel
theorem dX0_put_41 : decode cX0_put 41 = .ok (.iaload, 1) := by decide +kernel
theorem dX0_put_42 : decode cX0_put 42 = .ok (.istore 5, 2) := by decide +kernel
theorem dX0_put_44 : decode cX0_put 44 = .ok (.aload_n 0, 1) := by decide +kernel
theorem dX0_put_45 : decode cX0_put 45 = .ok (.getfield 45, 3) := by decide +kernel
theorem dX0_put_48 : decode cX0_put 48 = .ok (.iload_n 3, 1) := by decide +kernel
theorem dX0_put_49 : decode cX0_put 49 = .ok (.aaload, 1) := by decide +kernel
theorem dX0_put_50 : decode cX0_put 50 = .ok (.iload_n 2, 1) := by decide +kernel
theorem dX0_put_51 : decode cX0_put 51 = .ok (.laload, 1) := by decide +kernel
theorem dX0_put_52 : decode cX0_put 52 = .ok (.lstore 6, 2) := by decide +kernel
theorem dX0_put_54 : decode cX0_put 54 = .ok (.aload_n 0, 1) := by decide +kernel
theorem dX0_put_55 : decode cX0_put 55 = .ok (.getfield 28, 3) := by decide +kernel
theorem dX0_put_58 : decode cX0_put 58 = .ok (.iload_n 3, 1) := by decide +kernel
theorem dX0_put_59 : decode cX0_put 59 = .ok (.aaload, 1) := by decide +kernel
theorem dX0_put_60 : decode cX0_put 60 = .ok (.iload 5, 2) := by decide +kernel
theorem dX0_put_62 : decode cX0_put 62 = .ok (.iload 4, 2) := by decide +kernel
theorem dX0_put_64 : decode cX0_put 64 = .ok (.iastore, 1) := by decide +kernel
theorem dX0_put_65 : decode cX0_put 65 = .ok (.aload_n 0, 1) := by decide +kernel
theorem dX0_put_66 : decode cX0_put 66 = .ok (.getfield 31, 3) := by decide +kernel
theorem dX0_put_69 : decode cX0_put 69 = .ok (.iload_n 3, 1) := by decide +kernel
theorem dX0_put_70 : decode cX0_put 70 = .ok (.aaload, 1) := by decide +kernel
theorem dX0_put_71 : decode cX0_put 71 = .ok (.iload 5, 2) := by decide +kernel
theorem dX0_put_73 : decode cX0_put 73 = .ok (.iload_n 1, 1) := by decide +kernel
theorem dX0_put_74 : decode cX0_put 74 = .ok (.iastore, 1) := by decide +kernel
theorem dX0_put_75 : decode cX0_put 75 = .ok (.aload_n 0, 1) := by decide +kernel
theorem dX0_put_76 : decode cX0_put 76 = .ok (.getfield 34, 3) := by decide +kernel
theorem dX0_put_79 : decode cX0_put 79 = .ok (.iload_n 3, 1) := by decide +kernel
theorem dX0_put_80 : decode cX0_put 80 = .ok (.aaload, 1) := by decide +kernel
theorem dX0_put_81 : decode cX0_put 81 = .ok (.iload 5, 2) := by decide +kernel
theorem dX0_put_83 : decode cX0_put 83 = .ok (.aload_n 0, 1) := by decide +kernel
theorem dX0_put_84 : decode cX0_put 84 = .ok (.iload_n 3, 1) := by decide +kernel
theorem dX0_put_85 : decode cX0_put 85 = .ok (.aload_n 0, 1) := by decide +kernel
theorem dX0_put_86 : decode cX0_put 86 = .ok (.getfield 42, 3) := by decide +kernel
theorem dX0_put_89 : decode cX0_put 89 = .ok (.iload_n 3, 1) := by decide +kernel
theorem dX0_put_90 : decode cX0_put 90 = .ok (.aaload, 1) := by decide +kernel
theorem dX0_put_91 : decode cX0_put 91 = .ok (.iload_n 1, 1) := by decide +kernel
theorem dX0_put_92 : decode cX0_put 92 = .ok (.laload, 1) := by decide +kernel
theorem dX0_put_93 : decode cX0_put 93 = .ok (.iload_n 1, 1) := by decide +kernel
theorem dX0_put_94 : decode cX0_put 94 = .ok (.invokevirtual 72, 3) := by decide +kernel
theorem dX0_put_97 : decode cX0_put 97 = .ok (.iconst 1, 1) := by decide +kernel
theorem dX0_put_98 : decode cX0_put 98 = .ok (.iadd, 1) := by decide +kernel
theorem dX0_put_99 : decode cX0_put 99 = .ok (.iastore, 1) := by decide +kernel
theorem dX0_put_100 : decode cX0_put 100 = .ok (.aload_n 0, 1) := by decide +kernel
theorem dX0_put_101 : decode cX0_put 101 = .ok (.getfield 39, 3) := by decide +kernel
theorem dX0_put_104 : decode cX0_put 104 = .ok (.iload_n 3, 1) := by decide +kernel
theorem dX0_put_105 : decode cX0_put 105 = .ok (.aaload, 1) := by decide +kernel
theorem dX0_put_106 : decode cX0_put 106 = .ok (.iload 5, 2) := by decide +kernel
theorem dX0_put_108 : decode cX0_put 108 = .ok (.lload 6, 2) := by decide +kernel
theorem dX0_put_110 : decode cX0_put 110 = .ok (.lastore, 1) := by decide +kernel
theorem dX0_put_111 : decode cX0_put 111 = .ok (.aload_n 0, 1) := by decide +kernel
theorem dX0_put_112 : decode cX0_put 112 = .ok (.getfield 42, 3) := by decide +kernel
theorem dX0_put_115 : decode cX0_put 115 = .ok (.iload_n 3, 1) := by decide +kernel
theorem dX0_put_116 : decode cX0_put 116 = .ok (.aaload, 1) := by decide +kernel
theorem dX0_put_117 : decode cX0_put 117 = .ok (.iload_n 1, 1) := by decide +kernel
theorem dX0_put_118 : decode cX0_put 118 = .ok (.dup2, 1) := by decide +kernel
theorem dX0_put_119 : decode cX0_put 119 = .ok (.laload, 1) := by decide +kernel
theorem dX0_put_120 : decode cX0_put 120 = .ok (.lload 6, 2) := by decide +kernel
theorem dX0_put_122 : decode cX0_put 122 = .ok (.lconst 1, 1) := by decide +kernel
theorem dX0_put_123 : decode cX0_put 123 = .ok (.iload 5, 2) := by decide +kernel
theorem dX0_put_125 : decode cX0_put 125 = .ok (.lshl, 1) := by decide +kernel
theorem dX0_put_126 : decode cX0_put 126 = .ok (.lor, 1) := by decide +kernel
theorem dX0_put_127 : decode cX0_put 127 = .ok (.lor, 1) := by decide +kernel
theorem dX0_put_128 : decode cX0_put 128 = .ok (.lastore, 1) := by decide +kernel
theorem dX0_put_129 : decode cX0_put 129 = .ok (.aload_n 0, 1) := by decide +kernel
theorem dX0_put_130 : decode cX0_put 130 = .ok (.getfield 22, 3) := by decide +kernel
theorem dX0_put_133 : decode cX0_put 133 = .ok (.iload_n 3, 1) := by decide +kernel
theorem dX0_put_134 : decode cX0_put 134 = .ok (.iload 5, 2) := by decide +kernel
theorem dX0_put_136 : decode cX0_put 136 = .ok (.iconst 1, 1) := by decide +kernel
theorem dX0_put_137 : decode cX0_put 137 = .ok (.iadd, 1) := by decide +kernel
theorem dX0_put_138 : decode cX0_put 138 = .ok (.iastore, 1) := by decide +kernel
theorem dX0_put_139 : decode cX0_put 139 = .ok (.iload 5, 2) := by decide +kernel
theorem dX0_put_141 : decode cX0_put 141 = .ok (.ireturn, 1) := by decide +kernel
set_option maxRecDepth 20000 in
theorem ggX0_sync_X0_isServer : GoodIn wsX0_sync wsX0_isServer := goodIn_r _ [6, 7, 11, 12, 13, 14, 15, 16, 17, 18, 19] (by decide +kernel) (by decide +kernel)
set_option maxRecDepth 20000 in
theorem gX0_sync_X0_isServer : GoodIn wsX0_sync (wsV RX0 48 RX0 yX0_isServer wsX0_isServer) := goodIn_app (goodIn_of _ (by decide +kernel)) ggX0_sync_X0_isServer
set_option maxRecDepth 20000 in
theorem ggX0_sync_X0_isKey : GoodIn wsX0_sync wsX0_isKey := goodIn_r _ [10] (by decide +kernel) (by decide +kernel)
set_option maxRecDepth 20000 in
theorem gX0_sync_X0_isKey : GoodIn wsX0_sync (va_wsS RX0 55 yX0_isKey wsX0_isKey) := goodIn_app (goodIn_of _ (by decide +kernel)) ggX0_sync_X0_isKey
theorem dX0_sync_0 : decode cX0_sync 0 = .ok (.aload_n 0, 1) := by decide +kernel
theorem dX0_sync_1 : decode cX0_sync 1 = .ok (.iload_n 1, 1) := by decide +kernel
theorem dX0_sync_2 : decode cX0_sync 2 = .ok (.invokevirtual 48, 3) := by decide +kernel
theorem dX0_sync_5 : decode cX0_sync 5 = .ok (.ifCond .eq 23, 3) := by decide +kernel
theorem dX0_sync_8 : decode cX0_sync 8 = .ok (.aload_n 0, 1) := by decide +kernel
theorem dX0_sync_9 : decode cX0_sync 9 = .ok (.iload_n 2, 1) := by decide +kernel
theorem dX0_sync_10 : decode cX0_sync 10 = .ok (.invokevirtual 48, 3) := by decide +kernel
theorem dX0_sync_13 : decode cX0_sync 13 = .ok (.ifCond .eq 15, 3) := by decide +kernel
theorem dX0_sync_16 : decode cX0_sync 16 = .ok (.iload_n 1, 1) := by decide +kernel
theorem dX0_sync_17 : decode cX0_sync 17 = .ok (.iload_n 2, 1) := by decide +kernel
theorem dX0_sync_18 : decode cX0_sync 18 = .ok (.if_icmp .eq 10, 3) := by decide +kernel
theorem dX0_sync_21 : decode cX0_sync 21 = .ok (.iload_n 3, 1) := by decide +kernel
theorem dX0_sync_22 : decode cX0_sync 22 = .ok (.invokestatic 55, 3) := by decide +kernel
theorem dX0_sync_25 : decode cX0_sync 25 = .ok (.ifCond .ne 5, 3) := by decide +kernel
theorem dX0_sync_28 : decode cX0_sync 28 = .ok (.iconst 0, 1) := by decide +kernel
theorem dX0_sync_29 : decode cX0_sync 29 = .ok (.ireturn, 1) := by decide +kernel
theorem dX0_sync_30 : decode cX0_sync 30 = .ok (.aload_n 0, 1) := by decide +kernel
theorem dX0_sync_31 : decode cX0_sync 31 = .ok (.getfield 42, 3) := by decide +kernel
theorem dX0_sync_34 : decode cX0_sync 34 = .ok (.iload_n 3, 1) := by decide +kernel
theorem dX0_sync_35 : decode cX0_sync 35 = .ok (.aaload, 1) := by decide +kernel
theorem dX0_sync_36 : decode cX0_sync 36 = .ok (.iload_n 1, 1) := by decide +kernel
theorem dX0_sync_37 : decode cX0_sync 37 = .ok (.laload, 1) := by decide +kernel
theorem dX0_sync_38 : decode cX0_sync 38 = .ok (.aload_n 0, 1) := by decide +kernel
theorem dX0_sync_39 : decode cX0_sync 39 = .ok (.getfield 42, 3) := by decide +kernel
theorem dX0_sync_42 : decode cX0_sync 42 = .ok (.iload_n 3, 1) := by decide +kernel
theorem dX0_sync_43 : decode cX0_sync 43 = .ok (.aaload, 1) := by decide +kernel
theorem dX0_sync_44 : decode cX0_sync 44 = .ok (.iload_n 2, 1) := by decide +kernel
theorem dX0_sync_45 : decode cX0_sync 45 = .ok (.laload, 1) := by decide +kernel
theorem dX0_sync_46 : decode cX0_sync 46 = .ok (.lor, 1) := by decide +kernel
theorem dX0_sync_47 : decode cX0_sync 47 = .ok (.lstore 4, 2) := by decide +kernel
theorem dX0_sync_49 : decode cX0_sync 49 = .ok (.aload_n 0, 1) := by decide +kernel
theorem dX0_sync_50 : decode cX0_sync 50 = .ok (.getfield 42, 3) := by decide +kernel
theorem dX0_sync_53 : decode cX0_sync 53 = .ok (.iload_n 3, 1) := by decide +kernel
theorem dX0_sync_54 : decode cX0_sync 54 = .ok (.aaload, 1) := by decide +kernel
theorem dX0_sync_55 : decode cX0_sync 55 = .ok (.iload_n 1, 1) := by decide +kernel
theorem dX0_sync_56 : decode cX0_sync 56 = .ok (.lload 4, 2) := by decide +kernel
theorem dX0_sync_58 : decode cX0_sync 58 = .ok (.lastore, 1) := by decide +kernel
theorem dX0_sync_59 : decode cX0_sync 59 = .ok (.aload_n 0, 1) := by decide +kernel
theorem dX0_sync_60 : decode cX0_sync 60 = .ok (.getfield 42, 3) := by decide +kernel
theorem dX0_sync_63 : decode cX0_sync 63 = .ok (.iload_n 3, 1) := by decide +kernel
theorem dX0_sync_64 : decode cX0_sync 64 = .ok (.aaload, 1) := by decide +kernel
theorem dX0_sync_65 : decode cX0_sync 65 = .ok (.iload_n 2, 1) := by decide +kernel
theorem dX0_sync_66 : decode cX0_sync 66 = .ok (.lload 4, 2) := by decide +kernel
theorem dX0_sync_68 : decode cX0_sync 68 = .ok (.lastore, 1) := by decide +kernel
theorem dX0_sync_69 : decode cX0_sync 69 = .ok (.iconst 1, 1) := by decide +kernel
theorem dX0_sync_70 : decode cX0_sync 70 = .ok (.ireturn, 1) := by decide +kernel
set_option maxRecDepth 20000 in
theorem ggX0_forget_X0_isClient : GoodIn wsX0_forget wsX0_isClient := goodIn_r _ [6, 7, 11, 12, 13, 14, 15, 16, 17, 18, 19] (by decide +kernel) (by decide +kernel)
set_option maxRecDepth 20000 in
theorem gX0_forget_X0_isClient : GoodIn wsX0_forget (wsV RX0 52 RX0 yX0_isClient wsX0_isClient) := goodIn_app (goodIn_of _ (by decide +kernel)) ggX0_forget_X0_isClient
set_option maxRecDepth 20000 in
theorem ggX0_forget_X0_isKey : GoodIn wsX0_forget wsX0_isKey := goodIn_r _ [10] (by decide +kernel) (by decide +kernel)
set_option maxRecDepth 20000 in
theorem gX0_forget_X0_isKey : GoodIn wsX0_forget (va_wsS RX0 55 yX0_isKey wsX0_isKey) := goodIn_app (goodIn_of _ (by decide +kernel)) ggX0_forget_X0_isKey
theorem dX0_forget_0 : decode cX0_forget 0 = .ok (.aload_n 0, 1) := by decide +kernel
theorem dX0_forget_1 : decode cX0_forget 1 = .ok (.iload_n 1, 1) := by decide +kernel
theorem dX0_forget_2 : decode cX0_forget 2 = .ok (.invokevirtual 52, 3) := by decide +kernel
theorem dX0_forget_5 : decode cX0_forget 5 = .ok (.ifCond .eq 10, 3) := by decide +kernel
theorem dX0_forget_8 : decode cX0_forget 8 = .ok (.iload_n 2, 1) := by decide +kernel
theorem dX0_forget_9 : decode cX0_forget 9 = .ok (.invokestatic 55, 3) := by decide +kernel
theorem dX0_forget_12 : decode cX0_forget 12 = .ok (.ifCond .ne 5, 3) := by decide +kernel
theorem dX0_forget_15 : decode cX0_forget 15 = .ok (.iconst 0, 1) := by decide +kernel
theorem dX0_forget_16 : decode cX0_forget 16 = .ok (.ireturn, 1) := by decide +kernel
theorem dX0_forget_17 : decode cX0_forget 17 = .ok (.aload_n 0, 1) := by decide +kernel
theorem dX0_forget_18 : decode cX0_forget 18 = .ok (.getfield 45, 3) := by decide +kernel
theorem dX0_forget_21 : decode cX0_forget 21 = .ok (.iload_n 2, 1) := by decide +kernel
theorem dX0_forget_22 : decode cX0_forget 22 = .ok (.aaload, 1) := by decide +kernel
theorem dX0_forget_23 : decode cX0_forget 23 = .ok (.iload_n 1, 1) := by decide +kernel
theorem dX0_forget_24 : decode cX0_forget 24 = .ok (.lconst 0, 1) := by decide +kernel
theorem dX0_forget_25 : decode cX0_forget 25 = .ok (.lastore, 1) := by decide +kernel
theorem dX0_forget_26 : decode cX0_forget 26 = .ok (.iconst 1, 1) := by decide +kernel
theorem dX0_forget_27 : decode cX0_forget 27 = .ok (.ireturn, 1) := by decide +kernel
set_option maxRecDepth 20000 in
theorem ggX0_siblings_X0_isServer : GoodIn wsX0_siblings wsX0_isServer := goodIn_r _ [6, 7, 28, 29, 30, 31, 32, 33, 34, 35, 36] (by decide +kernel) (by decide +kernel)
set_option maxRecDepth 20000 in
theorem gX0_siblings_X0_isServer : GoodIn wsX0_siblings (wsV RX0 48 RX0 yX0_isServer wsX0_isServer) := goodIn_app (goodIn_of _ (by decide +kernel)) ggX0_siblings_X0_isServer
set_option maxRecDepth 20000 in
theorem ggX0_siblings_X0_isKey : GoodIn wsX0_siblings wsX0_isKey := goodIn_r _ [10] (by decide +kernel) (by decide +kernel)
set_option maxRecDepth 20000 in
theorem gX0_siblings_X0_isKey : GoodIn wsX0_siblings (va_wsS RX0 55 yX0_isKey wsX0_isKey) := goodIn_app (goodIn_of _ (by decide +kernel)) ggX0_siblings_X0_isKey
set_option maxRecDepth 20000 in
theorem ggX0_siblings_X0_greatestOf : GoodIn wsX0_siblings wsX0_greatestOf := goodIn_r _ [14, 15, 16, 17, 18, 19, 5, 20, 28, 29, 30, 31, 32, 33, 34, 35, 36] (by decide +kernel) (by decide +kernel)
set_option maxRecDepth 20000 in
theorem gX0_siblings_X0_greatestOf : GoodIn wsX0_siblings (wsV RX0 58 RX0 yX0_greatestOf wsX0_greatestOf) := goodIn_app (goodIn_of _ (by decide +kernel)) ggX0_siblings_X0_greatestOf
set_option maxRecDepth 20000 in
theorem ggX0_siblings_J13_bitCount_95d88 : GoodIn wsX0_siblings wsJ13_bitCount_95d88 := goodIn_r _ [24, 25, 26, 27] (by decide +kernel) (by decide +kernel)
set_option maxRecDepth 20000 in
theorem gX0_siblings_J13_bitCount_95d88 : GoodIn wsX0_siblings (va_wsS RX0 62 yJ13_bitCount_95d88 wsJ13_bitCount_95d88) := goodIn_app (goodIn_of _ (by decide +kernel)) ggX0_siblings_J13_bitCount_95d88
theorem dX0_siblings_0 : decode cX0_siblings 0 = .ok (.aload_n 0, 1) := by decide +kernel
theorem dX0_siblings_1 : decode cX0_siblings 1 = .ok (.iload_n 1, 1) := by decide +kernel
theorem dX0_siblings_2 : decode cX0_siblings 2 = .ok (.invokevirtual 48, 3) := by decide +kernel
theorem dX0_siblings_5 : decode cX0_siblings 5 = .ok (.ifCond .eq 10, 3) := by decide +kernel
theorem dX0_siblings_8 : decode cX0_siblings 8 = .ok (.iload_n 2, 1) := by decide +kernel
theorem dX0_siblings_9 : decode cX0_siblings 9 = .ok (.invokestatic 55, 3) := by decide +kernel
theorem dX0_siblings_12 : decode cX0_siblings 12 = .ok (.ifCond .ne 5, 3) := by decide +kernel
theorem dX0_siblings_15 : decode cX0_siblings 15 = .ok (.iconst (-1), 1) := by decide +kernel
theorem dX0_siblings_16 : decode cX0_siblings 16 = .ok (.ireturn, 1) := by decide +kernel
theorem dX0_siblings_17 : decode cX0_siblings 17 = .ok (.aload_n 0, 1) := by decide +kernel
theorem dX0_siblings_18 : decode cX0_siblings 18 = .ok (.iload_n 2, 1) := by decide +kernel
theorem dX0_siblings_19 : decode cX0_siblings 19 = .ok (.aload_n 0, 1) := by decide +kernel
theorem dX0_siblings_20 : decode cX0_siblings 20 = .ok (.getfield 42, 3) := by decide +kernel
theorem dX0_siblings_23 : decode cX0_siblings 23 = .ok (.iload_n 2, 1) := by decide +kernel
theorem dX0_siblings_24 : decode cX0_siblings 24 = .ok (.aaload, 1) := by decide +kernel
theorem dX0_siblings_25 : decode cX0_siblings 25 = .ok (.iload_n 1, 1) := by decide +kernel
theorem dX0_siblings_26 : decode cX0_siblings 26 = .ok (.laload, 1) := by decide +kernel
theorem dX0_siblings_27 : decode cX0_siblings 27 = .ok (.invokevirtual 58, 3) := by decide +kernel
theorem dX0_siblings_30 : decode cX0_siblings 30 = .ok (.invokestatic 62, 3) := by decide +kernel
theorem dX0_siblings_33 : decode cX0_siblings 33 = .ok (.ireturn, 1) := by decide +kernel
set_option maxRecDepth 20000 in
theorem ggX0_sibling_X0_isServer : GoodIn wsX0_sibling wsX0_isServer := goodIn_r _ [7, 8, 33, 34, 35, 36, 37, 38, 39, 40, 41] (by decide +kernel) (by decide +kernel)
set_option maxRecDepth 20000 in
theorem gX0_sibling_X0_isServer : GoodIn wsX0_sibling (wsV RX0 48 RX0 yX0_isServer wsX0_isServer) := goodIn_app (goodIn_of _ (by decide +kernel)) ggX0_sibling_X0_isServer
set_option maxRecDepth 20000 in
theorem ggX0_sibling_X0_isKey : GoodIn wsX0_sibling wsX0_isKey := goodIn_r _ [11] (by decide +kernel) (by decide +kernel)
set_option maxRecDepth 20000 in
theorem gX0_sibling_X0_isKey : GoodIn wsX0_sibling (va_wsS RX0 55 yX0_isKey wsX0_isKey) := goodIn_app (goodIn_of _ (by decide +kernel)) ggX0_sibling_X0_isKey
set_option maxRecDepth 20000 in
theorem ggX0_sibling_X0_siblingAt : GoodIn wsX0_sibling wsX0_siblingAt := goodIn_r _ [15, 8, 16, 17, 18, 19, 20, 6, 21, 22, 23, 24, 25, 26, 33, 34, 35, 36, 37, 38, 39, 40, 41] (by decide +kernel) (by decide +kernel)
set_option maxRecDepth 20000 in
theorem gX0_sibling_X0_siblingAt : GoodIn wsX0_sibling (wsV RX0 68 RX0 yX0_siblingAt wsX0_siblingAt) := goodIn_app (goodIn_of _ (by decide +kernel)) ggX0_sibling_X0_siblingAt
set_option maxRecDepth 20000 in
theorem ggX0_sibling_X0_detailOf : GoodIn wsX0_sibling wsX0_detailOf := goodIn_r _ [30, 31, 17, 32, 1, 33, 34, 35, 36, 37, 38, 39, 40, 41] (by decide +kernel) (by decide +kernel)
set_option maxRecDepth 20000 in
theorem gX0_sibling_X0_detailOf : GoodIn wsX0_sibling (wsV RX0 75 RX0 yX0_detailOf wsX0_detailOf) := goodIn_app (goodIn_of _ (by decide +kernel)) ggX0_sibling_X0_detailOf
theorem dX0_sibling_0 : decode cX0_sibling 0 = .ok (.aload_n 0, 1) := by decide +kernel
theorem dX0_sibling_1 : decode cX0_sibling 1 = .ok (.iload_n 1, 1) := by decide +kernel
theorem dX0_sibling_2 : decode cX0_sibling 2 = .ok (.invokevirtual 48, 3) := by decide +kernel
theorem dX0_sibling_5 : decode cX0_sibling 5 = .ok (.ifCond .eq 10, 3) := by decide +kernel
theorem dX0_sibling_8 : decode cX0_sibling 8 = .ok (.iload_n 2, 1) := by decide +kernel
theorem dX0_sibling_9 : decode cX0_sibling 9 = .ok (.invokestatic 55, 3) := by decide +kernel
theorem dX0_sibling_12 : decode cX0_sibling 12 = .ok (.ifCond .ne 7, 3) := by decide +kernel
theorem dX0_sibling_15 : decode cX0_sibling 15 = .ok (.ldc2_w 66, 3) := by decide +kernel
theorem dX0_sibling_18 : decode cX0_sibling 18 = .ok (.lreturn, 1) := by decide +kernel
theorem dX0_sibling_19 : decode cX0_sibling 19 = .ok (.aload_n 0, 1) := by decide +kernel
theorem dX0_sibling_20 : decode cX0_sibling 20 = .ok (.iload_n 2, 1) := by decide +kernel
theorem dX0_sibling_21 : decode cX0_sibling 21 = .ok (.aload_n 0, 1) := by decide +kernel
theorem dX0_sibling_22 : decode cX0_sibling 22 = .ok (.getfield 42, 3) := by decide +kernel
theorem dX0_sibling_25 : decode cX0_sibling 25 = .ok (.iload_n 2, 1) := by decide +kernel
theorem dX0_sibling_26 : decode cX0_sibling 26 = .ok (.aaload, 1) := by decide +kernel
theorem dX0_sibling_27 : decode cX0_sibling 27 = .ok (.iload_n 1, 1) := by decide +kernel
theorem dX0_sibling_28 : decode cX0_sibling 28 = .ok (.laload, 1) := by decide +kernel
theorem dX0_sibling_29 : decode cX0_sibling 29 = .ok (.iload_n 3, 1) := by decide +kernel
theorem dX0_sibling_30 : decode cX0_sibling 30 = .ok (.invokevirtual 68, 3) := by decide +kernel
theorem dX0_sibling_33 : decode cX0_sibling 33 = .ok (.istore 5, 2) := by decide +kernel
theorem dX0_sibling_35 : decode cX0_sibling 35 = .ok (.iload 5, 2) := by decide +kernel
theorem dX0_sibling_37 : decode cX0_sibling 37 = .ok (.iconst (-1), 1) := by decide +kernel
theorem dX0_sibling_38 : decode cX0_sibling 38 = .ok (.if_icmp .ne 9, 3) := by decide +kernel
theorem dX0_sibling_41 : decode cX0_sibling 41 = .ok (.ldc2_w 66, 3) := by decide +kernel
theorem dX0_sibling_44 : decode cX0_sibling 44 = .ok (.goto 12, 3) := by decide +kernel
theorem dX0_sibling_47 : decode cX0_sibling 47 = .ok (.aload_n 0, 1) := by decide +kernel
theorem dX0_sibling_48 : decode cX0_sibling 48 = .ok (.iload_n 2, 1) := by decide +kernel
theorem dX0_sibling_49 : decode cX0_sibling 49 = .ok (.iload 5, 2) := by decide +kernel
theorem dX0_sibling_51 : decode cX0_sibling 51 = .ok (.iload 4, 2) := by decide +kernel
theorem dX0_sibling_53 : decode cX0_sibling 53 = .ok (.invokevirtual 75, 3) := by decide +kernel
theorem dX0_sibling_56 : decode cX0_sibling 56 = .ok (.lreturn, 1) := by decide +kernel
set_option maxRecDepth 20000 in
theorem ggX0_known_X0_isServer : GoodIn wsX0_known wsX0_isServer := goodIn_r _ [6, 7, 25, 26, 27, 28, 29, 30, 31, 32, 33] (by decide +kernel) (by decide +kernel)
set_option maxRecDepth 20000 in
theorem gX0_known_X0_isServer : GoodIn wsX0_known (wsV RX0 48 RX0 yX0_isServer wsX0_isServer) := goodIn_app (goodIn_of _ (by decide +kernel)) ggX0_known_X0_isServer
set_option maxRecDepth 20000 in
theorem ggX0_known_X0_isKey : GoodIn wsX0_known wsX0_isKey := goodIn_r _ [10] (by decide +kernel) (by decide +kernel)
set_option maxRecDepth 20000 in
theorem gX0_known_X0_isKey : GoodIn wsX0_known (va_wsS RX0 55 yX0_isKey wsX0_isKey) := goodIn_app (goodIn_of _ (by decide +kernel)) ggX0_known_X0_isKey
set_option maxRecDepth 20000 in
theorem ggX0_known_X0_vectorAt : GoodIn wsX0_known wsX0_vectorAt := goodIn_r _ [14, 15, 16, 17, 18, 19, 20, 21, 22, 23, 5, 24, 25, 26, 27, 28, 29, 30, 31, 32, 33] (by decide +kernel) (by decide +kernel)
set_option maxRecDepth 20000 in
theorem gX0_known_X0_vectorAt : GoodIn wsX0_known (wsV RX0 72 RX0 yX0_vectorAt wsX0_vectorAt) := goodIn_app (goodIn_of _ (by decide +kernel)) ggX0_known_X0_vectorAt
theorem dX0_known_0 : decode cX0_known 0 = .ok (.aload_n 0, 1) := by decide +kernel
theorem dX0_known_1 : decode cX0_known 1 = .ok (.iload_n 1, 1) := by decide +kernel
theorem dX0_known_2 : decode cX0_known 2 = .ok (.invokevirtual 48, 3) := by decide +kernel
theorem dX0_known_5 : decode cX0_known 5 = .ok (.ifCond .eq 18, 3) := by decide +kernel
theorem dX0_known_8 : decode cX0_known 8 = .ok (.iload_n 2, 1) := by decide +kernel
theorem dX0_known_9 : decode cX0_known 9 = .ok (.invokestatic 55, 3) := by decide +kernel
theorem dX0_known_12 : decode cX0_known 12 = .ok (.ifCond .eq 11, 3) := by decide +kernel
theorem dX0_known_15 : decode cX0_known 15 = .ok (.aload_n 0, 1) := by decide +kernel
theorem dX0_known_16 : decode cX0_known 16 = .ok (.iload_n 3, 1) := by decide +kernel
theorem dX0_known_17 : decode cX0_known 17 = .ok (.invokevirtual 48, 3) := by decide +kernel
theorem dX0_known_20 : decode cX0_known 20 = .ok (.ifCond .ne 5, 3) := by decide +kernel
theorem dX0_known_23 : decode cX0_known 23 = .ok (.iconst (-1), 1) := by decide +kernel
theorem dX0_known_24 : decode cX0_known 24 = .ok (.ireturn, 1) := by decide +kernel
theorem dX0_known_25 : decode cX0_known 25 = .ok (.aload_n 0, 1) := by decide +kernel
theorem dX0_known_26 : decode cX0_known 26 = .ok (.iload_n 2, 1) := by decide +kernel
theorem dX0_known_27 : decode cX0_known 27 = .ok (.aload_n 0, 1) := by decide +kernel
theorem dX0_known_28 : decode cX0_known 28 = .ok (.getfield 42, 3) := by decide +kernel
theorem dX0_known_31 : decode cX0_known 31 = .ok (.iload_n 2, 1) := by decide +kernel
theorem dX0_known_32 : decode cX0_known 32 = .ok (.aaload, 1) := by decide +kernel
theorem dX0_known_33 : decode cX0_known 33 = .ok (.iload_n 1, 1) := by decide +kernel
theorem dX0_known_34 : decode cX0_known 34 = .ok (.laload, 1) := by decide +kernel
theorem dX0_known_35 : decode cX0_known 35 = .ok (.iload_n 3, 1) := by decide +kernel
theorem dX0_known_36 : decode cX0_known 36 = .ok (.invokevirtual 72, 3) := by decide +kernel
theorem dX0_known_39 : decode cX0_known 39 = .ok (.ireturn, 1) := by decide +kernel
set_option maxRecDepth 20000 in
theorem ggX0_context_X0_isClient : GoodIn wsX0_context wsX0_isClient := goodIn_r _ [6, 7, 30, 31, 32, 33, 34, 35, 36, 37, 38] (by decide +kernel) (by decide +kernel)
set_option maxRecDepth 20000 in
theorem gX0_context_X0_isClient : GoodIn wsX0_context (wsV RX0 52 RX0 yX0_isClient wsX0_isClient) := goodIn_app (goodIn_of _ (by decide +kernel)) ggX0_context_X0_isClient
set_option maxRecDepth 20000 in
theorem ggX0_context_X0_isKey : GoodIn wsX0_context wsX0_isKey := goodIn_r _ [10] (by decide +kernel) (by decide +kernel)
set_option maxRecDepth 20000 in
theorem gX0_context_X0_isKey : GoodIn wsX0_context (va_wsS RX0 55 yX0_isKey wsX0_isKey) := goodIn_app (goodIn_of _ (by decide +kernel)) ggX0_context_X0_isKey
set_option maxRecDepth 20000 in
theorem ggX0_context_X0_isServer : GoodIn wsX0_context wsX0_isServer := goodIn_r _ [14, 15, 30, 31, 32, 33, 34, 35, 36, 37, 38] (by decide +kernel) (by decide +kernel)
set_option maxRecDepth 20000 in
theorem gX0_context_X0_isServer : GoodIn wsX0_context (wsV RX0 48 RX0 yX0_isServer wsX0_isServer) := goodIn_app (goodIn_of _ (by decide +kernel)) ggX0_context_X0_isServer
set_option maxRecDepth 20000 in
theorem ggX0_context_X0_vectorAt : GoodIn wsX0_context wsX0_vectorAt := goodIn_r _ [19, 20, 21, 22, 23, 24, 25, 26, 27, 28, 5, 29, 30, 31, 32, 33, 34, 35, 36, 37, 38] (by decide +kernel) (by decide +kernel)
set_option maxRecDepth 20000 in
theorem gX0_context_X0_vectorAt : GoodIn wsX0_context (wsV RX0 72 RX0 yX0_vectorAt wsX0_vectorAt) := goodIn_app (goodIn_of _ (by decide +kernel)) ggX0_context_X0_vectorAt
theorem dX0_context_0 : decode cX0_context 0 = .ok (.aload_n 0, 1) := by decide +kernel
theorem dX0_context_1 : decode cX0_context 1 = .ok (.iload_n 1, 1) := by decide +kernel
theorem dX0_context_2 : decode cX0_context 2 = .ok (.invokevirtual 52, 3) := by decide +kernel
theorem dX0_context_5 : decode cX0_context 5 = .ok (.ifCond .eq 18, 3) := by decide +kernel
theorem dX0_context_8 : decode cX0_context 8 = .ok (.iload_n 2, 1) := by decide +kernel
theorem dX0_context_9 : decode cX0_context 9 = .ok (.invokestatic 55, 3) := by decide +kernel
theorem dX0_context_12 : decode cX0_context 12 = .ok (.ifCond .eq 11, 3) := by decide +kernel
theorem dX0_context_15 : decode cX0_context 15 = .ok (.aload_n 0, 1) := by decide +kernel
theorem dX0_context_16 : decode cX0_context 16 = .ok (.iload_n 3, 1) := by decide +kernel
theorem dX0_context_17 : decode cX0_context 17 = .ok (.invokevirtual 48, 3) := by decide +kernel
theorem dX0_context_20 : decode cX0_context 20 = .ok (.ifCond .ne 5, 3) := by decide +kernel
theorem dX0_context_23 : decode cX0_context 23 = .ok (.iconst (-1), 1) := by decide +kernel
theorem dX0_context_24 : decode cX0_context 24 = .ok (.ireturn, 1) := by decide +kernel
theorem dX0_context_25 : decode cX0_context 25 = .ok (.aload_n 0, 1) := by decide +kernel
theorem dX0_context_26 : decode cX0_context 26 = .ok (.iload_n 2, 1) := by decide +kernel
theorem dX0_context_27 : decode cX0_context 27 = .ok (.aload_n 0, 1) := by decide +kernel
theorem dX0_context_28 : decode cX0_context 28 = .ok (.getfield 45, 3) := by decide +kernel
theorem dX0_context_31 : decode cX0_context 31 = .ok (.iload_n 2, 1) := by decide +kernel
theorem dX0_context_32 : decode cX0_context 32 = .ok (.aaload, 1) := by decide +kernel
theorem dX0_context_33 : decode cX0_context 33 = .ok (.iload_n 1, 1) := by decide +kernel
theorem dX0_context_34 : decode cX0_context 34 = .ok (.laload, 1) := by decide +kernel
theorem dX0_context_35 : decode cX0_context 35 = .ok (.iload_n 3, 1) := by decide +kernel
theorem dX0_context_36 : decode cX0_context 36 = .ok (.invokevirtual 72, 3) := by decide +kernel
theorem dX0_context_39 : decode cX0_context 39 = .ok (.ireturn, 1) := by decide +kernel
set_option maxRecDepth 20000 in
theorem ggX0_sees_X0_isClient : GoodIn wsX0_sees wsX0_isClient := goodIn_r _ [7, 8, 15, 16, 17, 18, 19, 20, 21, 22, 23] (by decide +kernel) (by decide +kernel)
set_option maxRecDepth 20000 in
theorem gX0_sees_X0_isClient : GoodIn wsX0_sees (wsV RX0 52 RX0 yX0_isClient wsX0_isClient) := goodIn_app (goodIn_of _ (by decide +kernel)) ggX0_sees_X0_isClient
set_option maxRecDepth 20000 in
theorem ggX0_sees_X0_isKey : GoodIn wsX0_sees wsX0_isKey := goodIn_r _ [11] (by decide +kernel) (by decide +kernel)
set_option maxRecDepth 20000 in
theorem gX0_sees_X0_isKey : GoodIn wsX0_sees (va_wsS RX0 55 yX0_isKey wsX0_isKey) := goodIn_app (goodIn_of _ (by decide +kernel)) ggX0_sees_X0_isKey
set_option maxRecDepth 20000 in
theorem ggX0_sees_X0_has : GoodIn wsX0_sees wsX0_has := goodIn_r _ [14] (by decide +kernel) (by decide +kernel)
set_option maxRecDepth 20000 in
theorem gX0_sees_X0_has : GoodIn wsX0_sees (va_wsS RX0 79 yX0_has wsX0_has) := goodIn_app (goodIn_of _ (by decide +kernel)) ggX0_sees_X0_has
theorem dX0_sees_0 : decode cX0_sees 0 = .ok (.aload_n 0, 1) := by decide +kernel
theorem dX0_sees_1 : decode cX0_sees 1 = .ok (.iload_n 1, 1) := by decide +kernel
theorem dX0_sees_2 : decode cX0_sees 2 = .ok (.invokevirtual 52, 3) := by decide +kernel
theorem dX0_sees_5 : decode cX0_sees 5 = .ok (.ifCond .eq 24, 3) := by decide +kernel
theorem dX0_sees_8 : decode cX0_sees 8 = .ok (.iload_n 2, 1) := by decide +kernel
theorem dX0_sees_9 : decode cX0_sees 9 = .ok (.invokestatic 55, 3) := by decide +kernel
theorem dX0_sees_12 : decode cX0_sees 12 = .ok (.ifCond .eq 17, 3) := by decide +kernel
theorem dX0_sees_15 : decode cX0_sees 15 = .ok (.iload_n 3, 1) := by decide +kernel
theorem dX0_sees_16 : decode cX0_sees 16 = .ok (.ifCond .lt 13, 3) := by decide +kernel
theorem dX0_sees_19 : decode cX0_sees 19 = .ok (.iload_n 3, 1) := by decide +kernel
theorem dX0_sees_20 : decode cX0_sees 20 = .ok (.aload_n 0, 1) := by decide +kernel
theorem dX0_sees_21 : decode cX0_sees 21 = .ok (.getfield 22, 3) := by decide +kernel
theorem dX0_sees_24 : decode cX0_sees 24 = .ok (.iload_n 2, 1) := by decide +kernel
theorem dX0_sees_25 : decode cX0_sees 25 = .ok (.iaload, 1) := by decide +kernel
theorem dX0_sees_26 : decode cX0_sees 26 = .ok (.if_icmp .lt 5, 3) := by decide +kernel
theorem dX0_sees_29 : decode cX0_sees 29 = .ok (.iconst 0, 1) := by decide +kernel
theorem dX0_sees_30 : decode cX0_sees 30 = .ok (.ireturn, 1) := by decide +kernel
theorem dX0_sees_31 : decode cX0_sees 31 = .ok (.aload_n 0, 1) := by decide +kernel
theorem dX0_sees_32 : decode cX0_sees 32 = .ok (.getfield 45, 3) := by decide +kernel
theorem dX0_sees_35 : decode cX0_sees 35 = .ok (.iload_n 2, 1) := by decide +kernel
theorem dX0_sees_36 : decode cX0_sees 36 = .ok (.aaload, 1) := by decide +kernel
theorem dX0_sees_37 : decode cX0_sees 37 = .ok (.iload_n 1, 1) := by decide +kernel
theorem dX0_sees_38 : decode cX0_sees 38 = .ok (.laload, 1) := by decide +kernel
theorem dX0_sees_39 : decode cX0_sees 39 = .ok (.iload_n 3, 1) := by decide +kernel
theorem dX0_sees_40 : decode cX0_sees 40 = .ok (.invokestatic 79, 3) := by decide +kernel
theorem dX0_sees_43 : decode cX0_sees 43 = .ok (.ireturn, 1) := by decide +kernel
set_option maxRecDepth 20000 in
theorem ggX0_same_X0_isServer : GoodIn wsX0_same wsX0_isServer := goodIn_r _ [6, 7, 11, 12, 13, 14, 15, 16, 17, 18, 19] (by decide +kernel) (by decide +kernel)
set_option maxRecDepth 20000 in
theorem gX0_same_X0_isServer : GoodIn wsX0_same (wsV RX0 48 RX0 yX0_isServer wsX0_isServer) := goodIn_app (goodIn_of _ (by decide +kernel)) ggX0_same_X0_isServer
set_option maxRecDepth 20000 in
theorem ggX0_same_X0_isKey : GoodIn wsX0_same wsX0_isKey := goodIn_r _ [10] (by decide +kernel) (by decide +kernel)
set_option maxRecDepth 20000 in
theorem gX0_same_X0_isKey : GoodIn wsX0_same (va_wsS RX0 55 yX0_isKey wsX0_isKey) := goodIn_app (goodIn_of _ (by decide +kernel)) ggX0_same_X0_isKey
theorem dX0_same_0 : decode cX0_same 0 = .ok (.aload_n 0, 1) := by decide +kernel
theorem dX0_same_1 : decode cX0_same 1 = .ok (.iload_n 1, 1) := by decide +kernel
theorem dX0_same_2 : decode cX0_same 2 = .ok (.invokevirtual 48, 3) := by decide +kernel
theorem dX0_same_5 : decode cX0_same 5 = .ok (.ifCond .eq 18, 3) := by decide +kernel
theorem dX0_same_8 : decode cX0_same 8 = .ok (.aload_n 0, 1) := by decide +kernel
theorem dX0_same_9 : decode cX0_same 9 = .ok (.iload_n 2, 1) := by decide +kernel
theorem dX0_same_10 : decode cX0_same 10 = .ok (.invokevirtual 48, 3) := by decide +kernel
theorem dX0_same_13 : decode cX0_same 13 = .ok (.ifCond .eq 10, 3) := by decide +kernel
theorem dX0_same_16 : decode cX0_same 16 = .ok (.iload_n 3, 1) := by decide +kernel
theorem dX0_same_17 : decode cX0_same 17 = .ok (.invokestatic 55, 3) := by decide +kernel
theorem dX0_same_20 : decode cX0_same 20 = .ok (.ifCond .ne 5, 3) := by decide +kernel
theorem dX0_same_23 : decode cX0_same 23 = .ok (.iconst 0, 1) := by decide +kernel
theorem dX0_same_24 : decode cX0_same 24 = .ok (.ireturn, 1) := by decide +kernel
theorem dX0_same_25 : decode cX0_same 25 = .ok (.aload_n 0, 1) := by decide +kernel
theorem dX0_same_26 : decode cX0_same 26 = .ok (.getfield 42, 3) := by decide +kernel
theorem dX0_same_29 : decode cX0_same 29 = .ok (.iload_n 3, 1) := by decide +kernel
theorem dX0_same_30 : decode cX0_same 30 = .ok (.aaload, 1) := by decide +kernel
theorem dX0_same_31 : decode cX0_same 31 = .ok (.iload_n 1, 1) := by decide +kernel
theorem dX0_same_32 : decode cX0_same 32 = .ok (.laload, 1) := by decide +kernel
theorem dX0_same_33 : decode cX0_same 33 = .ok (.aload_n 0, 1) := by decide +kernel
theorem dX0_same_34 : decode cX0_same 34 = .ok (.getfield 42, 3) := by decide +kernel
theorem dX0_same_37 : decode cX0_same 37 = .ok (.iload_n 3, 1) := by decide +kernel
theorem dX0_same_38 : decode cX0_same 38 = .ok (.aaload, 1) := by decide +kernel
theorem dX0_same_39 : decode cX0_same 39 = .ok (.iload_n 2, 1) := by decide +kernel
theorem dX0_same_40 : decode cX0_same 40 = .ok (.laload, 1) := by decide +kernel
theorem dX0_same_41 : decode cX0_same 41 = .ok (.lcmp, 1) := by decide +kernel
theorem dX0_same_42 : decode cX0_same 42 = .ok (.ifCond .ne 7, 3) := by decide +kernel
theorem dX0_same_45 : decode cX0_same 45 = .ok (.iconst 1, 1) := by decide +kernel
theorem dX0_same_46 : decode cX0_same 46 = .ok (.goto 4, 3) := by decide +kernel
theorem dX0_same_49 : decode cX0_same 49 = .ok (.iconst 0, 1) := by decide +kernel
theorem dX0_same_50 : decode cX0_same 50 = .ok (.ireturn, 1) := by decide +kernel
set_option maxRecDepth 20000 in
theorem ggX0_weight_X0_isServer : GoodIn wsX0_weight wsX0_isServer := goodIn_r _ [7, 2, 38, 39, 40, 41, 42, 43, 44, 45, 46] (by decide +kernel) (by decide +kernel)
set_option maxRecDepth 20000 in
theorem gX0_weight_X0_isServer : GoodIn wsX0_weight (wsV RX0 48 RX0 yX0_isServer wsX0_isServer) := goodIn_app (goodIn_of _ (by decide +kernel)) ggX0_weight_X0_isServer
set_option maxRecDepth 20000 in
theorem ggX0_weight_X0_isKey : GoodIn wsX0_weight wsX0_isKey := goodIn_r _ [10] (by decide +kernel) (by decide +kernel)
set_option maxRecDepth 20000 in
theorem gX0_weight_X0_isKey : GoodIn wsX0_weight (va_wsS RX0 55 yX0_isKey wsX0_isKey) := goodIn_app (goodIn_of _ (by decide +kernel)) ggX0_weight_X0_isKey
set_option maxRecDepth 20000 in
theorem ggX0_weight_X0_vectorAt : GoodIn wsX0_weight wsX0_vectorAt := goodIn_r _ [14, 15, 16, 17, 18, 19, 20, 21, 22, 23, 6, 24, 38, 39, 40, 41, 42, 43, 44, 45, 46] (by decide +kernel) (by decide +kernel)
set_option maxRecDepth 20000 in
theorem gX0_weight_X0_vectorAt : GoodIn wsX0_weight (wsV RX0 72 RX0 yX0_vectorAt wsX0_vectorAt) := goodIn_app (goodIn_of _ (by decide +kernel)) ggX0_weight_X0_vectorAt
set_option maxRecDepth 20000 in
theorem ggX0_weight_X0_greatestOf : GoodIn wsX0_weight wsX0_greatestOf := goodIn_r _ [28, 15, 29, 30, 22, 23, 6, 24, 38, 39, 40, 41, 42, 43, 44, 45, 46] (by decide +kernel) (by decide +kernel)
set_option maxRecDepth 20000 in
theorem gX0_weight_X0_greatestOf : GoodIn wsX0_weight (wsV RX0 58 RX0 yX0_greatestOf wsX0_greatestOf) := goodIn_app (goodIn_of _ (by decide +kernel)) ggX0_weight_X0_greatestOf
set_option maxRecDepth 20000 in
theorem ggX0_weight_J13_bitCount_95d88 : GoodIn wsX0_weight wsJ13_bitCount_95d88 := goodIn_r _ [34, 35, 36, 37] (by decide +kernel) (by decide +kernel)
set_option maxRecDepth 20000 in
theorem gX0_weight_J13_bitCount_95d88 : GoodIn wsX0_weight (va_wsS RX0 62 yJ13_bitCount_95d88 wsJ13_bitCount_95d88) := goodIn_app (goodIn_of _ (by decide +kernel)) ggX0_weight_J13_bitCount_95d88
theorem dX0_weight_0 : decode cX0_weight 0 = .ok (.aload_n 0, 1) := by decide +kernel
theorem dX0_weight_1 : decode cX0_weight 1 = .ok (.iload_n 1, 1) := by decide +kernel
theorem dX0_weight_2 : decode cX0_weight 2 = .ok (.invokevirtual 48, 3) := by decide +kernel
theorem dX0_weight_5 : decode cX0_weight 5 = .ok (.ifCond .eq 10, 3) := by decide +kernel
theorem dX0_weight_8 : decode cX0_weight 8 = .ok (.iload_n 2, 1) := by decide +kernel
theorem dX0_weight_9 : decode cX0_weight 9 = .ok (.invokestatic 55, 3) := by decide +kernel
theorem dX0_weight_12 : decode cX0_weight 12 = .ok (.ifCond .ne 5, 3) := by decide +kernel
theorem dX0_weight_15 : decode cX0_weight 15 = .ok (.iconst (-1), 1) := by decide +kernel
theorem dX0_weight_16 : decode cX0_weight 16 = .ok (.ireturn, 1) := by decide +kernel
theorem dX0_weight_17 : decode cX0_weight 17 = .ok (.aload_n 0, 1) := by decide +kernel
theorem dX0_weight_18 : decode cX0_weight 18 = .ok (.getfield 42, 3) := by decide +kernel
theorem dX0_weight_21 : decode cX0_weight 21 = .ok (.iload_n 2, 1) := by decide +kernel
theorem dX0_weight_22 : decode cX0_weight 22 = .ok (.aaload, 1) := by decide +kernel
theorem dX0_weight_23 : decode cX0_weight 23 = .ok (.iload_n 1, 1) := by decide +kernel
theorem dX0_weight_24 : decode cX0_weight 24 = .ok (.laload, 1) := by decide +kernel
theorem dX0_weight_25 : decode cX0_weight 25 = .ok (.lstore_n 3, 1) := by decide +kernel
theorem dX0_weight_26 : decode cX0_weight 26 = .ok (.iconst 0, 1) := by decide +kernel
theorem dX0_weight_27 : decode cX0_weight 27 = .ok (.istore 5, 2) := by decide +kernel
theorem dX0_weight_29 : decode cX0_weight 29 = .ok (.iconst 0, 1) := by decide +kernel
theorem dX0_weight_30 : decode cX0_weight 30 = .ok (.istore 6, 2) := by decide +kernel
theorem dX0_weight_32 : decode cX0_weight 32 = .ok (.iload 6, 2) := by decide +kernel
theorem dX0_weight_34 : decode cX0_weight 34 = .ok (.aload_n 0, 1) := by decide +kernel
theorem dX0_weight_35 : decode cX0_weight 35 = .ok (.getfield 15, 3) := by decide +kernel
theorem dX0_weight_38 : decode cX0_weight 38 = .ok (.if_icmp .ge 23, 3) := by decide +kernel
theorem dX0_weight_41 : decode cX0_weight 41 = .ok (.aload_n 0, 1) := by decide +kernel
theorem dX0_weight_42 : decode cX0_weight 42 = .ok (.iload_n 2, 1) := by decide +kernel
theorem dX0_weight_43 : decode cX0_weight 43 = .ok (.lload_n 3, 1) := by decide +kernel
theorem dX0_weight_44 : decode cX0_weight 44 = .ok (.iload 6, 2) := by decide +kernel
theorem dX0_weight_46 : decode cX0_weight 46 = .ok (.invokevirtual 72, 3) := by decide +kernel
theorem dX0_weight_49 : decode cX0_weight 49 = .ok (.ifCond .le 6, 3) := by decide +kernel
theorem dX0_weight_52 : decode cX0_weight 52 = .ok (.iinc 5 1, 3) := by decide +kernel
theorem dX0_weight_55 : decode cX0_weight 55 = .ok (.iinc 6 1, 3) := by decide +kernel
theorem dX0_weight_58 : decode cX0_weight 58 = .ok (.goto (-26), 3) := by decide +kernel
theorem dX0_weight_61 : decode cX0_weight 61 = .ok (.iload 5, 2) := by decide +kernel
theorem dX0_weight_63 : decode cX0_weight 63 = .ok (.aload_n 0, 1) := by decide +kernel
theorem dX0_weight_64 : decode cX0_weight 64 = .ok (.iload_n 2, 1) := by decide +kernel
theorem dX0_weight_65 : decode cX0_weight 65 = .ok (.lload_n 3, 1) := by decide +kernel
theorem dX0_weight_66 : decode cX0_weight 66 = .ok (.invokevirtual 58, 3) := by decide +kernel
theorem dX0_weight_69 : decode cX0_weight 69 = .ok (.invokestatic 62, 3) := by decide +kernel
theorem dX0_weight_72 : decode cX0_weight 72 = .ok (.iadd, 1) := by decide +kernel
theorem dX0_weight_73 : decode cX0_weight 73 = .ok (.ireturn, 1) := by decide +kernel
theorem dX0_allowedParties_0 : decode cX0_allowedParties 0 = .ok (.iload_n 0, 1) := by decide +kernel
theorem dX0_allowedParties_1 : decode cX0_allowedParties 1 = .ok (.iconst 1, 1) := by decide +kernel
theorem dX0_allowedParties_2 : decode cX0_allowedParties 2 = .ok (.if_icmp .lt 12, 3) := by decide +kernel
theorem dX0_allowedParties_5 : decode cX0_allowedParties 5 = .ok (.iload_n 0, 1) := by decide +kernel
theorem dX0_allowedParties_6 : decode cX0_allowedParties 6 = .ok (.iconst 4, 1) := by decide +kernel
theorem dX0_allowedParties_7 : decode cX0_allowedParties 7 = .ok (.if_icmp .gt 7, 3) := by decide +kernel
theorem dX0_allowedParties_10 : decode cX0_allowedParties 10 = .ok (.iload_n 0, 1) := by decide +kernel
theorem dX0_allowedParties_11 : decode cX0_allowedParties 11 = .ok (.goto 4, 3) := by decide +kernel
theorem dX0_allowedParties_14 : decode cX0_allowedParties 14 = .ok (.iconst 1, 1) := by decide +kernel
theorem dX0_allowedParties_15 : decode cX0_allowedParties 15 = .ok (.ireturn, 1) := by decide +kernel
theorem dX0_isServer_0 : decode cX0_isServer 0 = .ok (.iload_n 1, 1) := by decide +kernel
theorem dX0_isServer_1 : decode cX0_isServer 1 = .ok (.ifCond .lt 15, 3) := by decide +kernel
theorem dX0_isServer_4 : decode cX0_isServer 4 = .ok (.iload_n 1, 1) := by decide +kernel
theorem dX0_isServer_5 : decode cX0_isServer 5 = .ok (.aload_n 0, 1) := by decide +kernel
theorem dX0_isServer_6 : decode cX0_isServer 6 = .ok (.getfield 15, 3) := by decide +kernel
theorem dX0_isServer_9 : decode cX0_isServer 9 = .ok (.if_icmp .ge 7, 3) := by decide +kernel
theorem dX0_isServer_12 : decode cX0_isServer 12 = .ok (.iconst 1, 1) := by decide +kernel
theorem dX0_isServer_13 : decode cX0_isServer 13 = .ok (.goto 4, 3) := by decide +kernel
theorem dX0_isServer_16 : decode cX0_isServer 16 = .ok (.iconst 0, 1) := by decide +kernel
theorem dX0_isServer_17 : decode cX0_isServer 17 = .ok (.ireturn, 1) := by decide +kernel
theorem dX0_isClient_0 : decode cX0_isClient 0 = .ok (.iload_n 1, 1) := by decide +kernel
theorem dX0_isClient_1 : decode cX0_isClient 1 = .ok (.ifCond .lt 15, 3) := by decide +kernel
theorem dX0_isClient_4 : decode cX0_isClient 4 = .ok (.iload_n 1, 1) := by decide +kernel
theorem dX0_isClient_5 : decode cX0_isClient 5 = .ok (.aload_n 0, 1) := by decide +kernel
theorem dX0_isClient_6 : decode cX0_isClient 6 = .ok (.getfield 19, 3) := by decide +kernel
theorem dX0_isClient_9 : decode cX0_isClient 9 = .ok (.if_icmp .ge 7, 3) := by decide +kernel
theorem dX0_isClient_12 : decode cX0_isClient 12 = .ok (.iconst 1, 1) := by decide +kernel
theorem dX0_isClient_13 : decode cX0_isClient 13 = .ok (.goto 4, 3) := by decide +kernel
theorem dX0_isClient_16 : decode cX0_isClient 16 = .ok (.iconst 0, 1) := by decide +kernel
theorem dX0_isClient_17 : decode cX0_isClient 17 = .ok (.ireturn, 1) := by decide +kernel
theorem dX0_isKey_0 : decode cX0_isKey 0 = .ok (.iload_n 0, 1) := by decide +kernel
theorem dX0_isKey_1 : decode cX0_isKey 1 = .ok (.ifCond .lt 12, 3) := by decide +kernel
theorem dX0_isKey_4 : decode cX0_isKey 4 = .ok (.iload_n 0, 1) := by decide +kernel
theorem dX0_isKey_5 : decode cX0_isKey 5 = .ok (.iconst 3, 1) := by decide +kernel
theorem dX0_isKey_6 : decode cX0_isKey 6 = .ok (.if_icmp .ge 7, 3) := by decide +kernel
theorem dX0_isKey_9 : decode cX0_isKey 9 = .ok (.iconst 1, 1) := by decide +kernel
theorem dX0_isKey_10 : decode cX0_isKey 10 = .ok (.goto 4, 3) := by decide +kernel
theorem dX0_isKey_13 : decode cX0_isKey 13 = .ok (.iconst 0, 1) := by decide +kernel
theorem dX0_isKey_14 : decode cX0_isKey 14 = .ok (.ireturn, 1) := by decide +kernel
theorem dX0_has_0 : decode cX0_has 0 = .ok (.lload_n 0, 1) := by decide +kernel
theorem dX0_has_1 : decode cX0_has 1 = .ok (.iload_n 2, 1) := by decide +kernel
theorem dX0_has_2 : decode cX0_has 2 = .ok (.lushr, 1) := by decide +kernel
theorem dX0_has_3 : decode cX0_has 3 = .ok (.lconst 1, 1) := by decide +kernel
theorem dX0_has_4 : decode cX0_has 4 = .ok (.land, 1) := by decide +kernel
theorem dX0_has_5 : decode cX0_has 5 = .ok (.lconst 0, 1) := by decide +kernel
theorem dX0_has_6 : decode cX0_has 6 = .ok (.lcmp, 1) := by decide +kernel
theorem dX0_has_7 : decode cX0_has 7 = .ok (.ifCond .eq 7, 3) := by decide +kernel
theorem dX0_has_10 : decode cX0_has 10 = .ok (.iconst 1, 1) := by decide +kernel
theorem dX0_has_11 : decode cX0_has 11 = .ok (.goto 4, 3) := by decide +kernel
theorem dX0_has_14 : decode cX0_has 14 = .ok (.iconst 0, 1) := by decide +kernel
theorem dX0_has_15 : decode cX0_has 15 = .ok (.ireturn, 1) := by decide +kernel
set_option maxRecDepth 20000 in
theorem ggX0_greatestOf_X0_has : GoodIn wsX0_greatestOf wsX0_has := goodIn_r _ [7] (by decide +kernel) (by decide +kernel)
set_option maxRecDepth 20000 in
theorem gX0_greatestOf_X0_has : GoodIn wsX0_greatestOf (va_wsS RX0 79 yX0_has wsX0_has) := goodIn_app (goodIn_of _ (by decide +kernel)) ggX0_greatestOf_X0_has
theorem dX0_greatestOf_0 : decode cX0_greatestOf 0 = .ok (.lconst 0, 1) := by decide +kernel
theorem dX0_greatestOf_1 : decode cX0_greatestOf 1 = .ok (.lstore 4, 2) := by decide +kernel
theorem dX0_greatestOf_3 : decode cX0_greatestOf 3 = .ok (.iconst 0, 1) := by decide +kernel
theorem dX0_greatestOf_4 : decode cX0_greatestOf 4 = .ok (.istore 6, 2) := by decide +kernel
theorem dX0_greatestOf_6 : decode cX0_greatestOf 6 = .ok (.iload 6, 2) := by decide +kernel
theorem dX0_greatestOf_8 : decode cX0_greatestOf 8 = .ok (.aload_n 0, 1) := by decide +kernel
theorem dX0_greatestOf_9 : decode cX0_greatestOf 9 = .ok (.getfield 22, 3) := by decide +kernel
theorem dX0_greatestOf_12 : decode cX0_greatestOf 12 = .ok (.iload_n 1, 1) := by decide +kernel
theorem dX0_greatestOf_13 : decode cX0_greatestOf 13 = .ok (.iaload, 1) := by decide +kernel
theorem dX0_greatestOf_14 : decode cX0_greatestOf 14 = .ok (.if_icmp .ge 32, 3) := by decide +kernel
theorem dX0_greatestOf_17 : decode cX0_greatestOf 17 = .ok (.lload_n 2, 1) := by decide +kernel
theorem dX0_greatestOf_18 : decode cX0_greatestOf 18 = .ok (.iload 6, 2) := by decide +kernel
theorem dX0_greatestOf_20 : decode cX0_greatestOf 20 = .ok (.invokestatic 79, 3) := by decide +kernel
theorem dX0_greatestOf_23 : decode cX0_greatestOf 23 = .ok (.ifCond .eq 17, 3) := by decide +kernel
theorem dX0_greatestOf_26 : decode cX0_greatestOf 26 = .ok (.lload 4, 2) := by decide +kernel
theorem dX0_greatestOf_28 : decode cX0_greatestOf 28 = .ok (.aload_n 0, 1) := by decide +kernel
theorem dX0_greatestOf_29 : decode cX0_greatestOf 29 = .ok (.getfield 39, 3) := by decide +kernel
theorem dX0_greatestOf_32 : decode cX0_greatestOf 32 = .ok (.iload_n 1, 1) := by decide +kernel
theorem dX0_greatestOf_33 : decode cX0_greatestOf 33 = .ok (.aaload, 1) := by decide +kernel
theorem dX0_greatestOf_34 : decode cX0_greatestOf 34 = .ok (.iload 6, 2) := by decide +kernel
theorem dX0_greatestOf_36 : decode cX0_greatestOf 36 = .ok (.laload, 1) := by decide +kernel
theorem dX0_greatestOf_37 : decode cX0_greatestOf 37 = .ok (.lor, 1) := by decide +kernel
theorem dX0_greatestOf_38 : decode cX0_greatestOf 38 = .ok (.lstore 4, 2) := by decide +kernel
theorem dX0_greatestOf_40 : decode cX0_greatestOf 40 = .ok (.iinc 6 1, 3) := by decide +kernel
theorem dX0_greatestOf_43 : decode cX0_greatestOf 43 = .ok (.goto (-37), 3) := by decide +kernel
theorem dX0_greatestOf_46 : decode cX0_greatestOf 46 = .ok (.lload_n 2, 1) := by decide +kernel
theorem dX0_greatestOf_47 : decode cX0_greatestOf 47 = .ok (.lload 4, 2) := by decide +kernel
theorem dX0_greatestOf_49 : decode cX0_greatestOf 49 = .ok (.ldc2_w 83, 3) := by decide +kernel
theorem dX0_greatestOf_52 : decode cX0_greatestOf 52 = .ok (.lxor, 1) := by decide +kernel
theorem dX0_greatestOf_53 : decode cX0_greatestOf 53 = .ok (.land, 1) := by decide +kernel
theorem dX0_greatestOf_54 : decode cX0_greatestOf 54 = .ok (.lreturn, 1) := by decide +kernel
set_option maxRecDepth 20000 in
theorem ggX0_siblingAt_X0_greatestOf : GoodIn wsX0_siblingAt wsX0_greatestOf := goodIn_r _ [8, 2, 9, 10, 11, 12, 7, 13, 14, 15, 16, 17, 18, 19, 20, 21, 22] (by decide +kernel) (by decide +kernel)
set_option maxRecDepth 20000 in
theorem gX0_siblingAt_X0_greatestOf : GoodIn wsX0_siblingAt (wsV RX0 58 RX0 yX0_greatestOf wsX0_greatestOf) := goodIn_app (goodIn_of _ (by decide +kernel)) ggX0_siblingAt_X0_greatestOf
set_option maxRecDepth 20000 in
theorem ggX0_siblingAt_X0_has : GoodIn wsX0_siblingAt wsX0_has := goodIn_r _ [13] (by decide +kernel) (by decide +kernel)
set_option maxRecDepth 20000 in
theorem gX0_siblingAt_X0_has : GoodIn wsX0_siblingAt (va_wsS RX0 79 yX0_has wsX0_has) := goodIn_app (goodIn_of _ (by decide +kernel)) ggX0_siblingAt_X0_has
theorem dX0_siblingAt_0 : decode cX0_siblingAt 0 = .ok (.aload_n 0, 1) := by decide +kernel
theorem dX0_siblingAt_1 : decode cX0_siblingAt 1 = .ok (.iload_n 1, 1) := by decide +kernel
theorem dX0_siblingAt_2 : decode cX0_siblingAt 2 = .ok (.lload_n 2, 1) := by decide +kernel
theorem dX0_siblingAt_3 : decode cX0_siblingAt 3 = .ok (.invokevirtual 58, 3) := by decide +kernel
theorem dX0_siblingAt_6 : decode cX0_siblingAt 6 = .ok (.lstore 5, 2) := by decide +kernel
theorem dX0_siblingAt_8 : decode cX0_siblingAt 8 = .ok (.iconst 0, 1) := by decide +kernel
theorem dX0_siblingAt_9 : decode cX0_siblingAt 9 = .ok (.istore 7, 2) := by decide +kernel
theorem dX0_siblingAt_11 : decode cX0_siblingAt 11 = .ok (.iconst 0, 1) := by decide +kernel
theorem dX0_siblingAt_12 : decode cX0_siblingAt 12 = .ok (.istore 8, 2) := by decide +kernel
theorem dX0_siblingAt_14 : decode cX0_siblingAt 14 = .ok (.iload 8, 2) := by decide +kernel
theorem dX0_siblingAt_16 : decode cX0_siblingAt 16 = .ok (.aload_n 0, 1) := by decide +kernel
theorem dX0_siblingAt_17 : decode cX0_siblingAt 17 = .ok (.getfield 15, 3) := by decide +kernel
theorem dX0_siblingAt_20 : decode cX0_siblingAt 20 = .ok (.if_icmp .ge 66, 3) := by decide +kernel
theorem dX0_siblingAt_23 : decode cX0_siblingAt 23 = .ok (.iconst 0, 1) := by decide +kernel
theorem dX0_siblingAt_24 : decode cX0_siblingAt 24 = .ok (.istore 9, 2) := by decide +kernel
theorem dX0_siblingAt_26 : decode cX0_siblingAt 26 = .ok (.iload 9, 2) := by decide +kernel
theorem dX0_siblingAt_28 : decode cX0_siblingAt 28 = .ok (.aload_n 0, 1) := by decide +kernel
theorem dX0_siblingAt_29 : decode cX0_siblingAt 29 = .ok (.getfield 22, 3) := by decide +kernel
theorem dX0_siblingAt_32 : decode cX0_siblingAt 32 = .ok (.iload_n 1, 1) := by decide +kernel
theorem dX0_siblingAt_33 : decode cX0_siblingAt 33 = .ok (.iaload, 1) := by decide +kernel
theorem dX0_siblingAt_34 : decode cX0_siblingAt 34 = .ok (.if_icmp .ge 46, 3) := by decide +kernel
theorem dX0_siblingAt_37 : decode cX0_siblingAt 37 = .ok (.aload_n 0, 1) := by decide +kernel
theorem dX0_siblingAt_38 : decode cX0_siblingAt 38 = .ok (.getfield 31, 3) := by decide +kernel
theorem dX0_siblingAt_41 : decode cX0_siblingAt 41 = .ok (.iload_n 1, 1) := by decide +kernel
theorem dX0_siblingAt_42 : decode cX0_siblingAt 42 = .ok (.aaload, 1) := by decide +kernel
theorem dX0_siblingAt_43 : decode cX0_siblingAt 43 = .ok (.iload 9, 2) := by decide +kernel
theorem dX0_siblingAt_45 : decode cX0_siblingAt 45 = .ok (.iaload, 1) := by decide +kernel
theorem dX0_siblingAt_46 : decode cX0_siblingAt 46 = .ok (.iload 8, 2) := by decide +kernel
theorem dX0_siblingAt_48 : decode cX0_siblingAt 48 = .ok (.if_icmp .ne 26, 3) := by decide +kernel
theorem dX0_siblingAt_51 : decode cX0_siblingAt 51 = .ok (.lload 5, 2) := by decide +kernel
theorem dX0_siblingAt_53 : decode cX0_siblingAt 53 = .ok (.iload 9, 2) := by decide +kernel
theorem dX0_siblingAt_55 : decode cX0_siblingAt 55 = .ok (.invokestatic 79, 3) := by decide +kernel
theorem dX0_siblingAt_58 : decode cX0_siblingAt 58 = .ok (.ifCond .eq 16, 3) := by decide +kernel
theorem dX0_siblingAt_61 : decode cX0_siblingAt 61 = .ok (.iload 7, 2) := by decide +kernel
theorem dX0_siblingAt_63 : decode cX0_siblingAt 63 = .ok (.iload 4, 2) := by decide +kernel
theorem dX0_siblingAt_65 : decode cX0_siblingAt 65 = .ok (.if_icmp .ne 6, 3) := by decide +kernel
theorem dX0_siblingAt_68 : decode cX0_siblingAt 68 = .ok (.iload 9, 2) := by decide +kernel
theorem dX0_siblingAt_70 : decode cX0_siblingAt 70 = .ok (.ireturn, 1) := by decide +kernel
theorem dX0_siblingAt_71 : decode cX0_siblingAt 71 = .ok (.iinc 7 1, 3) := by decide +kernel
theorem dX0_siblingAt_74 : decode cX0_siblingAt 74 = .ok (.iinc 9 1, 3) := by decide +kernel
theorem dX0_siblingAt_77 : decode cX0_siblingAt 77 = .ok (.goto (-51), 3) := by decide +kernel
theorem dX0_siblingAt_80 : decode cX0_siblingAt 80 = .ok (.iinc 8 1, 3) := by decide +kernel
theorem dX0_siblingAt_83 : decode cX0_siblingAt 83 = .ok (.goto (-69), 3) := by decide +kernel
theorem dX0_siblingAt_86 : decode cX0_siblingAt 86 = .ok (.iconst (-1), 1) := by decide +kernel
theorem dX0_siblingAt_87 : decode cX0_siblingAt 87 = .ok (.ireturn, 1) := by decide +kernel
theorem dX0_detailOf_0 : decode cX0_detailOf 0 = .ok (.iload_n 3, 1) := by decide +kernel
theorem dX0_detailOf_1 : decode cX0_detailOf 1 = .ok (.tableswitch 64 0 3 #[31, 41, 51, 61], 31) := by decide +kernel
theorem dX0_detailOf_32 : decode cX0_detailOf 32 = .ok (.aload_n 0, 1) := by decide +kernel
theorem dX0_detailOf_33 : decode cX0_detailOf 33 = .ok (.getfield 28, 3) := by decide +kernel
theorem dX0_detailOf_36 : decode cX0_detailOf 36 = .ok (.iload_n 1, 1) := by decide +kernel
theorem dX0_detailOf_37 : decode cX0_detailOf 37 = .ok (.aaload, 1) := by decide +kernel
theorem dX0_detailOf_38 : decode cX0_detailOf 38 = .ok (.iload_n 2, 1) := by decide +kernel
theorem dX0_detailOf_39 : decode cX0_detailOf 39 = .ok (.iaload, 1) := by decide +kernel
theorem dX0_detailOf_40 : decode cX0_detailOf 40 = .ok (.i2l, 1) := by decide +kernel
theorem dX0_detailOf_41 : decode cX0_detailOf 41 = .ok (.lreturn, 1) := by decide +kernel
theorem dX0_detailOf_42 : decode cX0_detailOf 42 = .ok (.aload_n 0, 1) := by decide +kernel
theorem dX0_detailOf_43 : decode cX0_detailOf 43 = .ok (.getfield 31, 3) := by decide +kernel
theorem dX0_detailOf_46 : decode cX0_detailOf 46 = .ok (.iload_n 1, 1) := by decide +kernel
theorem dX0_detailOf_47 : decode cX0_detailOf 47 = .ok (.aaload, 1) := by decide +kernel
theorem dX0_detailOf_48 : decode cX0_detailOf 48 = .ok (.iload_n 2, 1) := by decide +kernel
theorem dX0_detailOf_49 : decode cX0_detailOf 49 = .ok (.iaload, 1) := by decide +kernel
theorem dX0_detailOf_50 : decode cX0_detailOf 50 = .ok (.i2l, 1) := by decide +kernel
theorem dX0_detailOf_51 : decode cX0_detailOf 51 = .ok (.lreturn, 1) := by decide +kernel
theorem dX0_detailOf_52 : decode cX0_detailOf 52 = .ok (.aload_n 0, 1) := by decide +kernel
theorem dX0_detailOf_53 : decode cX0_detailOf 53 = .ok (.getfield 34, 3) := by decide +kernel
theorem dX0_detailOf_56 : decode cX0_detailOf 56 = .ok (.iload_n 1, 1) := by decide +kernel
theorem dX0_detailOf_57 : decode cX0_detailOf 57 = .ok (.aaload, 1) := by decide +kernel
theorem dX0_detailOf_58 : decode cX0_detailOf 58 = .ok (.iload_n 2, 1) := by decide +kernel
theorem dX0_detailOf_59 : decode cX0_detailOf 59 = .ok (.iaload, 1) := by decide +kernel
theorem dX0_detailOf_60 : decode cX0_detailOf 60 = .ok (.i2l, 1) := by decide +kernel
theorem dX0_detailOf_61 : decode cX0_detailOf 61 = .ok (.lreturn, 1) := by decide +kernel
theorem dX0_detailOf_62 : decode cX0_detailOf 62 = .ok (.iload_n 2, 1) := by decide +kernel
theorem dX0_detailOf_63 : decode cX0_detailOf 63 = .ok (.i2l, 1) := by decide +kernel
theorem dX0_detailOf_64 : decode cX0_detailOf 64 = .ok (.lreturn, 1) := by decide +kernel
theorem dX0_detailOf_65 : decode cX0_detailOf 65 = .ok (.ldc2_w 66, 3) := by decide +kernel
theorem dX0_detailOf_68 : decode cX0_detailOf 68 = .ok (.lreturn, 1) := by decide +kernel
set_option maxRecDepth 20000 in
theorem ggX0_vectorAt_X0_has : GoodIn wsX0_vectorAt wsX0_has := goodIn_r _ [11] (by decide +kernel) (by decide +kernel)
set_option maxRecDepth 20000 in
theorem gX0_vectorAt_X0_has : GoodIn wsX0_vectorAt (va_wsS RX0 79 yX0_has wsX0_has) := goodIn_app (goodIn_of _ (by decide +kernel)) ggX0_vectorAt_X0_has
theorem dX0_vectorAt_0 : decode cX0_vectorAt 0 = .ok (.iconst 0, 1) := by decide +kernel
theorem dX0_vectorAt_1 : decode cX0_vectorAt 1 = .ok (.istore 5, 2) := by decide +kernel
theorem dX0_vectorAt_3 : decode cX0_vectorAt 3 = .ok (.iconst 0, 1) := by decide +kernel
theorem dX0_vectorAt_4 : decode cX0_vectorAt 4 = .ok (.istore 6, 2) := by decide +kernel
theorem dX0_vectorAt_6 : decode cX0_vectorAt 6 = .ok (.iload 6, 2) := by decide +kernel
theorem dX0_vectorAt_8 : decode cX0_vectorAt 8 = .ok (.aload_n 0, 1) := by decide +kernel
theorem dX0_vectorAt_9 : decode cX0_vectorAt 9 = .ok (.getfield 22, 3) := by decide +kernel
theorem dX0_vectorAt_12 : decode cX0_vectorAt 12 = .ok (.iload_n 1, 1) := by decide +kernel
theorem dX0_vectorAt_13 : decode cX0_vectorAt 13 = .ok (.iaload, 1) := by decide +kernel
theorem dX0_vectorAt_14 : decode cX0_vectorAt 14 = .ok (.if_icmp .ge 48, 3) := by decide +kernel
theorem dX0_vectorAt_17 : decode cX0_vectorAt 17 = .ok (.aload_n 0, 1) := by decide +kernel
theorem dX0_vectorAt_18 : decode cX0_vectorAt 18 = .ok (.getfield 31, 3) := by decide +kernel
theorem dX0_vectorAt_21 : decode cX0_vectorAt 21 = .ok (.iload_n 1, 1) := by decide +kernel
theorem dX0_vectorAt_22 : decode cX0_vectorAt 22 = .ok (.aaload, 1) := by decide +kernel
theorem dX0_vectorAt_23 : decode cX0_vectorAt 23 = .ok (.iload 6, 2) := by decide +kernel
theorem dX0_vectorAt_25 : decode cX0_vectorAt 25 = .ok (.iaload, 1) := by decide +kernel
theorem dX0_vectorAt_26 : decode cX0_vectorAt 26 = .ok (.iload 4, 2) := by decide +kernel
theorem dX0_vectorAt_28 : decode cX0_vectorAt 28 = .ok (.if_icmp .ne 28, 3) := by decide +kernel
theorem dX0_vectorAt_31 : decode cX0_vectorAt 31 = .ok (.lload_n 2, 1) := by decide +kernel
theorem dX0_vectorAt_32 : decode cX0_vectorAt 32 = .ok (.iload 6, 2) := by decide +kernel
theorem dX0_vectorAt_34 : decode cX0_vectorAt 34 = .ok (.invokestatic 79, 3) := by decide +kernel
theorem dX0_vectorAt_37 : decode cX0_vectorAt 37 = .ok (.ifCond .eq 19, 3) := by decide +kernel
theorem dX0_vectorAt_40 : decode cX0_vectorAt 40 = .ok (.iload 5, 2) := by decide +kernel
theorem dX0_vectorAt_42 : decode cX0_vectorAt 42 = .ok (.aload_n 0, 1) := by decide +kernel
theorem dX0_vectorAt_43 : decode cX0_vectorAt 43 = .ok (.getfield 34, 3) := by decide +kernel
theorem dX0_vectorAt_46 : decode cX0_vectorAt 46 = .ok (.iload_n 1, 1) := by decide +kernel
theorem dX0_vectorAt_47 : decode cX0_vectorAt 47 = .ok (.aaload, 1) := by decide +kernel
theorem dX0_vectorAt_48 : decode cX0_vectorAt 48 = .ok (.iload 6, 2) := by decide +kernel
theorem dX0_vectorAt_50 : decode cX0_vectorAt 50 = .ok (.iaload, 1) := by decide +kernel
theorem dX0_vectorAt_51 : decode cX0_vectorAt 51 = .ok (.invokestatic 85, 3) := by decide +kernel
theorem dX0_vectorAt_54 : decode cX0_vectorAt 54 = .ok (.istore 5, 2) := by decide +kernel
theorem dX0_vectorAt_56 : decode cX0_vectorAt 56 = .ok (.iinc 6 1, 3) := by decide +kernel
theorem dX0_vectorAt_59 : decode cX0_vectorAt 59 = .ok (.goto (-53), 3) := by decide +kernel
theorem dX0_vectorAt_62 : decode cX0_vectorAt 62 = .ok (.iload 5, 2) := by decide +kernel
theorem dX0_vectorAt_64 : decode cX0_vectorAt 64 = .ok (.ireturn, 1) := by decide +kernel
theorem dX1_init_0 : decode cX1_init 0 = .ok (.aload_n 0, 1) := by decide +kernel
theorem dX1_init_1 : decode cX1_init 1 = .ok (.invokespecial 1, 3) := by decide +kernel
theorem dX1_init_4 : decode cX1_init 4 = .ok (.aload_n 0, 1) := by decide +kernel
theorem dX1_init_5 : decode cX1_init 5 = .ok (.iconst 3, 1) := by decide +kernel
theorem dX1_init_6 : decode cX1_init 6 = .ok (.newarray .int, 2) := by decide +kernel
theorem dX1_init_8 : decode cX1_init 8 = .ok (.putfield 7, 3) := by decide +kernel
theorem dX1_init_11 : decode cX1_init 11 = .ok (.aload_n 0, 1) := by decide +kernel
theorem dX1_init_12 : decode cX1_init 12 = .ok (.bipush 120, 2) := by decide +kernel
theorem dX1_init_14 : decode cX1_init 14 = .ok (.newarray .int, 2) := by decide +kernel
theorem dX1_init_16 : decode cX1_init 16 = .ok (.putfield 13, 3) := by decide +kernel
theorem dX1_init_19 : decode cX1_init 19 = .ok (.aload_n 0, 1) := by decide +kernel
theorem dX1_init_20 : decode cX1_init 20 = .ok (.bipush 120, 2) := by decide +kernel
theorem dX1_init_22 : decode cX1_init 22 = .ok (.newarray .int, 2) := by decide +kernel
theorem dX1_init_24 : decode cX1_init 24 = .ok (.putfield 16, 3) := by decide +kernel
theorem dX1_init_27 : decode cX1_init 27 = .ok (.aload_n 0, 1) := by decide +kernel
theorem dX1_init_28 : decode cX1_init 28 = .ok (.bipush 120, 2) := by decide +kernel
theorem dX1_init_30 : decode cX1_init 30 = .ok (.newarray .int, 2) := by decide +kernel
theorem dX1_init_32 : decode cX1_init 32 = .ok (.putfield 19, 3) := by decide +kernel
theorem dX1_init_35 : decode cX1_init 35 = .ok (.aload_n 0, 1) := by decide +kernel
theorem dX1_init_36 : decode cX1_init 36 = .ok (.bipush 120, 2) := by decide +kernel
theorem dX1_init_38 : decode cX1_init 38 = .ok (.newarray .long, 2) := by decide +kernel
theorem dX1_init_40 : decode cX1_init 40 = .ok (.putfield 22, 3) := by decide +kernel
theorem dX1_init_43 : decode cX1_init 43 = .ok (.aload_n 0, 1) := by decide +kernel
theorem dX1_init_44 : decode cX1_init 44 = .ok (.bipush 12, 2) := by decide +kernel
theorem dX1_init_46 : decode cX1_init 46 = .ok (.newarray .long, 2) := by decide +kernel
theorem dX1_init_48 : decode cX1_init 48 = .ok (.putfield 26, 3) := by decide +kernel
theorem dX1_init_51 : decode cX1_init 51 = .ok (.aload_n 0, 1) := by decide +kernel
theorem dX1_init_52 : decode cX1_init 52 = .ok (.bipush 12, 2) := by decide +kernel
theorem dX1_init_54 : decode cX1_init 54 = .ok (.newarray .long, 2) := by decide +kernel
theorem dX1_init_56 : decode cX1_init 56 = .ok (.putfield 29, 3) := by decide +kernel
theorem dX1_init_59 : decode cX1_init 59 = .ok (.aload_n 0, 1) := by decide +kernel
theorem dX1_init_60 : decode cX1_init 60 = .ok (.bipush 12, 2) := by decide +kernel
theorem dX1_init_62 : decode cX1_init 62 = .ok (.newarray .long, 2) := by decide +kernel
theorem dX1_init_64 : decode cX1_init 64 = .ok (.putfield 32, 3) := by decide +kernel
theorem dX1_init_67 : decode cX1_init 67 = .ok (.aload_n 0, 1) := by decide +kernel
theorem dX1_init_68 : decode cX1_init 68 = .ok (.iload_n 1, 1) := by decide +kernel
theorem dX1_init_69 : decode cX1_init 69 = .ok (.iconst 1, 1) := by decide +kernel
theorem dX1_init_70 : decode cX1_init 70 = .ok (.if_icmp .lt 12, 3) := by decide +kernel
theorem dX1_init_73 : decode cX1_init 73 = .ok (.iload_n 1, 1) := by decide +kernel
theorem dX1_init_74 : decode cX1_init 74 = .ok (.iconst 4, 1) := by decide +kernel
theorem dX1_init_75 : decode cX1_init 75 = .ok (.if_icmp .gt 7, 3) := by decide +kernel
theorem dX1_init_78 : decode cX1_init 78 = .ok (.iload_n 1, 1) := by decide +kernel
theorem dX1_init_79 : decode cX1_init 79 = .ok (.goto 4, 3) := by decide +kernel
theorem dX1_init_82 : decode cX1_init 82 = .ok (.iconst 1, 1) := by decide +kernel
theorem dX1_init_83 : decode cX1_init 83 = .ok (.putfield 35, 3) := by decide +kernel
theorem dX1_init_86 : decode cX1_init 86 = .ok (.aload_n 0, 1) := by decide +kernel
theorem dX1_init_87 : decode cX1_init 87 = .ok (.iload_n 2, 1) := by decide +kernel
theorem dX1_init_88 : decode cX1_init 88 = .ok (.iconst 1, 1) := by decide +kernel
theorem dX1_init_89 : decode cX1_init 89 = .ok (.if_icmp .lt 12, 3) := by decide +kernel
theorem dX1_init_92 : decode cX1_init 92 = .ok (.iload_n 2, 1) := by decide +kernel
theorem dX1_init_93 : decode cX1_init 93 = .ok (.iconst 4, 1) := by decide +kernel
theorem dX1_init_94 : decode cX1_init 94 = .ok (.if_icmp .gt 7, 3) := by decide +kernel
theorem dX1_init_97 : decode cX1_init 97 = .ok (.iload_n 2, 1) := by decide +kernel
theorem dX1_init_98 : decode cX1_init 98 = .ok (.goto 4, 3) := by decide +kernel
theorem dX1_init_101 : decode cX1_init 101 = .ok (.iconst 1, 1) := by decide +kernel
theorem dX1_init_102 : decode cX1_init 102 = .ok (.putfield 39, 3) := by decide +kernel
theorem dX1_init_105 : decode cX1_init 105 = .ok (.return_, 1) := by decide +kernel
theorem dX1_isServer_0 : decode cX1_isServer 0 = .ok (.iload_n 1, 1) := by decide +kernel
theorem dX1_isServer_1 : decode cX1_isServer 1 = .ok (.ifCond .lt 15, 3) := by decide +kernel
theorem dX1_isServer_4 : decode cX1_isServer 4 = .ok (.iload_n 1, 1) := by decide +kernel
theorem dX1_isServer_5 : decode cX1_isServer 5 = .ok (.aload_n 0, 1) := by decide +kernel
theorem dX1_isServer_6 : decode cX1_isServer 6 = .ok (.getfield 35, 3) := by decide +kernel
theorem dX1_isServer_9 : decode cX1_isServer 9 = .ok (.if_icmp .ge 7, 3) := by decide +kernel
theorem dX1_isServer_12 : decode cX1_isServer 12 = .ok (.iconst 1, 1) := by decide +kernel
theorem dX1_isServer_13 : decode cX1_isServer 13 = .ok (.goto 4, 3) := by decide +kernel
theorem dX1_isServer_16 : decode cX1_isServer 16 = .ok (.iconst 0, 1) := by decide +kernel
theorem dX1_isServer_17 : decode cX1_isServer 17 = .ok (.ireturn, 1) := by decide +kernel
theorem dX1_isClient_0 : decode cX1_isClient 0 = .ok (.iload_n 1, 1) := by decide +kernel
theorem dX1_isClient_1 : decode cX1_isClient 1 = .ok (.ifCond .lt 15, 3) := by decide +kernel
theorem dX1_isClient_4 : decode cX1_isClient 4 = .ok (.iload_n 1, 1) := by decide +kernel
theorem dX1_isClient_5 : decode cX1_isClient 5 = .ok (.aload_n 0, 1) := by decide +kernel
theorem dX1_isClient_6 : decode cX1_isClient 6 = .ok (.getfield 39, 3) := by decide +kernel
theorem dX1_isClient_9 : decode cX1_isClient 9 = .ok (.if_icmp .ge 7, 3) := by decide +kernel
theorem dX1_isClient_12 : decode cX1_isClient 12 = .ok (.iconst 1, 1) := by decide +kernel
theorem dX1_isClient_13 : decode cX1_isClient 13 = .ok (.goto 4, 3) := by decide +kernel
theorem dX1_isClient_16 : decode cX1_isClient 16 = .ok (.iconst 0, 1) := by decide +kernel
theorem dX1_isClient_17 : decode cX1_isClient 17 = .ok (.ireturn, 1) := by decide +kernel
theorem dX1_isKey_0 : decode cX1_isKey 0 = .ok (.iload_n 0, 1) := by decide +kernel
theorem dX1_isKey_1 : decode cX1_isKey 1 = .ok (.ifCond .lt 12, 3) := by decide +kernel
theorem dX1_isKey_4 : decode cX1_isKey 4 = .ok (.iload_n 0, 1) := by decide +kernel
theorem dX1_isKey_5 : decode cX1_isKey 5 = .ok (.iconst 3, 1) := by decide +kernel
theorem dX1_isKey_6 : decode cX1_isKey 6 = .ok (.if_icmp .ge 7, 3) := by decide +kernel
theorem dX1_isKey_9 : decode cX1_isKey 9 = .ok (.iconst 1, 1) := by decide +kernel
theorem dX1_isKey_10 : decode cX1_isKey 10 = .ok (.goto 4, 3) := by decide +kernel
theorem dX1_isKey_13 : decode cX1_isKey 13 = .ok (.iconst 0, 1) := by decide +kernel
theorem dX1_isKey_14 : decode cX1_isKey 14 = .ok (.ireturn, 1) := by decide +kernel
theorem dX1_newest_0 : decode cX1_newest 0 = .ok (.lconst 0, 1) := by decide +kernel
theorem dX1_newest_1 : decode cX1_newest 1 = .ok (.lstore 4, 2) := by decide +kernel
theorem dX1_newest_3 : decode cX1_newest 3 = .ok (.iconst 0, 1) := by decide +kernel
theorem dX1_newest_4 : decode cX1_newest 4 = .ok (.istore 6, 2) := by decide +kernel
theorem dX1_newest_6 : decode cX1_newest 6 = .ok (.iload 6, 2) := by decide +kernel
theorem dX1_newest_8 : decode cX1_newest 8 = .ok (.aload_n 0, 1) := by decide +kernel
theorem dX1_newest_9 : decode cX1_newest 9 = .ok (.getfield 7, 3) := by decide +kernel
theorem dX1_newest_12 : decode cX1_newest 12 = .ok (.iload_n 3, 1) := by decide +kernel
theorem dX1_newest_13 : decode cX1_newest 13 = .ok (.iaload, 1) := by decide +kernel
theorem dX1_newest_14 : decode cX1_newest 14 = .ok (.if_icmp .ge 41, 3) := by decide +kernel
theorem dX1_newest_17 : decode cX1_newest 17 = .ok (.lload 4, 2) := by decide +kernel
theorem dX1_newest_19 : decode cX1_newest 19 = .ok (.lload_n 1, 1) := by decide +kernel
theorem dX1_newest_20 : decode cX1_newest 20 = .ok (.iload 6, 2) := by decide +kernel
theorem dX1_newest_22 : decode cX1_newest 22 = .ok (.lshr, 1) := by decide +kernel
theorem dX1_newest_23 : decode cX1_newest 23 = .ok (.lconst 1, 1) := by decide +kernel
theorem dX1_newest_24 : decode cX1_newest 24 = .ok (.land, 1) := by decide +kernel
theorem dX1_newest_25 : decode cX1_newest 25 = .ok (.lconst 1, 1) := by decide +kernel
theorem dX1_newest_26 : decode cX1_newest 26 = .ok (.lcmp, 1) := by decide +kernel
theorem dX1_newest_27 : decode cX1_newest 27 = .ok (.ifCond .ne 18, 3) := by decide +kernel
theorem dX1_newest_30 : decode cX1_newest 30 = .ok (.aload_n 0, 1) := by decide +kernel
theorem dX1_newest_31 : decode cX1_newest 31 = .ok (.getfield 22, 3) := by decide +kernel
theorem dX1_newest_34 : decode cX1_newest 34 = .ok (.bipush 40, 2) := by decide +kernel
theorem dX1_newest_36 : decode cX1_newest 36 = .ok (.iload_n 3, 1) := by decide +kernel
theorem dX1_newest_37 : decode cX1_newest 37 = .ok (.imul, 1) := by decide +kernel
theorem dX1_newest_38 : decode cX1_newest 38 = .ok (.iload 6, 2) := by decide +kernel
theorem dX1_newest_40 : decode cX1_newest 40 = .ok (.iadd, 1) := by decide +kernel
theorem dX1_newest_41 : decode cX1_newest 41 = .ok (.laload, 1) := by decide +kernel
theorem dX1_newest_42 : decode cX1_newest 42 = .ok (.goto 4, 3) := by decide +kernel
theorem dX1_newest_45 : decode cX1_newest 45 = .ok (.lconst 0, 1) := by decide +kernel
theorem dX1_newest_46 : decode cX1_newest 46 = .ok (.lor, 1) := by decide +kernel
theorem dX1_newest_47 : decode cX1_newest 47 = .ok (.lstore 4, 2) := by decide +kernel
theorem dX1_newest_49 : decode cX1_newest 49 = .ok (.iinc 6 1, 3) := by decide +kernel
theorem dX1_newest_52 : decode cX1_newest 52 = .ok (.goto (-46), 3) := by decide +kernel
theorem dX1_newest_55 : decode cX1_newest 55 = .ok (.lload_n 1, 1) := by decide +kernel
theorem dX1_newest_56 : decode cX1_newest 56 = .ok (.lload 4, 2) := by decide +kernel
theorem dX1_newest_58 : decode cX1_newest 58 = .ok (.ldc2_w 42, 3) := by decide +kernel
theorem dX1_newest_61 : decode cX1_newest 61 = .ok (.lxor, 1) := by decide +kernel
theorem dX1_newest_62 : decode cX1_newest 62 = .ok (.land, 1) := by decide +kernel
theorem dX1_newest_63 : decode cX1_newest 63 = .ok (.lreturn, 1) := by decide +kernel
theorem dX1_sizeOf_0 : decode cX1_sizeOf 0 = .ok (.iconst 0, 1) := by decide +kernel
theorem dX1_sizeOf_1 : decode cX1_sizeOf 1 = .ok (.istore_n 2, 1) := by decide +kernel
theorem dX1_sizeOf_2 : decode cX1_sizeOf 2 = .ok (.iconst 0, 1) := by decide +kernel
theorem dX1_sizeOf_3 : decode cX1_sizeOf 3 = .ok (.istore_n 3, 1) := by decide +kernel
theorem dX1_sizeOf_4 : decode cX1_sizeOf 4 = .ok (.iload_n 3, 1) := by decide +kernel
theorem dX1_sizeOf_5 : decode cX1_sizeOf 5 = .ok (.bipush 40, 2) := by decide +kernel
theorem dX1_sizeOf_7 : decode cX1_sizeOf 7 = .ok (.if_icmp .ge 19, 3) := by decide +kernel
theorem dX1_sizeOf_10 : decode cX1_sizeOf 10 = .ok (.iload_n 2, 1) := by decide +kernel
theorem dX1_sizeOf_11 : decode cX1_sizeOf 11 = .ok (.i2l, 1) := by decide +kernel
theorem dX1_sizeOf_12 : decode cX1_sizeOf 12 = .ok (.lload_n 0, 1) := by decide +kernel
theorem dX1_sizeOf_13 : decode cX1_sizeOf 13 = .ok (.iload_n 3, 1) := by decide +kernel
theorem dX1_sizeOf_14 : decode cX1_sizeOf 14 = .ok (.lshr, 1) := by decide +kernel
theorem dX1_sizeOf_15 : decode cX1_sizeOf 15 = .ok (.lconst 1, 1) := by decide +kernel
theorem dX1_sizeOf_16 : decode cX1_sizeOf 16 = .ok (.land, 1) := by decide +kernel
theorem dX1_sizeOf_17 : decode cX1_sizeOf 17 = .ok (.ladd, 1) := by decide +kernel
theorem dX1_sizeOf_18 : decode cX1_sizeOf 18 = .ok (.l2i, 1) := by decide +kernel
theorem dX1_sizeOf_19 : decode cX1_sizeOf 19 = .ok (.istore_n 2, 1) := by decide +kernel
theorem dX1_sizeOf_20 : decode cX1_sizeOf 20 = .ok (.iinc 3 1, 3) := by decide +kernel
theorem dX1_sizeOf_23 : decode cX1_sizeOf 23 = .ok (.goto (-19), 3) := by decide +kernel
theorem dX1_sizeOf_26 : decode cX1_sizeOf 26 = .ok (.iload_n 2, 1) := by decide +kernel
theorem dX1_sizeOf_27 : decode cX1_sizeOf 27 = .ok (.ireturn, 1) := by decide +kernel
theorem dX1_at_0 : decode cX1_at 0 = .ok (.iconst 0, 1) := by decide +kernel
theorem dX1_at_1 : decode cX1_at 1 = .ok (.istore 5, 2) := by decide +kernel
theorem dX1_at_3 : decode cX1_at 3 = .ok (.iconst 0, 1) := by decide +kernel
theorem dX1_at_4 : decode cX1_at 4 = .ok (.istore 6, 2) := by decide +kernel
theorem dX1_at_6 : decode cX1_at 6 = .ok (.iload 6, 2) := by decide +kernel
theorem dX1_at_8 : decode cX1_at 8 = .ok (.aload_n 0, 1) := by decide +kernel
theorem dX1_at_9 : decode cX1_at 9 = .ok (.getfield 35, 3) := by decide +kernel
theorem dX1_at_12 : decode cX1_at 12 = .ok (.if_icmp .ge 70, 3) := by decide +kernel
theorem dX1_at_15 : decode cX1_at 15 = .ok (.iconst 0, 1) := by decide +kernel
theorem dX1_at_16 : decode cX1_at 16 = .ok (.istore 7, 2) := by decide +kernel
theorem dX1_at_18 : decode cX1_at 18 = .ok (.iload 7, 2) := by decide +kernel
theorem dX1_at_20 : decode cX1_at 20 = .ok (.aload_n 0, 1) := by decide +kernel
theorem dX1_at_21 : decode cX1_at 21 = .ok (.getfield 7, 3) := by decide +kernel
theorem dX1_at_24 : decode cX1_at 24 = .ok (.iload_n 3, 1) := by decide +kernel
theorem dX1_at_25 : decode cX1_at 25 = .ok (.iaload, 1) := by decide +kernel
theorem dX1_at_26 : decode cX1_at 26 = .ok (.if_icmp .ge 50, 3) := by decide +kernel
theorem dX1_at_29 : decode cX1_at 29 = .ok (.lload_n 1, 1) := by decide +kernel
theorem dX1_at_30 : decode cX1_at 30 = .ok (.iload 7, 2) := by decide +kernel
theorem dX1_at_32 : decode cX1_at 32 = .ok (.lshr, 1) := by decide +kernel
theorem dX1_at_33 : decode cX1_at 33 = .ok (.lconst 1, 1) := by decide +kernel
theorem dX1_at_34 : decode cX1_at 34 = .ok (.land, 1) := by decide +kernel
theorem dX1_at_35 : decode cX1_at 35 = .ok (.lconst 1, 1) := by decide +kernel
theorem dX1_at_36 : decode cX1_at 36 = .ok (.lcmp, 1) := by decide +kernel
theorem dX1_at_37 : decode cX1_at 37 = .ok (.ifCond .ne 33, 3) := by decide +kernel
theorem dX1_at_40 : decode cX1_at 40 = .ok (.aload_n 0, 1) := by decide +kernel
theorem dX1_at_41 : decode cX1_at 41 = .ok (.getfield 16, 3) := by decide +kernel
theorem dX1_at_44 : decode cX1_at 44 = .ok (.bipush 40, 2) := by decide +kernel
theorem dX1_at_46 : decode cX1_at 46 = .ok (.iload_n 3, 1) := by decide +kernel
theorem dX1_at_47 : decode cX1_at 47 = .ok (.imul, 1) := by decide +kernel
theorem dX1_at_48 : decode cX1_at 48 = .ok (.iload 7, 2) := by decide +kernel
theorem dX1_at_50 : decode cX1_at 50 = .ok (.iadd, 1) := by decide +kernel
theorem dX1_at_51 : decode cX1_at 51 = .ok (.iaload, 1) := by decide +kernel
theorem dX1_at_52 : decode cX1_at 52 = .ok (.iload 6, 2) := by decide +kernel
theorem dX1_at_54 : decode cX1_at 54 = .ok (.if_icmp .ne 16, 3) := by decide +kernel
theorem dX1_at_57 : decode cX1_at 57 = .ok (.iload 5, 2) := by decide +kernel
theorem dX1_at_59 : decode cX1_at 59 = .ok (.iload 4, 2) := by decide +kernel
theorem dX1_at_61 : decode cX1_at 61 = .ok (.if_icmp .ne 6, 3) := by decide +kernel
theorem dX1_at_64 : decode cX1_at 64 = .ok (.iload 7, 2) := by decide +kernel
theorem dX1_at_66 : decode cX1_at 66 = .ok (.ireturn, 1) := by decide +kernel
theorem dX1_at_67 : decode cX1_at 67 = .ok (.iinc 5 1, 3) := by decide +kernel
theorem dX1_at_70 : decode cX1_at 70 = .ok (.iinc 7 1, 3) := by decide +kernel
theorem dX1_at_73 : decode cX1_at 73 = .ok (.goto (-55), 3) := by decide +kernel
theorem dX1_at_76 : decode cX1_at 76 = .ok (.iinc 6 1, 3) := by decide +kernel
theorem dX1_at_79 : decode cX1_at 79 = .ok (.goto (-73), 3) := by decide +kernel
theorem dX1_at_82 : decode cX1_at 82 = .ok (.iconst (-1), 1) := by decide +kernel
theorem dX1_at_83 : decode cX1_at 83 = .ok (.ireturn, 1) := by decide +kernel
set_option maxRecDepth 20000 in
theorem ggX1_get_X1_isServer : GoodIn wsX1_get wsX1_isServer := goodIn_r _ [8, 9, 28, 29, 30, 31, 32, 33, 34, 35, 36, 37] (by decide +kernel) (by decide +kernel)
set_option maxRecDepth 20000 in
theorem gX1_get_X1_isServer : GoodIn wsX1_get (wsV RX1 44 RX1 yX1_isServer wsX1_isServer) := goodIn_app (goodIn_of _ (by decide +kernel)) ggX1_get_X1_isServer
set_option maxRecDepth 20000 in
theorem ggX1_get_X1_isClient : GoodIn wsX1_get wsX1_isClient := goodIn_r _ [13, 14, 28, 29, 30, 31, 32, 33, 34, 35, 36, 37] (by decide +kernel) (by decide +kernel)
set_option maxRecDepth 20000 in
theorem gX1_get_X1_isClient : GoodIn wsX1_get (wsV RX1 48 RX1 yX1_isClient wsX1_isClient) := goodIn_app (goodIn_of _ (by decide +kernel)) ggX1_get_X1_isClient
set_option maxRecDepth 20000 in
theorem ggX1_get_X1_isKey : GoodIn wsX1_get wsX1_isKey := goodIn_r _ [17] (by decide +kernel) (by decide +kernel)
set_option maxRecDepth 20000 in
theorem gX1_get_X1_isKey : GoodIn wsX1_get (va_wsS RX1 51 yX1_isKey wsX1_isKey) := goodIn_app (goodIn_of _ (by decide +kernel)) ggX1_get_X1_isKey
set_option maxRecDepth 20000 in
theorem ggX1_get_X1_newest : GoodIn wsX1_get wsX1_newest := goodIn_r _ [21, 22, 23, 24, 28, 29, 30, 31, 32, 33, 34, 35, 36, 37] (by decide +kernel) (by decide +kernel)
set_option maxRecDepth 20000 in
theorem gX1_get_X1_newest : GoodIn wsX1_get (wsV RX1 54 RX1 yX1_newest wsX1_newest) := goodIn_app (goodIn_of _ (by decide +kernel)) ggX1_get_X1_newest
set_option maxRecDepth 20000 in
theorem ggX1_get_X1_sizeOf : GoodIn wsX1_get wsX1_sizeOf := goodIn_r _ [27] (by decide +kernel) (by decide +kernel)
set_option maxRecDepth 20000 in
theorem gX1_get_X1_sizeOf : GoodIn wsX1_get (va_wsS RX1 58 yX1_sizeOf wsX1_sizeOf) := goodIn_app (goodIn_of _ (by decide +kernel)) ggX1_get_X1_sizeOf
theorem dX1_get_0 : decode cX1_get 0 = .ok (.aload_n 0, 1) := by decide +kernel
theorem dX1_get_1 : decode cX1_get 1 = .ok (.iload_n 1, 1) := by decide +kernel
theorem dX1_get_2 : decode cX1_get 2 = .ok (.invokevirtual 44, 3) := by decide +kernel
theorem dX1_get_5 : decode cX1_get 5 = .ok (.ifCond .eq 18, 3) := by decide +kernel
theorem dX1_get_8 : decode cX1_get 8 = .ok (.aload_n 0, 1) := by decide +kernel
theorem dX1_get_9 : decode cX1_get 9 = .ok (.iload_n 2, 1) := by decide +kernel
theorem dX1_get_10 : decode cX1_get 10 = .ok (.invokevirtual 48, 3) := by decide +kernel
theorem dX1_get_13 : decode cX1_get 13 = .ok (.ifCond .eq 10, 3) := by decide +kernel
theorem dX1_get_16 : decode cX1_get 16 = .ok (.iload_n 3, 1) := by decide +kernel
theorem dX1_get_17 : decode cX1_get 17 = .ok (.invokestatic 51, 3) := by decide +kernel
theorem dX1_get_20 : decode cX1_get 20 = .ok (.ifCond .ne 5, 3) := by decide +kernel
theorem dX1_get_23 : decode cX1_get 23 = .ok (.iconst (-1), 1) := by decide +kernel
theorem dX1_get_24 : decode cX1_get 24 = .ok (.ireturn, 1) := by decide +kernel
theorem dX1_get_25 : decode cX1_get 25 = .ok (.aload_n 0, 1) := by decide +kernel
theorem dX1_get_26 : decode cX1_get 26 = .ok (.getfield 29, 3) := by decide +kernel
theorem dX1_get_29 : decode cX1_get 29 = .ok (.iconst 3, 1) := by decide +kernel
theorem dX1_get_30 : decode cX1_get 30 = .ok (.iload_n 2, 1) := by decide +kernel
theorem dX1_get_31 : decode cX1_get 31 = .ok (.imul, 1) := by decide +kernel
theorem dX1_get_32 : decode cX1_get 32 = .ok (.iload_n 3, 1) := by decide +kernel
theorem dX1_get_33 : decode cX1_get 33 = .ok (.iadd, 1) := by decide +kernel
theorem dX1_get_34 : decode cX1_get 34 = .ok (.aload_n 0, 1) := by decide +kernel
theorem dX1_get_35 : decode cX1_get 35 = .ok (.getfield 26, 3) := by decide +kernel
theorem dX1_get_38 : decode cX1_get 38 = .ok (.iconst 3, 1) := by decide +kernel
theorem dX1_get_39 : decode cX1_get 39 = .ok (.iload_n 1, 1) := by decide +kernel
theorem dX1_get_40 : decode cX1_get 40 = .ok (.imul, 1) := by decide +kernel
theorem dX1_get_41 : decode cX1_get 41 = .ok (.iload_n 3, 1) := by decide +kernel
theorem dX1_get_42 : decode cX1_get 42 = .ok (.iadd, 1) := by decide +kernel
theorem dX1_get_43 : decode cX1_get 43 = .ok (.laload, 1) := by decide +kernel
theorem dX1_get_44 : decode cX1_get 44 = .ok (.lastore, 1) := by decide +kernel
theorem dX1_get_45 : decode cX1_get 45 = .ok (.aload_n 0, 1) := by decide +kernel
theorem dX1_get_46 : decode cX1_get 46 = .ok (.getfield 32, 3) := by decide +kernel
theorem dX1_get_49 : decode cX1_get 49 = .ok (.iconst 3, 1) := by decide +kernel
theorem dX1_get_50 : decode cX1_get 50 = .ok (.iload_n 2, 1) := by decide +kernel
theorem dX1_get_51 : decode cX1_get 51 = .ok (.imul, 1) := by decide +kernel
theorem dX1_get_52 : decode cX1_get 52 = .ok (.iload_n 3, 1) := by decide +kernel
theorem dX1_get_53 : decode cX1_get 53 = .ok (.iadd, 1) := by decide +kernel
theorem dX1_get_54 : decode cX1_get 54 = .ok (.aload_n 0, 1) := by decide +kernel
theorem dX1_get_55 : decode cX1_get 55 = .ok (.aload_n 0, 1) := by decide +kernel
theorem dX1_get_56 : decode cX1_get 56 = .ok (.getfield 26, 3) := by decide +kernel
theorem dX1_get_59 : decode cX1_get 59 = .ok (.iconst 3, 1) := by decide +kernel
theorem dX1_get_60 : decode cX1_get 60 = .ok (.iload_n 1, 1) := by decide +kernel
theorem dX1_get_61 : decode cX1_get 61 = .ok (.imul, 1) := by decide +kernel
theorem dX1_get_62 : decode cX1_get 62 = .ok (.iload_n 3, 1) := by decide +kernel
theorem dX1_get_63 : decode cX1_get 63 = .ok (.iadd, 1) := by decide +kernel
theorem dX1_get_64 : decode cX1_get 64 = .ok (.laload, 1) := by decide +kernel
theorem dX1_get_65 : decode cX1_get 65 = .ok (.iload_n 3, 1) := by decide +kernel
theorem dX1_get_66 : decode cX1_get 66 = .ok (.invokevirtual 54, 3) := by decide +kernel
theorem dX1_get_69 : decode cX1_get 69 = .ok (.lastore, 1) := by decide +kernel
theorem dX1_get_70 : decode cX1_get 70 = .ok (.aload_n 0, 1) := by decide +kernel
theorem dX1_get_71 : decode cX1_get 71 = .ok (.getfield 32, 3) := by decide +kernel
theorem dX1_get_74 : decode cX1_get 74 = .ok (.iconst 3, 1) := by decide +kernel
theorem dX1_get_75 : decode cX1_get 75 = .ok (.iload_n 2, 1) := by decide +kernel
theorem dX1_get_76 : decode cX1_get 76 = .ok (.imul, 1) := by decide +kernel
theorem dX1_get_77 : decode cX1_get 77 = .ok (.iload_n 3, 1) := by decide +kernel
theorem dX1_get_78 : decode cX1_get 78 = .ok (.iadd, 1) := by decide +kernel
theorem dX1_get_79 : decode cX1_get 79 = .ok (.laload, 1) := by decide +kernel
theorem dX1_get_80 : decode cX1_get 80 = .ok (.invokestatic 58, 3) := by decide +kernel
theorem dX1_get_83 : decode cX1_get 83 = .ok (.ireturn, 1) := by decide +kernel
set_option maxRecDepth 20000 in
theorem ggX1_read_X1_isClient : GoodIn wsX1_read wsX1_isClient := goodIn_r _ [8, 9, 20, 21, 22, 23, 24, 25, 26, 27, 28, 29] (by decide +kernel) (by decide +kernel)
set_option maxRecDepth 20000 in
theorem gX1_read_X1_isClient : GoodIn wsX1_read (wsV RX1 48 RX1 yX1_isClient wsX1_isClient) := goodIn_app (goodIn_of _ (by decide +kernel)) ggX1_read_X1_isClient
set_option maxRecDepth 20000 in
theorem ggX1_read_X1_isKey : GoodIn wsX1_read wsX1_isKey := goodIn_r _ [12] (by decide +kernel) (by decide +kernel)
set_option maxRecDepth 20000 in
theorem gX1_read_X1_isKey : GoodIn wsX1_read (va_wsS RX1 51 yX1_isKey wsX1_isKey) := goodIn_app (goodIn_of _ (by decide +kernel)) ggX1_read_X1_isKey
set_option maxRecDepth 20000 in
theorem ggX1_read_X1_at : GoodIn wsX1_read wsX1_at := goodIn_r _ [16, 17, 18, 19, 20, 21, 22, 23, 24, 25, 26, 27, 28, 29] (by decide +kernel) (by decide +kernel)
set_option maxRecDepth 20000 in
theorem gX1_read_X1_at : GoodIn wsX1_read (wsV RX1 64 RX1 yX1_at wsX1_at) := goodIn_app (goodIn_of _ (by decide +kernel)) ggX1_read_X1_at
theorem dX1_read_0 : decode cX1_read 0 = .ok (.aload_n 0, 1) := by decide +kernel
theorem dX1_read_1 : decode cX1_read 1 = .ok (.iload_n 1, 1) := by decide +kernel
theorem dX1_read_2 : decode cX1_read 2 = .ok (.invokevirtual 48, 3) := by decide +kernel
theorem dX1_read_5 : decode cX1_read 5 = .ok (.ifCond .eq 10, 3) := by decide +kernel
theorem dX1_read_8 : decode cX1_read 8 = .ok (.iload_n 2, 1) := by decide +kernel
theorem dX1_read_9 : decode cX1_read 9 = .ok (.invokestatic 51, 3) := by decide +kernel
theorem dX1_read_12 : decode cX1_read 12 = .ok (.ifCond .ne 7, 3) := by decide +kernel
theorem dX1_read_15 : decode cX1_read 15 = .ok (.ldc2_w 62, 3) := by decide +kernel
theorem dX1_read_18 : decode cX1_read 18 = .ok (.lreturn, 1) := by decide +kernel
theorem dX1_read_19 : decode cX1_read 19 = .ok (.aload_n 0, 1) := by decide +kernel
theorem dX1_read_20 : decode cX1_read 20 = .ok (.aload_n 0, 1) := by decide +kernel
theorem dX1_read_21 : decode cX1_read 21 = .ok (.getfield 32, 3) := by decide +kernel
theorem dX1_read_24 : decode cX1_read 24 = .ok (.iconst 3, 1) := by decide +kernel
theorem dX1_read_25 : decode cX1_read 25 = .ok (.iload_n 1, 1) := by decide +kernel
theorem dX1_read_26 : decode cX1_read 26 = .ok (.imul, 1) := by decide +kernel
theorem dX1_read_27 : decode cX1_read 27 = .ok (.iload_n 2, 1) := by decide +kernel
theorem dX1_read_28 : decode cX1_read 28 = .ok (.iadd, 1) := by decide +kernel
theorem dX1_read_29 : decode cX1_read 29 = .ok (.laload, 1) := by decide +kernel
theorem dX1_read_30 : decode cX1_read 30 = .ok (.iload_n 2, 1) := by decide +kernel
theorem dX1_read_31 : decode cX1_read 31 = .ok (.iload_n 3, 1) := by decide +kernel
theorem dX1_read_32 : decode cX1_read 32 = .ok (.invokevirtual 64, 3) := by decide +kernel
theorem dX1_read_35 : decode cX1_read 35 = .ok (.istore 4, 2) := by decide +kernel
theorem dX1_read_37 : decode cX1_read 37 = .ok (.iload 4, 2) := by decide +kernel
theorem dX1_read_39 : decode cX1_read 39 = .ok (.ifCond .ge 9, 3) := by decide +kernel
theorem dX1_read_42 : decode cX1_read 42 = .ok (.ldc2_w 62, 3) := by decide +kernel
theorem dX1_read_45 : decode cX1_read 45 = .ok (.goto 16, 3) := by decide +kernel
theorem dX1_read_48 : decode cX1_read 48 = .ok (.aload_n 0, 1) := by decide +kernel
theorem dX1_read_49 : decode cX1_read 49 = .ok (.getfield 13, 3) := by decide +kernel
theorem dX1_read_52 : decode cX1_read 52 = .ok (.bipush 40, 2) := by decide +kernel
theorem dX1_read_54 : decode cX1_read 54 = .ok (.iload_n 2, 1) := by decide +kernel
theorem dX1_read_55 : decode cX1_read 55 = .ok (.imul, 1) := by decide +kernel
theorem dX1_read_56 : decode cX1_read 56 = .ok (.iload 4, 2) := by decide +kernel
theorem dX1_read_58 : decode cX1_read 58 = .ok (.iadd, 1) := by decide +kernel
theorem dX1_read_59 : decode cX1_read 59 = .ok (.iaload, 1) := by decide +kernel
theorem dX1_read_60 : decode cX1_read 60 = .ok (.i2l, 1) := by decide +kernel
theorem dX1_read_61 : decode cX1_read 61 = .ok (.lreturn, 1) := by decide +kernel
set_option maxRecDepth 20000 in
theorem ggX1_put_X1_isServer : GoodIn wsX1_put wsX1_isServer := goodIn_r _ [12, 13, 22, 23, 24, 25, 26, 27, 28, 29, 30, 31] (by decide +kernel) (by decide +kernel)
set_option maxRecDepth 20000 in
theorem gX1_put_X1_isServer : GoodIn wsX1_put (wsV RX1 44 RX1 yX1_isServer wsX1_isServer) := goodIn_app (goodIn_of _ (by decide +kernel)) ggX1_put_X1_isServer
set_option maxRecDepth 20000 in
theorem ggX1_put_X1_isClient : GoodIn wsX1_put wsX1_isClient := goodIn_r _ [17, 18, 22, 23, 24, 25, 26, 27, 28, 29, 30, 31] (by decide +kernel) (by decide +kernel)
set_option maxRecDepth 20000 in
theorem gX1_put_X1_isClient : GoodIn wsX1_put (wsV RX1 48 RX1 yX1_isClient wsX1_isClient) := goodIn_app (goodIn_of _ (by decide +kernel)) ggX1_put_X1_isClient
set_option maxRecDepth 20000 in
theorem ggX1_put_X1_isKey : GoodIn wsX1_put wsX1_isKey := goodIn_r _ [21] (by decide +kernel) (by decide +kernel)
set_option maxRecDepth 20000 in
theorem gX1_put_X1_isKey : GoodIn wsX1_put (va_wsS RX1 51 yX1_isKey wsX1_isKey) := goodIn_app (goodIn_of _ (by decide +kernel)) ggX1_put_X1_isKey
theorem dX1_put_0 : decode cX1_put 0 = .ok (.aload_n 0, 1) := by decide +kernel
theorem dX1_put_1 : decode cX1_put 1 = .ok (.iload_n 1, 1) := by decide +kernel
theorem dX1_put_2 : decode cX1_put 2 = .ok (.invokevirtual 44, 3) := by decide +kernel
theorem dX1_put_5 : decode cX1_put 5 = .ok (.ifCond .eq 29, 3) := by decide +kernel
theorem dX1_put_8 : decode cX1_put 8 = .ok (.aload_n 0, 1) := by decide +kernel
theorem dX1_put_9 : decode cX1_put 9 = .ok (.iload_n 2, 1) := by decide +kernel
theorem dX1_put_10 : decode cX1_put 10 = .ok (.invokevirtual 48, 3) := by decide +kernel
theorem dX1_put_13 : decode cX1_put 13 = .ok (.ifCond .eq 21, 3) := by decide +kernel
theorem dX1_put_16 : decode cX1_put 16 = .ok (.iload_n 3, 1) := by decide +kernel
theorem dX1_put_17 : decode cX1_put 17 = .ok (.invokestatic 51, 3) := by decide +kernel
theorem dX1_put_20 : decode cX1_put 20 = .ok (.ifCond .eq 14, 3) := by decide +kernel
theorem dX1_put_23 : decode cX1_put 23 = .ok (.aload_n 0, 1) := by decide +kernel
theorem dX1_put_24 : decode cX1_put 24 = .ok (.getfield 7, 3) := by decide +kernel
theorem dX1_put_27 : decode cX1_put 27 = .ok (.iload_n 3, 1) := by decide +kernel
theorem dX1_put_28 : decode cX1_put 28 = .ok (.iaload, 1) := by decide +kernel
theorem dX1_put_29 : decode cX1_put 29 = .ok (.bipush 40, 2) := by decide +kernel
theorem dX1_put_31 : decode cX1_put 31 = .ok (.if_icmp .ne 5, 3) := by decide +kernel
theorem dX1_put_34 : decode cX1_put 34 = .ok (.iconst (-1), 1) := by decide +kernel
theorem dX1_put_35 : decode cX1_put 35 = .ok (.ireturn, 1) := by decide +kernel
theorem dX1_put_36 : decode cX1_put 36 = .ok (.aload_n 0, 1) := by decide +kernel
theorem dX1_put_37 : decode cX1_put 37 = .ok (.getfield 7, 3) := by decide +kernel
theorem dX1_put_40 : decode cX1_put 40 = .ok (.iload_n 3, 1) := by decide +kernel
theorem dX1_put_41 : decode cX1_put 41 = .ok (.iaload, 1) := by decide +kernel
theorem dX1_put_42 : decode cX1_put 42 = .ok (.istore 5, 2) := by decide +kernel
theorem dX1_put_44 : decode cX1_put 44 = .ok (.iconst 1, 1) := by decide +kernel
theorem dX1_put_45 : decode cX1_put 45 = .ok (.istore 6, 2) := by decide +kernel
theorem dX1_put_47 : decode cX1_put 47 = .ok (.iconst 0, 1) := by decide +kernel
theorem dX1_put_48 : decode cX1_put 48 = .ok (.istore 7, 2) := by decide +kernel
theorem dX1_put_50 : decode cX1_put 50 = .ok (.iload 7, 2) := by decide +kernel
theorem dX1_put_52 : decode cX1_put 52 = .ok (.iload 5, 2) := by decide +kernel
theorem dX1_put_54 : decode cX1_put 54 = .ok (.if_icmp .ge 35, 3) := by decide +kernel
theorem dX1_put_57 : decode cX1_put 57 = .ok (.iload 6, 2) := by decide +kernel
theorem dX1_put_59 : decode cX1_put 59 = .ok (.aload_n 0, 1) := by decide +kernel
theorem dX1_put_60 : decode cX1_put 60 = .ok (.getfield 16, 3) := by decide +kernel
theorem dX1_put_63 : decode cX1_put 63 = .ok (.bipush 40, 2) := by decide +kernel
theorem dX1_put_65 : decode cX1_put 65 = .ok (.iload_n 3, 1) := by decide +kernel
theorem dX1_put_66 : decode cX1_put 66 = .ok (.imul, 1) := by decide +kernel
theorem dX1_put_67 : decode cX1_put 67 = .ok (.iload 7, 2) := by decide +kernel
theorem dX1_put_69 : decode cX1_put 69 = .ok (.iadd, 1) := by decide +kernel
theorem dX1_put_70 : decode cX1_put 70 = .ok (.iaload, 1) := by decide +kernel
theorem dX1_put_71 : decode cX1_put 71 = .ok (.iload_n 1, 1) := by decide +kernel
theorem dX1_put_72 : decode cX1_put 72 = .ok (.if_icmp .ne 7, 3) := by decide +kernel
theorem dX1_put_75 : decode cX1_put 75 = .ok (.iconst 1, 1) := by decide +kernel
theorem dX1_put_76 : decode cX1_put 76 = .ok (.goto 4, 3) := by decide +kernel
theorem dX1_put_79 : decode cX1_put 79 = .ok (.iconst 0, 1) := by decide +kernel
theorem dX1_put_80 : decode cX1_put 80 = .ok (.iadd, 1) := by decide +kernel
theorem dX1_put_81 : decode cX1_put 81 = .ok (.istore 6, 2) := by decide +kernel
theorem dX1_put_83 : decode cX1_put 83 = .ok (.iinc 7 1, 3) := by decide +kernel
theorem dX1_put_86 : decode cX1_put 86 = .ok (.goto (-36), 3) := by decide +kernel
theorem dX1_put_89 : decode cX1_put 89 = .ok (.aload_n 0, 1) := by decide +kernel
theorem dX1_put_90 : decode cX1_put 90 = .ok (.getfield 13, 3) := by decide +kernel
theorem dX1_put_93 : decode cX1_put 93 = .ok (.bipush 40, 2) := by decide +kernel
theorem dX1_put_95 : decode cX1_put 95 = .ok (.iload_n 3, 1) := by decide +kernel
theorem dX1_put_96 : decode cX1_put 96 = .ok (.imul, 1) := by decide +kernel
theorem dX1_put_97 : decode cX1_put 97 = .ok (.iload 5, 2) := by decide +kernel
theorem dX1_put_99 : decode cX1_put 99 = .ok (.iadd, 1) := by decide +kernel
theorem dX1_put_100 : decode cX1_put 100 = .ok (.iload 4, 2) := by decide +kernel
theorem dX1_put_102 : decode cX1_put 102 = .ok (.iastore, 1) := by decide +kernel
theorem dX1_put_103 : decode cX1_put 103 = .ok (.aload_n 0, 1) := by decide +kernel
theorem dX1_put_104 : decode cX1_put 104 = .ok (.getfield 16, 3) := by decide +kernel
theorem dX1_put_107 : decode cX1_put 107 = .ok (.bipush 40, 2) := by decide +kernel
theorem dX1_put_109 : decode cX1_put 109 = .ok (.iload_n 3, 1) := by decide +kernel
theorem dX1_put_110 : decode cX1_put 110 = .ok (.imul, 1) := by decide +kernel
theorem dX1_put_111 : decode cX1_put 111 = .ok (.iload 5, 2) := by decide +kernel
theorem dX1_put_113 : decode cX1_put 113 = .ok (.iadd, 1) := by decide +kernel
theorem dX1_put_114 : decode cX1_put 114 = .ok (.iload_n 1, 1) := by decide +kernel
theorem dX1_put_115 : decode cX1_put 115 = .ok (.iastore, 1) := by decide +kernel
theorem dX1_put_116 : decode cX1_put 116 = .ok (.aload_n 0, 1) := by decide +kernel
theorem dX1_put_117 : decode cX1_put 117 = .ok (.getfield 19, 3) := by decide +kernel
theorem dX1_put_120 : decode cX1_put 120 = .ok (.bipush 40, 2) := by decide +kernel
theorem dX1_put_122 : decode cX1_put 122 = .ok (.iload_n 3, 1) := by decide +kernel
theorem dX1_put_123 : decode cX1_put 123 = .ok (.imul, 1) := by decide +kernel
theorem dX1_put_124 : decode cX1_put 124 = .ok (.iload 5, 2) := by decide +kernel
theorem dX1_put_126 : decode cX1_put 126 = .ok (.iadd, 1) := by decide +kernel
theorem dX1_put_127 : decode cX1_put 127 = .ok (.iload 6, 2) := by decide +kernel
theorem dX1_put_129 : decode cX1_put 129 = .ok (.iastore, 1) := by decide +kernel
theorem dX1_put_130 : decode cX1_put 130 = .ok (.aload_n 0, 1) := by decide +kernel
theorem dX1_put_131 : decode cX1_put 131 = .ok (.getfield 22, 3) := by decide +kernel
theorem dX1_put_134 : decode cX1_put 134 = .ok (.bipush 40, 2) := by decide +kernel
theorem dX1_put_136 : decode cX1_put 136 = .ok (.iload_n 3, 1) := by decide +kernel
theorem dX1_put_137 : decode cX1_put 137 = .ok (.imul, 1) := by decide +kernel
theorem dX1_put_138 : decode cX1_put 138 = .ok (.iload 5, 2) := by decide +kernel
theorem dX1_put_140 : decode cX1_put 140 = .ok (.iadd, 1) := by decide +kernel
theorem dX1_put_141 : decode cX1_put 141 = .ok (.aload_n 0, 1) := by decide +kernel
theorem dX1_put_142 : decode cX1_put 142 = .ok (.getfield 29, 3) := by decide +kernel
theorem dX1_put_145 : decode cX1_put 145 = .ok (.iconst 3, 1) := by decide +kernel
theorem dX1_put_146 : decode cX1_put 146 = .ok (.iload_n 2, 1) := by decide +kernel
theorem dX1_put_147 : decode cX1_put 147 = .ok (.imul, 1) := by decide +kernel
theorem dX1_put_148 : decode cX1_put 148 = .ok (.iload_n 3, 1) := by decide +kernel
theorem dX1_put_149 : decode cX1_put 149 = .ok (.iadd, 1) := by decide +kernel
theorem dX1_put_150 : decode cX1_put 150 = .ok (.laload, 1) := by decide +kernel
theorem dX1_put_151 : decode cX1_put 151 = .ok (.lastore, 1) := by decide +kernel
theorem dX1_put_152 : decode cX1_put 152 = .ok (.aload_n 0, 1) := by decide +kernel
theorem dX1_put_153 : decode cX1_put 153 = .ok (.getfield 26, 3) := by decide +kernel
theorem dX1_put_156 : decode cX1_put 156 = .ok (.iconst 3, 1) := by decide +kernel
theorem dX1_put_157 : decode cX1_put 157 = .ok (.iload_n 1, 1) := by decide +kernel
theorem dX1_put_158 : decode cX1_put 158 = .ok (.imul, 1) := by decide +kernel
theorem dX1_put_159 : decode cX1_put 159 = .ok (.iload_n 3, 1) := by decide +kernel
theorem dX1_put_160 : decode cX1_put 160 = .ok (.iadd, 1) := by decide +kernel
theorem dX1_put_161 : decode cX1_put 161 = .ok (.dup2, 1) := by decide +kernel
theorem dX1_put_162 : decode cX1_put 162 = .ok (.laload, 1) := by decide +kernel
theorem dX1_put_163 : decode cX1_put 163 = .ok (.aload_n 0, 1) := by decide +kernel
theorem dX1_put_164 : decode cX1_put 164 = .ok (.getfield 22, 3) := by decide +kernel
theorem dX1_put_167 : decode cX1_put 167 = .ok (.bipush 40, 2) := by decide +kernel
theorem dX1_put_169 : decode cX1_put 169 = .ok (.iload_n 3, 1) := by decide +kernel
theorem dX1_put_170 : decode cX1_put 170 = .ok (.imul, 1) := by decide +kernel
theorem dX1_put_171 : decode cX1_put 171 = .ok (.iload 5, 2) := by decide +kernel
theorem dX1_put_173 : decode cX1_put 173 = .ok (.iadd, 1) := by decide +kernel
theorem dX1_put_174 : decode cX1_put 174 = .ok (.laload, 1) := by decide +kernel
theorem dX1_put_175 : decode cX1_put 175 = .ok (.lconst 1, 1) := by decide +kernel
theorem dX1_put_176 : decode cX1_put 176 = .ok (.iload 5, 2) := by decide +kernel
theorem dX1_put_178 : decode cX1_put 178 = .ok (.lshl, 1) := by decide +kernel
theorem dX1_put_179 : decode cX1_put 179 = .ok (.lor, 1) := by decide +kernel
theorem dX1_put_180 : decode cX1_put 180 = .ok (.lor, 1) := by decide +kernel
theorem dX1_put_181 : decode cX1_put 181 = .ok (.lastore, 1) := by decide +kernel
theorem dX1_put_182 : decode cX1_put 182 = .ok (.aload_n 0, 1) := by decide +kernel
theorem dX1_put_183 : decode cX1_put 183 = .ok (.getfield 7, 3) := by decide +kernel
theorem dX1_put_186 : decode cX1_put 186 = .ok (.iload_n 3, 1) := by decide +kernel
theorem dX1_put_187 : decode cX1_put 187 = .ok (.dup2, 1) := by decide +kernel
theorem dX1_put_188 : decode cX1_put 188 = .ok (.iaload, 1) := by decide +kernel
theorem dX1_put_189 : decode cX1_put 189 = .ok (.iconst 1, 1) := by decide +kernel
theorem dX1_put_190 : decode cX1_put 190 = .ok (.iadd, 1) := by decide +kernel
theorem dX1_put_191 : decode cX1_put 191 = .ok (.iastore, 1) := by decide +kernel
theorem dX1_put_192 : decode cX1_put 192 = .ok (.iload 5, 2) := by decide +kernel
theorem dX1_put_194 : decode cX1_put 194 = .ok (.ireturn, 1) := by decide +kernel
set_option maxRecDepth 20000 in
theorem ggX1_sync_X1_isServer : GoodIn wsX1_sync wsX1_isServer := goodIn_r _ [6, 7, 11, 12, 13, 14, 15, 16, 17, 18, 19, 20] (by decide +kernel) (by decide +kernel)
set_option maxRecDepth 20000 in
theorem gX1_sync_X1_isServer : GoodIn wsX1_sync (wsV RX1 44 RX1 yX1_isServer wsX1_isServer) := goodIn_app (goodIn_of _ (by decide +kernel)) ggX1_sync_X1_isServer
set_option maxRecDepth 20000 in
theorem ggX1_sync_X1_isKey : GoodIn wsX1_sync wsX1_isKey := goodIn_r _ [10] (by decide +kernel) (by decide +kernel)
set_option maxRecDepth 20000 in
theorem gX1_sync_X1_isKey : GoodIn wsX1_sync (va_wsS RX1 51 yX1_isKey wsX1_isKey) := goodIn_app (goodIn_of _ (by decide +kernel)) ggX1_sync_X1_isKey
theorem dX1_sync_0 : decode cX1_sync 0 = .ok (.aload_n 0, 1) := by decide +kernel
theorem dX1_sync_1 : decode cX1_sync 1 = .ok (.iload_n 1, 1) := by decide +kernel
theorem dX1_sync_2 : decode cX1_sync 2 = .ok (.invokevirtual 44, 3) := by decide +kernel
theorem dX1_sync_5 : decode cX1_sync 5 = .ok (.ifCond .eq 23, 3) := by decide +kernel
theorem dX1_sync_8 : decode cX1_sync 8 = .ok (.aload_n 0, 1) := by decide +kernel
theorem dX1_sync_9 : decode cX1_sync 9 = .ok (.iload_n 2, 1) := by decide +kernel
theorem dX1_sync_10 : decode cX1_sync 10 = .ok (.invokevirtual 44, 3) := by decide +kernel
theorem dX1_sync_13 : decode cX1_sync 13 = .ok (.ifCond .eq 15, 3) := by decide +kernel
theorem dX1_sync_16 : decode cX1_sync 16 = .ok (.iload_n 1, 1) := by decide +kernel
theorem dX1_sync_17 : decode cX1_sync 17 = .ok (.iload_n 2, 1) := by decide +kernel
theorem dX1_sync_18 : decode cX1_sync 18 = .ok (.if_icmp .eq 10, 3) := by decide +kernel
theorem dX1_sync_21 : decode cX1_sync 21 = .ok (.iload_n 3, 1) := by decide +kernel
theorem dX1_sync_22 : decode cX1_sync 22 = .ok (.invokestatic 51, 3) := by decide +kernel
theorem dX1_sync_25 : decode cX1_sync 25 = .ok (.ifCond .ne 5, 3) := by decide +kernel
theorem dX1_sync_28 : decode cX1_sync 28 = .ok (.iconst 0, 1) := by decide +kernel
theorem dX1_sync_29 : decode cX1_sync 29 = .ok (.ireturn, 1) := by decide +kernel
theorem dX1_sync_30 : decode cX1_sync 30 = .ok (.aload_n 0, 1) := by decide +kernel
theorem dX1_sync_31 : decode cX1_sync 31 = .ok (.getfield 26, 3) := by decide +kernel
theorem dX1_sync_34 : decode cX1_sync 34 = .ok (.iconst 3, 1) := by decide +kernel
theorem dX1_sync_35 : decode cX1_sync 35 = .ok (.iload_n 1, 1) := by decide +kernel
theorem dX1_sync_36 : decode cX1_sync 36 = .ok (.imul, 1) := by decide +kernel
theorem dX1_sync_37 : decode cX1_sync 37 = .ok (.iload_n 3, 1) := by decide +kernel
theorem dX1_sync_38 : decode cX1_sync 38 = .ok (.iadd, 1) := by decide +kernel
theorem dX1_sync_39 : decode cX1_sync 39 = .ok (.dup2, 1) := by decide +kernel
theorem dX1_sync_40 : decode cX1_sync 40 = .ok (.laload, 1) := by decide +kernel
theorem dX1_sync_41 : decode cX1_sync 41 = .ok (.aload_n 0, 1) := by decide +kernel
theorem dX1_sync_42 : decode cX1_sync 42 = .ok (.getfield 26, 3) := by decide +kernel
theorem dX1_sync_45 : decode cX1_sync 45 = .ok (.iconst 3, 1) := by decide +kernel
theorem dX1_sync_46 : decode cX1_sync 46 = .ok (.iload_n 2, 1) := by decide +kernel
theorem dX1_sync_47 : decode cX1_sync 47 = .ok (.imul, 1) := by decide +kernel
theorem dX1_sync_48 : decode cX1_sync 48 = .ok (.iload_n 3, 1) := by decide +kernel
theorem dX1_sync_49 : decode cX1_sync 49 = .ok (.iadd, 1) := by decide +kernel
theorem dX1_sync_50 : decode cX1_sync 50 = .ok (.laload, 1) := by decide +kernel
theorem dX1_sync_51 : decode cX1_sync 51 = .ok (.lor, 1) := by decide +kernel
theorem dX1_sync_52 : decode cX1_sync 52 = .ok (.lastore, 1) := by decide +kernel
theorem dX1_sync_53 : decode cX1_sync 53 = .ok (.aload_n 0, 1) := by decide +kernel
theorem dX1_sync_54 : decode cX1_sync 54 = .ok (.getfield 26, 3) := by decide +kernel
theorem dX1_sync_57 : decode cX1_sync 57 = .ok (.iconst 3, 1) := by decide +kernel
theorem dX1_sync_58 : decode cX1_sync 58 = .ok (.iload_n 2, 1) := by decide +kernel
theorem dX1_sync_59 : decode cX1_sync 59 = .ok (.imul, 1) := by decide +kernel
theorem dX1_sync_60 : decode cX1_sync 60 = .ok (.iload_n 3, 1) := by decide +kernel
theorem dX1_sync_61 : decode cX1_sync 61 = .ok (.iadd, 1) := by decide +kernel
theorem dX1_sync_62 : decode cX1_sync 62 = .ok (.aload_n 0, 1) := by decide +kernel
theorem dX1_sync_63 : decode cX1_sync 63 = .ok (.getfield 26, 3) := by decide +kernel
theorem dX1_sync_66 : decode cX1_sync 66 = .ok (.iconst 3, 1) := by decide +kernel
theorem dX1_sync_67 : decode cX1_sync 67 = .ok (.iload_n 1, 1) := by decide +kernel
theorem dX1_sync_68 : decode cX1_sync 68 = .ok (.imul, 1) := by decide +kernel
theorem dX1_sync_69 : decode cX1_sync 69 = .ok (.iload_n 3, 1) := by decide +kernel
theorem dX1_sync_70 : decode cX1_sync 70 = .ok (.iadd, 1) := by decide +kernel
theorem dX1_sync_71 : decode cX1_sync 71 = .ok (.laload, 1) := by decide +kernel
theorem dX1_sync_72 : decode cX1_sync 72 = .ok (.lastore, 1) := by decide +kernel
theorem dX1_sync_73 : decode cX1_sync 73 = .ok (.iconst 1, 1) := by decide +kernel
theorem dX1_sync_74 : decode cX1_sync 74 = .ok (.ireturn, 1) := by decide +kernel
set_option maxRecDepth 20000 in
theorem ggX1_forget_X1_isClient : GoodIn wsX1_forget wsX1_isClient := goodIn_r _ [7, 8, 12, 13, 14, 15, 16, 17, 18, 19, 20, 21] (by decide +kernel) (by decide +kernel)
set_option maxRecDepth 20000 in
theorem gX1_forget_X1_isClient : GoodIn wsX1_forget (wsV RX1 48 RX1 yX1_isClient wsX1_isClient) := goodIn_app (goodIn_of _ (by decide +kernel)) ggX1_forget_X1_isClient
set_option maxRecDepth 20000 in
theorem ggX1_forget_X1_isKey : GoodIn wsX1_forget wsX1_isKey := goodIn_r _ [11] (by decide +kernel) (by decide +kernel)
set_option maxRecDepth 20000 in
theorem gX1_forget_X1_isKey : GoodIn wsX1_forget (va_wsS RX1 51 yX1_isKey wsX1_isKey) := goodIn_app (goodIn_of _ (by decide +kernel)) ggX1_forget_X1_isKey
theorem dX1_forget_0 : decode cX1_forget 0 = .ok (.aload_n 0, 1) := by decide +kernel
theorem dX1_forget_1 : decode cX1_forget 1 = .ok (.iload_n 1, 1) := by decide +kernel
theorem dX1_forget_2 : decode cX1_forget 2 = .ok (.invokevirtual 48, 3) := by decide +kernel
theorem dX1_forget_5 : decode cX1_forget 5 = .ok (.ifCond .eq 10, 3) := by decide +kernel
theorem dX1_forget_8 : decode cX1_forget 8 = .ok (.iload_n 2, 1) := by decide +kernel
theorem dX1_forget_9 : decode cX1_forget 9 = .ok (.invokestatic 51, 3) := by decide +kernel
theorem dX1_forget_12 : decode cX1_forget 12 = .ok (.ifCond .ne 5, 3) := by decide +kernel
theorem dX1_forget_15 : decode cX1_forget 15 = .ok (.iconst 0, 1) := by decide +kernel
theorem dX1_forget_16 : decode cX1_forget 16 = .ok (.ireturn, 1) := by decide +kernel
theorem dX1_forget_17 : decode cX1_forget 17 = .ok (.aload_n 0, 1) := by decide +kernel
theorem dX1_forget_18 : decode cX1_forget 18 = .ok (.getfield 29, 3) := by decide +kernel
theorem dX1_forget_21 : decode cX1_forget 21 = .ok (.iconst 3, 1) := by decide +kernel
theorem dX1_forget_22 : decode cX1_forget 22 = .ok (.iload_n 1, 1) := by decide +kernel
theorem dX1_forget_23 : decode cX1_forget 23 = .ok (.imul, 1) := by decide +kernel
theorem dX1_forget_24 : decode cX1_forget 24 = .ok (.iload_n 2, 1) := by decide +kernel
theorem dX1_forget_25 : decode cX1_forget 25 = .ok (.iadd, 1) := by decide +kernel
theorem dX1_forget_26 : decode cX1_forget 26 = .ok (.lconst 0, 1) := by decide +kernel
theorem dX1_forget_27 : decode cX1_forget 27 = .ok (.lastore, 1) := by decide +kernel
theorem dX1_forget_28 : decode cX1_forget 28 = .ok (.aload_n 0, 1) := by decide +kernel
theorem dX1_forget_29 : decode cX1_forget 29 = .ok (.getfield 32, 3) := by decide +kernel
theorem dX1_forget_32 : decode cX1_forget 32 = .ok (.iconst 3, 1) := by decide +kernel
theorem dX1_forget_33 : decode cX1_forget 33 = .ok (.iload_n 1, 1) := by decide +kernel
theorem dX1_forget_34 : decode cX1_forget 34 = .ok (.imul, 1) := by decide +kernel
theorem dX1_forget_35 : decode cX1_forget 35 = .ok (.iload_n 2, 1) := by decide +kernel
theorem dX1_forget_36 : decode cX1_forget 36 = .ok (.iadd, 1) := by decide +kernel
theorem dX1_forget_37 : decode cX1_forget 37 = .ok (.lconst 0, 1) := by decide +kernel
theorem dX1_forget_38 : decode cX1_forget 38 = .ok (.lastore, 1) := by decide +kernel
theorem dX1_forget_39 : decode cX1_forget 39 = .ok (.iconst 1, 1) := by decide +kernel
theorem dX1_forget_40 : decode cX1_forget 40 = .ok (.ireturn, 1) := by decide +kernel
set_option maxRecDepth 20000 in
theorem ggX1_siblings_X1_isServer : GoodIn wsX1_siblings wsX1_isServer := goodIn_r _ [6, 7, 21, 22, 23, 24, 25, 26, 27, 28, 29, 30] (by decide +kernel) (by decide +kernel)
set_option maxRecDepth 20000 in
theorem gX1_siblings_X1_isServer : GoodIn wsX1_siblings (wsV RX1 44 RX1 yX1_isServer wsX1_isServer) := goodIn_app (goodIn_of _ (by decide +kernel)) ggX1_siblings_X1_isServer
set_option maxRecDepth 20000 in
theorem ggX1_siblings_X1_isKey : GoodIn wsX1_siblings wsX1_isKey := goodIn_r _ [10] (by decide +kernel) (by decide +kernel)
set_option maxRecDepth 20000 in
theorem gX1_siblings_X1_isKey : GoodIn wsX1_siblings (va_wsS RX1 51 yX1_isKey wsX1_isKey) := goodIn_app (goodIn_of _ (by decide +kernel)) ggX1_siblings_X1_isKey
set_option maxRecDepth 20000 in
theorem ggX1_siblings_X1_newest : GoodIn wsX1_siblings wsX1_newest := goodIn_r _ [14, 15, 16, 17, 21, 22, 23, 24, 25, 26, 27, 28, 29, 30] (by decide +kernel) (by decide +kernel)
set_option maxRecDepth 20000 in
theorem gX1_siblings_X1_newest : GoodIn wsX1_siblings (wsV RX1 54 RX1 yX1_newest wsX1_newest) := goodIn_app (goodIn_of _ (by decide +kernel)) ggX1_siblings_X1_newest
set_option maxRecDepth 20000 in
theorem ggX1_siblings_X1_sizeOf : GoodIn wsX1_siblings wsX1_sizeOf := goodIn_r _ [20] (by decide +kernel) (by decide +kernel)
set_option maxRecDepth 20000 in
theorem gX1_siblings_X1_sizeOf : GoodIn wsX1_siblings (va_wsS RX1 58 yX1_sizeOf wsX1_sizeOf) := goodIn_app (goodIn_of _ (by decide +kernel)) ggX1_siblings_X1_sizeOf
theorem dX1_siblings_0 : decode cX1_siblings 0 = .ok (.aload_n 0, 1) := by decide +kernel
theorem dX1_siblings_1 : decode cX1_siblings 1 = .ok (.iload_n 1, 1) := by decide +kernel
theorem dX1_siblings_2 : decode cX1_siblings 2 = .ok (.invokevirtual 44, 3) := by decide +kernel
theorem dX1_siblings_5 : decode cX1_siblings 5 = .ok (.ifCond .eq 31, 3) := by decide +kernel
theorem dX1_siblings_8 : decode cX1_siblings 8 = .ok (.iload_n 2, 1) := by decide +kernel
theorem dX1_siblings_9 : decode cX1_siblings 9 = .ok (.invokestatic 51, 3) := by decide +kernel
theorem dX1_siblings_12 : decode cX1_siblings 12 = .ok (.ifCond .eq 24, 3) := by decide +kernel
theorem dX1_siblings_15 : decode cX1_siblings 15 = .ok (.aload_n 0, 1) := by decide +kernel
theorem dX1_siblings_16 : decode cX1_siblings 16 = .ok (.aload_n 0, 1) := by decide +kernel
theorem dX1_siblings_17 : decode cX1_siblings 17 = .ok (.getfield 26, 3) := by decide +kernel
theorem dX1_siblings_20 : decode cX1_siblings 20 = .ok (.iconst 3, 1) := by decide +kernel
theorem dX1_siblings_21 : decode cX1_siblings 21 = .ok (.iload_n 1, 1) := by decide +kernel
theorem dX1_siblings_22 : decode cX1_siblings 22 = .ok (.imul, 1) := by decide +kernel
theorem dX1_siblings_23 : decode cX1_siblings 23 = .ok (.iload_n 2, 1) := by decide +kernel
theorem dX1_siblings_24 : decode cX1_siblings 24 = .ok (.iadd, 1) := by decide +kernel
theorem dX1_siblings_25 : decode cX1_siblings 25 = .ok (.laload, 1) := by decide +kernel
theorem dX1_siblings_26 : decode cX1_siblings 26 = .ok (.iload_n 2, 1) := by decide +kernel
theorem dX1_siblings_27 : decode cX1_siblings 27 = .ok (.invokevirtual 54, 3) := by decide +kernel
theorem dX1_siblings_30 : decode cX1_siblings 30 = .ok (.invokestatic 58, 3) := by decide +kernel
theorem dX1_siblings_33 : decode cX1_siblings 33 = .ok (.goto 4, 3) := by decide +kernel
theorem dX1_siblings_36 : decode cX1_siblings 36 = .ok (.iconst (-1), 1) := by decide +kernel
theorem dX1_siblings_37 : decode cX1_siblings 37 = .ok (.ireturn, 1) := by decide +kernel
set_option maxRecDepth 20000 in
theorem ggX1_sibling_X1_isServer : GoodIn wsX1_sibling wsX1_isServer := goodIn_r _ [10, 11, 26, 27, 28, 29, 30, 31, 32, 33, 34, 35] (by decide +kernel) (by decide +kernel)
set_option maxRecDepth 20000 in
theorem gX1_sibling_X1_isServer : GoodIn wsX1_sibling (wsV RX1 44 RX1 yX1_isServer wsX1_isServer) := goodIn_app (goodIn_of _ (by decide +kernel)) ggX1_sibling_X1_isServer
set_option maxRecDepth 20000 in
theorem ggX1_sibling_X1_isKey : GoodIn wsX1_sibling wsX1_isKey := goodIn_r _ [14] (by decide +kernel) (by decide +kernel)
set_option maxRecDepth 20000 in
theorem gX1_sibling_X1_isKey : GoodIn wsX1_sibling (va_wsS RX1 51 yX1_isKey wsX1_isKey) := goodIn_app (goodIn_of _ (by decide +kernel)) ggX1_sibling_X1_isKey
set_option maxRecDepth 20000 in
theorem ggX1_sibling_X1_newest : GoodIn wsX1_sibling wsX1_newest := goodIn_r _ [18, 19, 20, 21, 26, 27, 28, 29, 30, 31, 32, 33, 34, 35] (by decide +kernel) (by decide +kernel)
set_option maxRecDepth 20000 in
theorem gX1_sibling_X1_newest : GoodIn wsX1_sibling (wsV RX1 54 RX1 yX1_newest wsX1_newest) := goodIn_app (goodIn_of _ (by decide +kernel)) ggX1_sibling_X1_newest
set_option maxRecDepth 20000 in
theorem ggX1_sibling_X1_at : GoodIn wsX1_sibling wsX1_at := goodIn_r _ [25, 11, 19, 4, 26, 27, 28, 29, 30, 31, 32, 33, 34, 35] (by decide +kernel) (by decide +kernel)
set_option maxRecDepth 20000 in
theorem gX1_sibling_X1_at : GoodIn wsX1_sibling (wsV RX1 64 RX1 yX1_at wsX1_at) := goodIn_app (goodIn_of _ (by decide +kernel)) ggX1_sibling_X1_at
theorem dX1_sibling_0 : decode cX1_sibling 0 = .ok (.aload_n 0, 1) := by decide +kernel
theorem dX1_sibling_1 : decode cX1_sibling 1 = .ok (.iload_n 1, 1) := by decide +kernel
theorem dX1_sibling_2 : decode cX1_sibling 2 = .ok (.invokevirtual 44, 3) := by decide +kernel
theorem dX1_sibling_5 : decode cX1_sibling 5 = .ok (.ifCond .eq 10, 3) := by decide +kernel
theorem dX1_sibling_8 : decode cX1_sibling 8 = .ok (.iload_n 2, 1) := by decide +kernel
theorem dX1_sibling_9 : decode cX1_sibling 9 = .ok (.invokestatic 51, 3) := by decide +kernel
theorem dX1_sibling_12 : decode cX1_sibling 12 = .ok (.ifCond .ne 7, 3) := by decide +kernel
theorem dX1_sibling_15 : decode cX1_sibling 15 = .ok (.ldc2_w 62, 3) := by decide +kernel
theorem dX1_sibling_18 : decode cX1_sibling 18 = .ok (.lreturn, 1) := by decide +kernel
theorem dX1_sibling_19 : decode cX1_sibling 19 = .ok (.aload_n 0, 1) := by decide +kernel
theorem dX1_sibling_20 : decode cX1_sibling 20 = .ok (.aload_n 0, 1) := by decide +kernel
theorem dX1_sibling_21 : decode cX1_sibling 21 = .ok (.aload_n 0, 1) := by decide +kernel
theorem dX1_sibling_22 : decode cX1_sibling 22 = .ok (.getfield 26, 3) := by decide +kernel
theorem dX1_sibling_25 : decode cX1_sibling 25 = .ok (.iconst 3, 1) := by decide +kernel
theorem dX1_sibling_26 : decode cX1_sibling 26 = .ok (.iload_n 1, 1) := by decide +kernel
theorem dX1_sibling_27 : decode cX1_sibling 27 = .ok (.imul, 1) := by decide +kernel
theorem dX1_sibling_28 : decode cX1_sibling 28 = .ok (.iload_n 2, 1) := by decide +kernel
theorem dX1_sibling_29 : decode cX1_sibling 29 = .ok (.iadd, 1) := by decide +kernel
theorem dX1_sibling_30 : decode cX1_sibling 30 = .ok (.laload, 1) := by decide +kernel
theorem dX1_sibling_31 : decode cX1_sibling 31 = .ok (.iload_n 2, 1) := by decide +kernel
theorem dX1_sibling_32 : decode cX1_sibling 32 = .ok (.invokevirtual 54, 3) := by decide +kernel
theorem dX1_sibling_35 : decode cX1_sibling 35 = .ok (.iload_n 2, 1) := by decide +kernel
theorem dX1_sibling_36 : decode cX1_sibling 36 = .ok (.iload_n 3, 1) := by decide +kernel
theorem dX1_sibling_37 : decode cX1_sibling 37 = .ok (.invokevirtual 64, 3) := by decide +kernel
theorem dX1_sibling_40 : decode cX1_sibling 40 = .ok (.istore 5, 2) := by decide +kernel
theorem dX1_sibling_42 : decode cX1_sibling 42 = .ok (.iload 5, 2) := by decide +kernel
theorem dX1_sibling_44 : decode cX1_sibling 44 = .ok (.ifCond .ge 7, 3) := by decide +kernel
theorem dX1_sibling_47 : decode cX1_sibling 47 = .ok (.ldc2_w 62, 3) := by decide +kernel
theorem dX1_sibling_50 : decode cX1_sibling 50 = .ok (.lreturn, 1) := by decide +kernel
theorem dX1_sibling_51 : decode cX1_sibling 51 = .ok (.iload 4, 2) := by decide +kernel
theorem dX1_sibling_53 : decode cX1_sibling 53 = .ok (.tableswitch 77 0 3 #[31, 45, 59, 73], 31) := by decide +kernel
theorem dX1_sibling_84 : decode cX1_sibling 84 = .ok (.aload_n 0, 1) := by decide +kernel
theorem dX1_sibling_85 : decode cX1_sibling 85 = .ok (.getfield 13, 3) := by decide +kernel
theorem dX1_sibling_88 : decode cX1_sibling 88 = .ok (.bipush 40, 2) := by decide +kernel
theorem dX1_sibling_90 : decode cX1_sibling 90 = .ok (.iload_n 2, 1) := by decide +kernel
theorem dX1_sibling_91 : decode cX1_sibling 91 = .ok (.imul, 1) := by decide +kernel
theorem dX1_sibling_92 : decode cX1_sibling 92 = .ok (.iload 5, 2) := by decide +kernel
theorem dX1_sibling_94 : decode cX1_sibling 94 = .ok (.iadd, 1) := by decide +kernel
theorem dX1_sibling_95 : decode cX1_sibling 95 = .ok (.iaload, 1) := by decide +kernel
theorem dX1_sibling_96 : decode cX1_sibling 96 = .ok (.i2l, 1) := by decide +kernel
theorem dX1_sibling_97 : decode cX1_sibling 97 = .ok (.lreturn, 1) := by decide +kernel
theorem dX1_sibling_98 : decode cX1_sibling 98 = .ok (.aload_n 0, 1) := by decide +kernel
theorem dX1_sibling_99 : decode cX1_sibling 99 = .ok (.getfield 16, 3) := by decide +kernel
theorem dX1_sibling_102 : decode cX1_sibling 102 = .ok (.bipush 40, 2) := by decide +kernel
theorem dX1_sibling_104 : decode cX1_sibling 104 = .ok (.iload_n 2, 1) := by decide +kernel
theorem dX1_sibling_105 : decode cX1_sibling 105 = .ok (.imul, 1) := by decide +kernel
theorem dX1_sibling_106 : decode cX1_sibling 106 = .ok (.iload 5, 2) := by decide +kernel
theorem dX1_sibling_108 : decode cX1_sibling 108 = .ok (.iadd, 1) := by decide +kernel
theorem dX1_sibling_109 : decode cX1_sibling 109 = .ok (.iaload, 1) := by decide +kernel
theorem dX1_sibling_110 : decode cX1_sibling 110 = .ok (.i2l, 1) := by decide +kernel
theorem dX1_sibling_111 : decode cX1_sibling 111 = .ok (.lreturn, 1) := by decide +kernel
theorem dX1_sibling_112 : decode cX1_sibling 112 = .ok (.aload_n 0, 1) := by decide +kernel
theorem dX1_sibling_113 : decode cX1_sibling 113 = .ok (.getfield 19, 3) := by decide +kernel
theorem dX1_sibling_116 : decode cX1_sibling 116 = .ok (.bipush 40, 2) := by decide +kernel
theorem dX1_sibling_118 : decode cX1_sibling 118 = .ok (.iload_n 2, 1) := by decide +kernel
theorem dX1_sibling_119 : decode cX1_sibling 119 = .ok (.imul, 1) := by decide +kernel
theorem dX1_sibling_120 : decode cX1_sibling 120 = .ok (.iload 5, 2) := by decide +kernel
theorem dX1_sibling_122 : decode cX1_sibling 122 = .ok (.iadd, 1) := by decide +kernel
theorem dX1_sibling_123 : decode cX1_sibling 123 = .ok (.iaload, 1) := by decide +kernel
theorem dX1_sibling_124 : decode cX1_sibling 124 = .ok (.i2l, 1) := by decide +kernel
theorem dX1_sibling_125 : decode cX1_sibling 125 = .ok (.lreturn, 1) := by decide +kernel
theorem dX1_sibling_126 : decode cX1_sibling 126 = .ok (.iload 5, 2) := by decide +kernel
theorem dX1_sibling_128 : decode cX1_sibling 128 = .ok (.i2l, 1) := by decide +kernel
theorem dX1_sibling_129 : decode cX1_sibling 129 = .ok (.lreturn, 1) := by decide +kernel
theorem dX1_sibling_130 : decode cX1_sibling 130 = .ok (.ldc2_w 62, 3) := by decide +kernel
theorem dX1_sibling_133 : decode cX1_sibling 133 = .ok (.lreturn, 1) := by decide +kernel
theorem dX1_vector_0 : decode cX1_vector 0 = .ok (.iconst 0, 1) := by decide +kernel
theorem dX1_vector_1 : decode cX1_vector 1 = .ok (.istore 5, 2) := by decide +kernel
theorem dX1_vector_3 : decode cX1_vector 3 = .ok (.iconst 0, 1) := by decide +kernel
theorem dX1_vector_4 : decode cX1_vector 4 = .ok (.istore 6, 2) := by decide +kernel
theorem dX1_vector_6 : decode cX1_vector 6 = .ok (.iload 6, 2) := by decide +kernel
theorem dX1_vector_8 : decode cX1_vector 8 = .ok (.aload_n 0, 1) := by decide +kernel
theorem dX1_vector_9 : decode cX1_vector 9 = .ok (.getfield 7, 3) := by decide +kernel
theorem dX1_vector_12 : decode cX1_vector 12 = .ok (.iload_n 3, 1) := by decide +kernel
theorem dX1_vector_13 : decode cX1_vector 13 = .ok (.iaload, 1) := by decide +kernel
theorem dX1_vector_14 : decode cX1_vector 14 = .ok (.if_icmp .ge 85, 3) := by decide +kernel
theorem dX1_vector_17 : decode cX1_vector 17 = .ok (.lload_n 1, 1) := by decide +kernel
theorem dX1_vector_18 : decode cX1_vector 18 = .ok (.iload 6, 2) := by decide +kernel
theorem dX1_vector_20 : decode cX1_vector 20 = .ok (.lshr, 1) := by decide +kernel
theorem dX1_vector_21 : decode cX1_vector 21 = .ok (.lconst 1, 1) := by decide +kernel
theorem dX1_vector_22 : decode cX1_vector 22 = .ok (.land, 1) := by decide +kernel
theorem dX1_vector_23 : decode cX1_vector 23 = .ok (.lconst 1, 1) := by decide +kernel
theorem dX1_vector_24 : decode cX1_vector 24 = .ok (.lcmp, 1) := by decide +kernel
theorem dX1_vector_25 : decode cX1_vector 25 = .ok (.ifCond .ne 24, 3) := by decide +kernel
theorem dX1_vector_28 : decode cX1_vector 28 = .ok (.aload_n 0, 1) := by decide +kernel
theorem dX1_vector_29 : decode cX1_vector 29 = .ok (.getfield 16, 3) := by decide +kernel
theorem dX1_vector_32 : decode cX1_vector 32 = .ok (.bipush 40, 2) := by decide +kernel
theorem dX1_vector_34 : decode cX1_vector 34 = .ok (.iload_n 3, 1) := by decide +kernel
theorem dX1_vector_35 : decode cX1_vector 35 = .ok (.imul, 1) := by decide +kernel
theorem dX1_vector_36 : decode cX1_vector 36 = .ok (.iload 6, 2) := by decide +kernel
theorem dX1_vector_38 : decode cX1_vector 38 = .ok (.iadd, 1) := by decide +kernel
theorem dX1_vector_39 : decode cX1_vector 39 = .ok (.iaload, 1) := by decide +kernel
theorem dX1_vector_40 : decode cX1_vector 40 = .ok (.iload 4, 2) := by decide +kernel
theorem dX1_vector_42 : decode cX1_vector 42 = .ok (.if_icmp .ne 7, 3) := by decide +kernel
theorem dX1_vector_45 : decode cX1_vector 45 = .ok (.iconst 1, 1) := by decide +kernel
theorem dX1_vector_46 : decode cX1_vector 46 = .ok (.goto 4, 3) := by decide +kernel
theorem dX1_vector_49 : decode cX1_vector 49 = .ok (.iconst 0, 1) := by decide +kernel
theorem dX1_vector_50 : decode cX1_vector 50 = .ok (.istore 7, 2) := by decide +kernel
theorem dX1_vector_52 : decode cX1_vector 52 = .ok (.iload 7, 2) := by decide +kernel
theorem dX1_vector_54 : decode cX1_vector 54 = .ok (.ifCond .eq 35, 3) := by decide +kernel
theorem dX1_vector_57 : decode cX1_vector 57 = .ok (.aload_n 0, 1) := by decide +kernel
theorem dX1_vector_58 : decode cX1_vector 58 = .ok (.getfield 19, 3) := by decide +kernel
theorem dX1_vector_61 : decode cX1_vector 61 = .ok (.bipush 40, 2) := by decide +kernel
theorem dX1_vector_63 : decode cX1_vector 63 = .ok (.iload_n 3, 1) := by decide +kernel
theorem dX1_vector_64 : decode cX1_vector 64 = .ok (.imul, 1) := by decide +kernel
theorem dX1_vector_65 : decode cX1_vector 65 = .ok (.iload 6, 2) := by decide +kernel
theorem dX1_vector_67 : decode cX1_vector 67 = .ok (.iadd, 1) := by decide +kernel
theorem dX1_vector_68 : decode cX1_vector 68 = .ok (.iaload, 1) := by decide +kernel
theorem dX1_vector_69 : decode cX1_vector 69 = .ok (.iload 5, 2) := by decide +kernel
theorem dX1_vector_71 : decode cX1_vector 71 = .ok (.if_icmp .le 18, 3) := by decide +kernel
theorem dX1_vector_74 : decode cX1_vector 74 = .ok (.aload_n 0, 1) := by decide +kernel
theorem dX1_vector_75 : decode cX1_vector 75 = .ok (.getfield 19, 3) := by decide +kernel
theorem dX1_vector_78 : decode cX1_vector 78 = .ok (.bipush 40, 2) := by decide +kernel
theorem dX1_vector_80 : decode cX1_vector 80 = .ok (.iload_n 3, 1) := by decide +kernel
theorem dX1_vector_81 : decode cX1_vector 81 = .ok (.imul, 1) := by decide +kernel
theorem dX1_vector_82 : decode cX1_vector 82 = .ok (.iload 6, 2) := by decide +kernel
theorem dX1_vector_84 : decode cX1_vector 84 = .ok (.iadd, 1) := by decide +kernel
theorem dX1_vector_85 : decode cX1_vector 85 = .ok (.iaload, 1) := by decide +kernel
theorem dX1_vector_86 : decode cX1_vector 86 = .ok (.goto 5, 3) := by decide +kernel
theorem dX1_vector_89 : decode cX1_vector 89 = .ok (.iload 5, 2) := by decide +kernel
theorem dX1_vector_91 : decode cX1_vector 91 = .ok (.istore 5, 2) := by decide +kernel
theorem dX1_vector_93 : decode cX1_vector 93 = .ok (.iinc 6 1, 3) := by decide +kernel
theorem dX1_vector_96 : decode cX1_vector 96 = .ok (.goto (-90), 3) := by decide +kernel
theorem dX1_vector_99 : decode cX1_vector 99 = .ok (.iload 5, 2) := by decide +kernel
theorem dX1_vector_101 : decode cX1_vector 101 = .ok (.ireturn, 1) := by decide +kernel
set_option maxRecDepth 20000 in
theorem ggX1_known_X1_isServer : GoodIn wsX1_known wsX1_isServer := goodIn_r _ [6, 7, 18, 19, 20, 21, 22, 23, 24, 25, 26, 27] (by decide +kernel) (by decide +kernel)
set_option maxRecDepth 20000 in
theorem gX1_known_X1_isServer : GoodIn wsX1_known (wsV RX1 44 RX1 yX1_isServer wsX1_isServer) := goodIn_app (goodIn_of _ (by decide +kernel)) ggX1_known_X1_isServer
set_option maxRecDepth 20000 in
theorem ggX1_known_X1_isKey : GoodIn wsX1_known wsX1_isKey := goodIn_r _ [10] (by decide +kernel) (by decide +kernel)
set_option maxRecDepth 20000 in
theorem gX1_known_X1_isKey : GoodIn wsX1_known (va_wsS RX1 51 yX1_isKey wsX1_isKey) := goodIn_app (goodIn_of _ (by decide +kernel)) ggX1_known_X1_isKey
set_option maxRecDepth 20000 in
theorem ggX1_known_X1_vector : GoodIn wsX1_known wsX1_vector := goodIn_r _ [14, 15, 16, 17, 18, 19, 20, 21, 22, 23, 24, 25, 26, 27] (by decide +kernel) (by decide +kernel)
set_option maxRecDepth 20000 in
theorem gX1_known_X1_vector : GoodIn wsX1_known (wsV RX1 68 RX1 yX1_vector wsX1_vector) := goodIn_app (goodIn_of _ (by decide +kernel)) ggX1_known_X1_vector
theorem dX1_known_0 : decode cX1_known 0 = .ok (.aload_n 0, 1) := by decide +kernel
theorem dX1_known_1 : decode cX1_known 1 = .ok (.iload_n 1, 1) := by decide +kernel
theorem dX1_known_2 : decode cX1_known 2 = .ok (.invokevirtual 44, 3) := by decide +kernel
theorem dX1_known_5 : decode cX1_known 5 = .ok (.ifCond .eq 37, 3) := by decide +kernel
theorem dX1_known_8 : decode cX1_known 8 = .ok (.iload_n 2, 1) := by decide +kernel
theorem dX1_known_9 : decode cX1_known 9 = .ok (.invokestatic 51, 3) := by decide +kernel
theorem dX1_known_12 : decode cX1_known 12 = .ok (.ifCond .eq 30, 3) := by decide +kernel
theorem dX1_known_15 : decode cX1_known 15 = .ok (.aload_n 0, 1) := by decide +kernel
theorem dX1_known_16 : decode cX1_known 16 = .ok (.iload_n 3, 1) := by decide +kernel
theorem dX1_known_17 : decode cX1_known 17 = .ok (.invokevirtual 44, 3) := by decide +kernel
theorem dX1_known_20 : decode cX1_known 20 = .ok (.ifCond .eq 22, 3) := by decide +kernel
theorem dX1_known_23 : decode cX1_known 23 = .ok (.aload_n 0, 1) := by decide +kernel
theorem dX1_known_24 : decode cX1_known 24 = .ok (.aload_n 0, 1) := by decide +kernel
theorem dX1_known_25 : decode cX1_known 25 = .ok (.getfield 26, 3) := by decide +kernel
theorem dX1_known_28 : decode cX1_known 28 = .ok (.iconst 3, 1) := by decide +kernel
theorem dX1_known_29 : decode cX1_known 29 = .ok (.iload_n 1, 1) := by decide +kernel
theorem dX1_known_30 : decode cX1_known 30 = .ok (.imul, 1) := by decide +kernel
theorem dX1_known_31 : decode cX1_known 31 = .ok (.iload_n 2, 1) := by decide +kernel
theorem dX1_known_32 : decode cX1_known 32 = .ok (.iadd, 1) := by decide +kernel
theorem dX1_known_33 : decode cX1_known 33 = .ok (.laload, 1) := by decide +kernel
theorem dX1_known_34 : decode cX1_known 34 = .ok (.iload_n 2, 1) := by decide +kernel
theorem dX1_known_35 : decode cX1_known 35 = .ok (.iload_n 3, 1) := by decide +kernel
theorem dX1_known_36 : decode cX1_known 36 = .ok (.invokevirtual 68, 3) := by decide +kernel
theorem dX1_known_39 : decode cX1_known 39 = .ok (.goto 4, 3) := by decide +kernel
theorem dX1_known_42 : decode cX1_known 42 = .ok (.iconst (-1), 1) := by decide +kernel
theorem dX1_known_43 : decode cX1_known 43 = .ok (.ireturn, 1) := by decide +kernel
set_option maxRecDepth 20000 in
theorem ggX1_context_X1_isClient : GoodIn wsX1_context wsX1_isClient := goodIn_r _ [6, 7, 23, 24, 25, 26, 27, 28, 29, 30, 31, 32] (by decide +kernel) (by decide +kernel)
set_option maxRecDepth 20000 in
theorem gX1_context_X1_isClient : GoodIn wsX1_context (wsV RX1 48 RX1 yX1_isClient wsX1_isClient) := goodIn_app (goodIn_of _ (by decide +kernel)) ggX1_context_X1_isClient
set_option maxRecDepth 20000 in
theorem ggX1_context_X1_isKey : GoodIn wsX1_context wsX1_isKey := goodIn_r _ [10] (by decide +kernel) (by decide +kernel)
set_option maxRecDepth 20000 in
theorem gX1_context_X1_isKey : GoodIn wsX1_context (va_wsS RX1 51 yX1_isKey wsX1_isKey) := goodIn_app (goodIn_of _ (by decide +kernel)) ggX1_context_X1_isKey
set_option maxRecDepth 20000 in
theorem ggX1_context_X1_isServer : GoodIn wsX1_context wsX1_isServer := goodIn_r _ [14, 15, 23, 24, 25, 26, 27, 28, 29, 30, 31, 32] (by decide +kernel) (by decide +kernel)
set_option maxRecDepth 20000 in
theorem gX1_context_X1_isServer : GoodIn wsX1_context (wsV RX1 44 RX1 yX1_isServer wsX1_isServer) := goodIn_app (goodIn_of _ (by decide +kernel)) ggX1_context_X1_isServer
set_option maxRecDepth 20000 in
theorem ggX1_context_X1_vector : GoodIn wsX1_context wsX1_vector := goodIn_r _ [19, 20, 21, 22, 23, 24, 25, 26, 27, 28, 29, 30, 31, 32] (by decide +kernel) (by decide +kernel)
set_option maxRecDepth 20000 in
theorem gX1_context_X1_vector : GoodIn wsX1_context (wsV RX1 68 RX1 yX1_vector wsX1_vector) := goodIn_app (goodIn_of _ (by decide +kernel)) ggX1_context_X1_vector
theorem dX1_context_0 : decode cX1_context 0 = .ok (.aload_n 0, 1) := by decide +kernel
theorem dX1_context_1 : decode cX1_context 1 = .ok (.iload_n 1, 1) := by decide +kernel
theorem dX1_context_2 : decode cX1_context 2 = .ok (.invokevirtual 48, 3) := by decide +kernel
theorem dX1_context_5 : decode cX1_context 5 = .ok (.ifCond .eq 37, 3) := by decide +kernel
theorem dX1_context_8 : decode cX1_context 8 = .ok (.iload_n 2, 1) := by decide +kernel
theorem dX1_context_9 : decode cX1_context 9 = .ok (.invokestatic 51, 3) := by decide +kernel
theorem dX1_context_12 : decode cX1_context 12 = .ok (.ifCond .eq 30, 3) := by decide +kernel
theorem dX1_context_15 : decode cX1_context 15 = .ok (.aload_n 0, 1) := by decide +kernel
theorem dX1_context_16 : decode cX1_context 16 = .ok (.iload_n 3, 1) := by decide +kernel
theorem dX1_context_17 : decode cX1_context 17 = .ok (.invokevirtual 44, 3) := by decide +kernel
theorem dX1_context_20 : decode cX1_context 20 = .ok (.ifCond .eq 22, 3) := by decide +kernel
theorem dX1_context_23 : decode cX1_context 23 = .ok (.aload_n 0, 1) := by decide +kernel
theorem dX1_context_24 : decode cX1_context 24 = .ok (.aload_n 0, 1) := by decide +kernel
theorem dX1_context_25 : decode cX1_context 25 = .ok (.getfield 29, 3) := by decide +kernel
theorem dX1_context_28 : decode cX1_context 28 = .ok (.iconst 3, 1) := by decide +kernel
theorem dX1_context_29 : decode cX1_context 29 = .ok (.iload_n 1, 1) := by decide +kernel
theorem dX1_context_30 : decode cX1_context 30 = .ok (.imul, 1) := by decide +kernel
theorem dX1_context_31 : decode cX1_context 31 = .ok (.iload_n 2, 1) := by decide +kernel
theorem dX1_context_32 : decode cX1_context 32 = .ok (.iadd, 1) := by decide +kernel
theorem dX1_context_33 : decode cX1_context 33 = .ok (.laload, 1) := by decide +kernel
theorem dX1_context_34 : decode cX1_context 34 = .ok (.iload_n 2, 1) := by decide +kernel
theorem dX1_context_35 : decode cX1_context 35 = .ok (.iload_n 3, 1) := by decide +kernel
theorem dX1_context_36 : decode cX1_context 36 = .ok (.invokevirtual 68, 3) := by decide +kernel
theorem dX1_context_39 : decode cX1_context 39 = .ok (.goto 4, 3) := by decide +kernel
theorem dX1_context_42 : decode cX1_context 42 = .ok (.iconst (-1), 1) := by decide +kernel
theorem dX1_context_43 : decode cX1_context 43 = .ok (.ireturn, 1) := by decide +kernel
set_option maxRecDepth 20000 in
theorem ggX1_sees_X1_isClient : GoodIn wsX1_sees wsX1_isClient := goodIn_r _ [7, 8, 12, 13, 14, 15, 16, 17, 18, 19, 20, 21] (by decide +kernel) (by decide +kernel)
set_option maxRecDepth 20000 in
theorem gX1_sees_X1_isClient : GoodIn wsX1_sees (wsV RX1 48 RX1 yX1_isClient wsX1_isClient) := goodIn_app (goodIn_of _ (by decide +kernel)) ggX1_sees_X1_isClient
set_option maxRecDepth 20000 in
theorem ggX1_sees_X1_isKey : GoodIn wsX1_sees wsX1_isKey := goodIn_r _ [11] (by decide +kernel) (by decide +kernel)
set_option maxRecDepth 20000 in
theorem gX1_sees_X1_isKey : GoodIn wsX1_sees (va_wsS RX1 51 yX1_isKey wsX1_isKey) := goodIn_app (goodIn_of _ (by decide +kernel)) ggX1_sees_X1_isKey
theorem dX1_sees_0 : decode cX1_sees 0 = .ok (.aload_n 0, 1) := by decide +kernel
theorem dX1_sees_1 : decode cX1_sees 1 = .ok (.iload_n 1, 1) := by decide +kernel
theorem dX1_sees_2 : decode cX1_sees 2 = .ok (.invokevirtual 48, 3) := by decide +kernel
theorem dX1_sees_5 : decode cX1_sees 5 = .ok (.ifCond .eq 47, 3) := by decide +kernel
theorem dX1_sees_8 : decode cX1_sees 8 = .ok (.iload_n 2, 1) := by decide +kernel
theorem dX1_sees_9 : decode cX1_sees 9 = .ok (.invokestatic 51, 3) := by decide +kernel
theorem dX1_sees_12 : decode cX1_sees 12 = .ok (.ifCond .eq 40, 3) := by decide +kernel
theorem dX1_sees_15 : decode cX1_sees 15 = .ok (.iload_n 3, 1) := by decide +kernel
theorem dX1_sees_16 : decode cX1_sees 16 = .ok (.ifCond .lt 36, 3) := by decide +kernel
theorem dX1_sees_19 : decode cX1_sees 19 = .ok (.iload_n 3, 1) := by decide +kernel
theorem dX1_sees_20 : decode cX1_sees 20 = .ok (.aload_n 0, 1) := by decide +kernel
theorem dX1_sees_21 : decode cX1_sees 21 = .ok (.getfield 7, 3) := by decide +kernel
theorem dX1_sees_24 : decode cX1_sees 24 = .ok (.iload_n 2, 1) := by decide +kernel
theorem dX1_sees_25 : decode cX1_sees 25 = .ok (.iaload, 1) := by decide +kernel
theorem dX1_sees_26 : decode cX1_sees 26 = .ok (.if_icmp .ge 26, 3) := by decide +kernel
theorem dX1_sees_29 : decode cX1_sees 29 = .ok (.aload_n 0, 1) := by decide +kernel
theorem dX1_sees_30 : decode cX1_sees 30 = .ok (.getfield 29, 3) := by decide +kernel
theorem dX1_sees_33 : decode cX1_sees 33 = .ok (.iconst 3, 1) := by decide +kernel
theorem dX1_sees_34 : decode cX1_sees 34 = .ok (.iload_n 1, 1) := by decide +kernel
theorem dX1_sees_35 : decode cX1_sees 35 = .ok (.imul, 1) := by decide +kernel
theorem dX1_sees_36 : decode cX1_sees 36 = .ok (.iload_n 2, 1) := by decide +kernel
theorem dX1_sees_37 : decode cX1_sees 37 = .ok (.iadd, 1) := by decide +kernel
theorem dX1_sees_38 : decode cX1_sees 38 = .ok (.laload, 1) := by decide +kernel
theorem dX1_sees_39 : decode cX1_sees 39 = .ok (.iload_n 3, 1) := by decide +kernel
theorem dX1_sees_40 : decode cX1_sees 40 = .ok (.lshr, 1) := by decide +kernel
theorem dX1_sees_41 : decode cX1_sees 41 = .ok (.lconst 1, 1) := by decide +kernel
theorem dX1_sees_42 : decode cX1_sees 42 = .ok (.land, 1) := by decide +kernel
theorem dX1_sees_43 : decode cX1_sees 43 = .ok (.lconst 1, 1) := by decide +kernel
theorem dX1_sees_44 : decode cX1_sees 44 = .ok (.lcmp, 1) := by decide +kernel
theorem dX1_sees_45 : decode cX1_sees 45 = .ok (.ifCond .ne 7, 3) := by decide +kernel
theorem dX1_sees_48 : decode cX1_sees 48 = .ok (.iconst 1, 1) := by decide +kernel
theorem dX1_sees_49 : decode cX1_sees 49 = .ok (.goto 4, 3) := by decide +kernel
theorem dX1_sees_52 : decode cX1_sees 52 = .ok (.iconst 0, 1) := by decide +kernel
theorem dX1_sees_53 : decode cX1_sees 53 = .ok (.ireturn, 1) := by decide +kernel
set_option maxRecDepth 20000 in
theorem ggX1_same_X1_isServer : GoodIn wsX1_same wsX1_isServer := goodIn_r _ [6, 7, 11, 12, 13, 14, 15, 16, 17, 18, 19, 20] (by decide +kernel) (by decide +kernel)
set_option maxRecDepth 20000 in
theorem gX1_same_X1_isServer : GoodIn wsX1_same (wsV RX1 44 RX1 yX1_isServer wsX1_isServer) := goodIn_app (goodIn_of _ (by decide +kernel)) ggX1_same_X1_isServer
set_option maxRecDepth 20000 in
theorem ggX1_same_X1_isKey : GoodIn wsX1_same wsX1_isKey := goodIn_r _ [10] (by decide +kernel) (by decide +kernel)
set_option maxRecDepth 20000 in
theorem gX1_same_X1_isKey : GoodIn wsX1_same (va_wsS RX1 51 yX1_isKey wsX1_isKey) := goodIn_app (goodIn_of _ (by decide +kernel)) ggX1_same_X1_isKey
theorem dX1_same_0 : decode cX1_same 0 = .ok (.aload_n 0, 1) := by decide +kernel
theorem dX1_same_1 : decode cX1_same 1 = .ok (.iload_n 1, 1) := by decide +kernel
theorem dX1_same_2 : decode cX1_same 2 = .ok (.invokevirtual 44, 3) := by decide +kernel
theorem dX1_same_5 : decode cX1_same 5 = .ok (.ifCond .eq 46, 3) := by decide +kernel
theorem dX1_same_8 : decode cX1_same 8 = .ok (.aload_n 0, 1) := by decide +kernel
theorem dX1_same_9 : decode cX1_same 9 = .ok (.iload_n 2, 1) := by decide +kernel
theorem dX1_same_10 : decode cX1_same 10 = .ok (.invokevirtual 44, 3) := by decide +kernel
theorem dX1_same_13 : decode cX1_same 13 = .ok (.ifCond .eq 38, 3) := by decide +kernel
theorem dX1_same_16 : decode cX1_same 16 = .ok (.iload_n 3, 1) := by decide +kernel
theorem dX1_same_17 : decode cX1_same 17 = .ok (.invokestatic 51, 3) := by decide +kernel
theorem dX1_same_20 : decode cX1_same 20 = .ok (.ifCond .eq 31, 3) := by decide +kernel
theorem dX1_same_23 : decode cX1_same 23 = .ok (.aload_n 0, 1) := by decide +kernel
theorem dX1_same_24 : decode cX1_same 24 = .ok (.getfield 26, 3) := by decide +kernel
theorem dX1_same_27 : decode cX1_same 27 = .ok (.iconst 3, 1) := by decide +kernel
theorem dX1_same_28 : decode cX1_same 28 = .ok (.iload_n 1, 1) := by decide +kernel
theorem dX1_same_29 : decode cX1_same 29 = .ok (.imul, 1) := by decide +kernel
theorem dX1_same_30 : decode cX1_same 30 = .ok (.iload_n 3, 1) := by decide +kernel
theorem dX1_same_31 : decode cX1_same 31 = .ok (.iadd, 1) := by decide +kernel
theorem dX1_same_32 : decode cX1_same 32 = .ok (.laload, 1) := by decide +kernel
theorem dX1_same_33 : decode cX1_same 33 = .ok (.aload_n 0, 1) := by decide +kernel
theorem dX1_same_34 : decode cX1_same 34 = .ok (.getfield 26, 3) := by decide +kernel
theorem dX1_same_37 : decode cX1_same 37 = .ok (.iconst 3, 1) := by decide +kernel
theorem dX1_same_38 : decode cX1_same 38 = .ok (.iload_n 2, 1) := by decide +kernel
theorem dX1_same_39 : decode cX1_same 39 = .ok (.imul, 1) := by decide +kernel
theorem dX1_same_40 : decode cX1_same 40 = .ok (.iload_n 3, 1) := by decide +kernel
theorem dX1_same_41 : decode cX1_same 41 = .ok (.iadd, 1) := by decide +kernel
theorem dX1_same_42 : decode cX1_same 42 = .ok (.laload, 1) := by decide +kernel
theorem dX1_same_43 : decode cX1_same 43 = .ok (.lcmp, 1) := by decide +kernel
theorem dX1_same_44 : decode cX1_same 44 = .ok (.ifCond .ne 7, 3) := by decide +kernel
theorem dX1_same_47 : decode cX1_same 47 = .ok (.iconst 1, 1) := by decide +kernel
theorem dX1_same_48 : decode cX1_same 48 = .ok (.goto 4, 3) := by decide +kernel
theorem dX1_same_51 : decode cX1_same 51 = .ok (.iconst 0, 1) := by decide +kernel
theorem dX1_same_52 : decode cX1_same 52 = .ok (.ireturn, 1) := by decide +kernel
set_option maxRecDepth 20000 in
theorem ggX1_weight_X1_isServer : GoodIn wsX1_weight wsX1_isServer := goodIn_r _ [6, 1, 35, 36, 37, 38, 39, 40, 41, 42, 43, 44] (by decide +kernel) (by decide +kernel)
set_option maxRecDepth 20000 in
theorem gX1_weight_X1_isServer : GoodIn wsX1_weight (wsV RX1 44 RX1 yX1_isServer wsX1_isServer) := goodIn_app (goodIn_of _ (by decide +kernel)) ggX1_weight_X1_isServer
set_option maxRecDepth 20000 in
theorem ggX1_weight_X1_isKey : GoodIn wsX1_weight wsX1_isKey := goodIn_r _ [9] (by decide +kernel) (by decide +kernel)
set_option maxRecDepth 20000 in
theorem gX1_weight_X1_isKey : GoodIn wsX1_weight (va_wsS RX1 51 yX1_isKey wsX1_isKey) := goodIn_app (goodIn_of _ (by decide +kernel)) ggX1_weight_X1_isKey
set_option maxRecDepth 20000 in
theorem ggX1_weight_X1_siblings : GoodIn wsX1_weight wsX1_siblings := goodIn_r _ [13, 14, 2, 3, 4, 5, 6, 1, 7, 8, 9, 15, 16, 17, 18, 19, 20, 21, 22, 23, 24, 35, 36, 37, 38, 39, 40, 41, 42, 43, 44] (by decide +kernel) (by decide +kernel)
set_option maxRecDepth 20000 in
theorem gX1_weight_X1_siblings : GoodIn wsX1_weight (wsV RX1 71 RX1 yX1_siblings wsX1_siblings) := goodIn_app (goodIn_of _ (by decide +kernel)) ggX1_weight_X1_siblings
set_option maxRecDepth 20000 in
theorem ggX1_weight_X1_known : GoodIn wsX1_weight wsX1_known := goodIn_r _ [28, 14, 2, 3, 4, 5, 6, 1, 7, 8, 9, 29, 30, 31, 32, 19, 33, 34, 35, 36, 37, 38, 39, 40, 41, 42, 43, 44] (by decide +kernel) (by decide +kernel)
set_option maxRecDepth 20000 in
theorem gX1_weight_X1_known : GoodIn wsX1_weight (wsV RX1 75 RX1 yX1_known wsX1_known) := goodIn_app (goodIn_of _ (by decide +kernel)) ggX1_weight_X1_known
theorem dX1_weight_0 : decode cX1_weight 0 = .ok (.aload_n 0, 1) := by decide +kernel
theorem dX1_weight_1 : decode cX1_weight 1 = .ok (.iload_n 1, 1) := by decide +kernel
theorem dX1_weight_2 : decode cX1_weight 2 = .ok (.invokevirtual 44, 3) := by decide +kernel
theorem dX1_weight_5 : decode cX1_weight 5 = .ok (.ifCond .eq 10, 3) := by decide +kernel
theorem dX1_weight_8 : decode cX1_weight 8 = .ok (.iload_n 2, 1) := by decide +kernel
theorem dX1_weight_9 : decode cX1_weight 9 = .ok (.invokestatic 51, 3) := by decide +kernel
theorem dX1_weight_12 : decode cX1_weight 12 = .ok (.ifCond .ne 5, 3) := by decide +kernel
theorem dX1_weight_15 : decode cX1_weight 15 = .ok (.iconst (-1), 1) := by decide +kernel
theorem dX1_weight_16 : decode cX1_weight 16 = .ok (.ireturn, 1) := by decide +kernel
theorem dX1_weight_17 : decode cX1_weight 17 = .ok (.aload_n 0, 1) := by decide +kernel
theorem dX1_weight_18 : decode cX1_weight 18 = .ok (.iload_n 1, 1) := by decide +kernel
theorem dX1_weight_19 : decode cX1_weight 19 = .ok (.iload_n 2, 1) := by decide +kernel
theorem dX1_weight_20 : decode cX1_weight 20 = .ok (.invokevirtual 71, 3) := by decide +kernel
theorem dX1_weight_23 : decode cX1_weight 23 = .ok (.istore_n 3, 1) := by decide +kernel
theorem dX1_weight_24 : decode cX1_weight 24 = .ok (.iconst 0, 1) := by decide +kernel
theorem dX1_weight_25 : decode cX1_weight 25 = .ok (.istore 4, 2) := by decide +kernel
theorem dX1_weight_27 : decode cX1_weight 27 = .ok (.iload 4, 2) := by decide +kernel
theorem dX1_weight_29 : decode cX1_weight 29 = .ok (.aload_n 0, 1) := by decide +kernel
theorem dX1_weight_30 : decode cX1_weight 30 = .ok (.getfield 35, 3) := by decide +kernel
theorem dX1_weight_33 : decode cX1_weight 33 = .ok (.if_icmp .ge 28, 3) := by decide +kernel
theorem dX1_weight_36 : decode cX1_weight 36 = .ok (.iload_n 3, 1) := by decide +kernel
theorem dX1_weight_37 : decode cX1_weight 37 = .ok (.aload_n 0, 1) := by decide +kernel
theorem dX1_weight_38 : decode cX1_weight 38 = .ok (.iload_n 1, 1) := by decide +kernel
theorem dX1_weight_39 : decode cX1_weight 39 = .ok (.iload_n 2, 1) := by decide +kernel
theorem dX1_weight_40 : decode cX1_weight 40 = .ok (.iload 4, 2) := by decide +kernel
theorem dX1_weight_42 : decode cX1_weight 42 = .ok (.invokevirtual 75, 3) := by decide +kernel
theorem dX1_weight_45 : decode cX1_weight 45 = .ok (.ifCond .le 7, 3) := by decide +kernel
theorem dX1_weight_48 : decode cX1_weight 48 = .ok (.iconst 1, 1) := by decide +kernel
theorem dX1_weight_49 : decode cX1_weight 49 = .ok (.goto 4, 3) := by decide +kernel
theorem dX1_weight_52 : decode cX1_weight 52 = .ok (.iconst 0, 1) := by decide +kernel
theorem dX1_weight_53 : decode cX1_weight 53 = .ok (.iadd, 1) := by decide +kernel
theorem dX1_weight_54 : decode cX1_weight 54 = .ok (.istore_n 3, 1) := by decide +kernel
theorem dX1_weight_55 : decode cX1_weight 55 = .ok (.iinc 4 1, 3) := by decide +kernel
theorem dX1_weight_58 : decode cX1_weight 58 = .ok (.goto (-31), 3) := by decide +kernel
theorem dX1_weight_61 : decode cX1_weight 61 = .ok (.iload_n 3, 1) := by decide +kernel
theorem dX1_weight_62 : decode cX1_weight 62 = .ok (.ireturn, 1) := by decide +kernel
theorem dJ13_bitCount_95d88_0 : decode cJ13_bitCount_95d88 0 = .ok (.lload_n 0, 1) := by decide +kernel
theorem dJ13_bitCount_95d88_1 : decode cJ13_bitCount_95d88 1 = .ok (.lload_n 0, 1) := by decide +kernel
theorem dJ13_bitCount_95d88_2 : decode cJ13_bitCount_95d88 2 = .ok (.iconst 1, 1) := by decide +kernel
theorem dJ13_bitCount_95d88_3 : decode cJ13_bitCount_95d88 3 = .ok (.lushr, 1) := by decide +kernel
theorem dJ13_bitCount_95d88_4 : decode cJ13_bitCount_95d88 4 = .ok (.ldc2_w 314, 3) := by decide +kernel
theorem dJ13_bitCount_95d88_7 : decode cJ13_bitCount_95d88 7 = .ok (.land, 1) := by decide +kernel
theorem dJ13_bitCount_95d88_8 : decode cJ13_bitCount_95d88 8 = .ok (.lsub, 1) := by decide +kernel
theorem dJ13_bitCount_95d88_9 : decode cJ13_bitCount_95d88 9 = .ok (.lstore_n 0, 1) := by decide +kernel
theorem dJ13_bitCount_95d88_10 : decode cJ13_bitCount_95d88 10 = .ok (.lload_n 0, 1) := by decide +kernel
theorem dJ13_bitCount_95d88_11 : decode cJ13_bitCount_95d88 11 = .ok (.ldc2_w 316, 3) := by decide +kernel
theorem dJ13_bitCount_95d88_14 : decode cJ13_bitCount_95d88 14 = .ok (.land, 1) := by decide +kernel
theorem dJ13_bitCount_95d88_15 : decode cJ13_bitCount_95d88 15 = .ok (.lload_n 0, 1) := by decide +kernel
theorem dJ13_bitCount_95d88_16 : decode cJ13_bitCount_95d88 16 = .ok (.iconst 2, 1) := by decide +kernel
theorem dJ13_bitCount_95d88_17 : decode cJ13_bitCount_95d88 17 = .ok (.lushr, 1) := by decide +kernel
theorem dJ13_bitCount_95d88_18 : decode cJ13_bitCount_95d88 18 = .ok (.ldc2_w 316, 3) := by decide +kernel
theorem dJ13_bitCount_95d88_21 : decode cJ13_bitCount_95d88 21 = .ok (.land, 1) := by decide +kernel
theorem dJ13_bitCount_95d88_22 : decode cJ13_bitCount_95d88 22 = .ok (.ladd, 1) := by decide +kernel
theorem dJ13_bitCount_95d88_23 : decode cJ13_bitCount_95d88 23 = .ok (.lstore_n 0, 1) := by decide +kernel
theorem dJ13_bitCount_95d88_24 : decode cJ13_bitCount_95d88 24 = .ok (.lload_n 0, 1) := by decide +kernel
theorem dJ13_bitCount_95d88_25 : decode cJ13_bitCount_95d88 25 = .ok (.lload_n 0, 1) := by decide +kernel
theorem dJ13_bitCount_95d88_26 : decode cJ13_bitCount_95d88 26 = .ok (.iconst 4, 1) := by decide +kernel
theorem dJ13_bitCount_95d88_27 : decode cJ13_bitCount_95d88 27 = .ok (.lushr, 1) := by decide +kernel
theorem dJ13_bitCount_95d88_28 : decode cJ13_bitCount_95d88 28 = .ok (.ladd, 1) := by decide +kernel
theorem dJ13_bitCount_95d88_29 : decode cJ13_bitCount_95d88 29 = .ok (.ldc2_w 318, 3) := by decide +kernel
theorem dJ13_bitCount_95d88_32 : decode cJ13_bitCount_95d88 32 = .ok (.land, 1) := by decide +kernel
theorem dJ13_bitCount_95d88_33 : decode cJ13_bitCount_95d88 33 = .ok (.lstore_n 0, 1) := by decide +kernel
theorem dJ13_bitCount_95d88_34 : decode cJ13_bitCount_95d88 34 = .ok (.lload_n 0, 1) := by decide +kernel
theorem dJ13_bitCount_95d88_35 : decode cJ13_bitCount_95d88 35 = .ok (.lload_n 0, 1) := by decide +kernel
theorem dJ13_bitCount_95d88_36 : decode cJ13_bitCount_95d88 36 = .ok (.bipush 8, 2) := by decide +kernel
theorem dJ13_bitCount_95d88_38 : decode cJ13_bitCount_95d88 38 = .ok (.lushr, 1) := by decide +kernel
theorem dJ13_bitCount_95d88_39 : decode cJ13_bitCount_95d88 39 = .ok (.ladd, 1) := by decide +kernel
theorem dJ13_bitCount_95d88_40 : decode cJ13_bitCount_95d88 40 = .ok (.lstore_n 0, 1) := by decide +kernel
theorem dJ13_bitCount_95d88_41 : decode cJ13_bitCount_95d88 41 = .ok (.lload_n 0, 1) := by decide +kernel
theorem dJ13_bitCount_95d88_42 : decode cJ13_bitCount_95d88 42 = .ok (.lload_n 0, 1) := by decide +kernel
theorem dJ13_bitCount_95d88_43 : decode cJ13_bitCount_95d88 43 = .ok (.bipush 16, 2) := by decide +kernel
theorem dJ13_bitCount_95d88_45 : decode cJ13_bitCount_95d88 45 = .ok (.lushr, 1) := by decide +kernel
theorem dJ13_bitCount_95d88_46 : decode cJ13_bitCount_95d88 46 = .ok (.ladd, 1) := by decide +kernel
theorem dJ13_bitCount_95d88_47 : decode cJ13_bitCount_95d88 47 = .ok (.lstore_n 0, 1) := by decide +kernel
theorem dJ13_bitCount_95d88_48 : decode cJ13_bitCount_95d88 48 = .ok (.lload_n 0, 1) := by decide +kernel
theorem dJ13_bitCount_95d88_49 : decode cJ13_bitCount_95d88 49 = .ok (.lload_n 0, 1) := by decide +kernel
theorem dJ13_bitCount_95d88_50 : decode cJ13_bitCount_95d88 50 = .ok (.bipush 32, 2) := by decide +kernel
theorem dJ13_bitCount_95d88_52 : decode cJ13_bitCount_95d88 52 = .ok (.lushr, 1) := by decide +kernel
theorem dJ13_bitCount_95d88_53 : decode cJ13_bitCount_95d88 53 = .ok (.ladd, 1) := by decide +kernel
theorem dJ13_bitCount_95d88_54 : decode cJ13_bitCount_95d88 54 = .ok (.lstore_n 0, 1) := by decide +kernel
theorem dJ13_bitCount_95d88_55 : decode cJ13_bitCount_95d88 55 = .ok (.lload_n 0, 1) := by decide +kernel
theorem dJ13_bitCount_95d88_56 : decode cJ13_bitCount_95d88 56 = .ok (.l2i, 1) := by decide +kernel
theorem dJ13_bitCount_95d88_57 : decode cJ13_bitCount_95d88 57 = .ok (.bipush 127, 2) := by decide +kernel
theorem dJ13_bitCount_95d88_59 : decode cJ13_bitCount_95d88 59 = .ok (.iand, 1) := by decide +kernel
theorem dJ13_bitCount_95d88_60 : decode cJ13_bitCount_95d88 60 = .ok (.ireturn, 1) := by decide +kernel
theorem dJ9_max_7cf53_0 : decode cJ9_max_7cf53 0 = .ok (.iload_n 0, 1) := by decide +kernel
theorem dJ9_max_7cf53_1 : decode cJ9_max_7cf53 1 = .ok (.iload_n 1, 1) := by decide +kernel
theorem dJ9_max_7cf53_2 : decode cJ9_max_7cf53 2 = .ok (.if_icmp .lt 7, 3) := by decide +kernel
theorem dJ9_max_7cf53_5 : decode cJ9_max_7cf53 5 = .ok (.iload_n 0, 1) := by decide +kernel
theorem dJ9_max_7cf53_6 : decode cJ9_max_7cf53 6 = .ok (.goto 4, 3) := by decide +kernel
theorem dJ9_max_7cf53_9 : decode cJ9_max_7cf53 9 = .ok (.iload_n 1, 1) := by decide +kernel
theorem dJ9_max_7cf53_10 : decode cJ9_max_7cf53 10 = .ok (.ireturn, 1) := by decide +kernel
theorem dL_cell_0 : decode cL_cell 0 = .ok (.iload_n 1, 1) := by decide +kernel
theorem dL_cell_1 : decode cL_cell 1 = .ok (.aload_n 0, 1) := by decide +kernel
theorem dL_cell_2 : decode cL_cell 2 = .ok (.arraylength, 1) := by decide +kernel
theorem dL_cell_3 : decode cL_cell 3 = .ok (.if_icmp .ge 9, 3) := by decide +kernel
theorem dL_cell_6 : decode cL_cell 6 = .ok (.aload_n 0, 1) := by decide +kernel
theorem dL_cell_7 : decode cL_cell 7 = .ok (.iload_n 1, 1) := by decide +kernel
theorem dL_cell_8 : decode cL_cell 8 = .ok (.iaload, 1) := by decide +kernel
theorem dL_cell_9 : decode cL_cell 9 = .ok (.goto 4, 3) := by decide +kernel
theorem dL_cell_12 : decode cL_cell 12 = .ok (.iconst 0, 1) := by decide +kernel
theorem dL_cell_13 : decode cL_cell 13 = .ok (.ireturn, 1) := by decide +kernel
set_option maxRecDepth 20000 in
theorem ggL_law_L_cell : GoodIn wsL_law wsL_cell := goodIn_r _ [9] (by decide +kernel) (by decide +kernel)
set_option maxRecDepth 20000 in
theorem gL_law_L_cell : GoodIn wsL_law (va_wsS RL 9 yL_cell wsL_cell) := goodIn_app (goodIn_of _ (by decide +kernel)) ggL_law_L_cell
set_option maxRecDepth 20000 in
theorem ggL_law_X0_init : GoodIn wsL_law wsX0_init := goodIn_r _ [12, 13, 14, 15, 16, 17, 18, 19, 20, 21, 22, 23, 24, 25, 26, 27, 28, 29, 30, 2, 31, 215, 216, 217, 218, 219, 220, 221, 222, 223] (by decide +kernel) (by decide +kernel)
set_option maxRecDepth 20000 in
theorem gL_law_X0_init : GoodIn wsL_law (wsX0_init) := ggL_law_X0_init
set_option maxRecDepth 20000 in
theorem ggL_law_X1_init : GoodIn wsL_law wsX1_init := goodIn_r _ [34, 35, 14, 15, 18, 36, 37, 38, 39, 25, 40, 41, 42, 43, 44, 45, 224, 225, 226, 227, 228, 229, 230, 231, 232, 233] (by decide +kernel) (by decide +kernel)
set_option maxRecDepth 20000 in
theorem gL_law_X1_init : GoodIn wsL_law (wsX1_init) := ggL_law_X1_init
set_option maxRecDepth 20000 in
theorem ggL_law_X0_get : GoodIn wsL_law wsX0_get := goodIn_r _ [49, 28, 27, 50, 51, 52, 2, 53, 16, 54, 55, 56, 57, 17, 58, 59, 60, 61, 62, 63, 64, 19, 26, 65, 66, 67, 68, 69, 70, 71, 72, 73, 74, 75, 215, 216, 217, 218, 219, 220, 221, 222, 223] (by decide +kernel) (by decide +kernel)
set_option maxRecDepth 20000 in
theorem gL_law_X0_get : GoodIn wsL_law (wsV RL 21 RX0 yX0_get wsX0_get) := goodIn_app (goodIn_of _ (by decide +kernel)) ggL_law_X0_get
set_option maxRecDepth 20000 in
theorem ggL_law_X1_get : GoodIn wsL_law wsX1_get := goodIn_r _ [79, 42, 41, 43, 80, 81, 82, 5, 83, 44, 84, 85, 86, 87, 45, 88, 89, 90, 91, 92, 93, 94, 36, 40, 95, 96, 97, 98, 224, 225, 226, 227, 228, 229, 230, 231, 232, 233] (by decide +kernel) (by decide +kernel)
set_option maxRecDepth 20000 in
theorem gL_law_X1_get : GoodIn wsL_law (wsV RL 25 RX1 yX1_get wsX1_get) := goodIn_app (goodIn_of _ (by decide +kernel)) ggL_law_X1_get
set_option maxRecDepth 20000 in
theorem ggL_law_X0_read : GoodIn wsL_law wsX0_read := goodIn_r _ [102, 103, 28, 21, 54, 55, 56, 2, 57, 17, 58, 59, 60, 104, 105, 106, 107, 16, 19, 22, 61, 62, 63, 64, 26, 65, 66, 67, 68, 215, 216, 217, 218, 219, 220, 221, 222, 223] (by decide +kernel) (by decide +kernel)
set_option maxRecDepth 20000 in
theorem gL_law_X0_read : GoodIn wsL_law (wsV RL 26 RX0 yX0_read wsX0_read) := goodIn_app (goodIn_of _ (by decide +kernel)) ggL_law_X0_read
set_option maxRecDepth 20000 in
theorem ggL_law_X1_read : GoodIn wsL_law wsX1_read := goodIn_r _ [111, 112, 43, 37, 84, 85, 86, 5, 87, 45, 88, 89, 90, 113, 114, 115, 116, 44, 36, 38, 224, 225, 226, 227, 228, 229, 230, 231, 232, 233] (by decide +kernel) (by decide +kernel)
set_option maxRecDepth 20000 in
theorem gL_law_X1_read : GoodIn wsL_law (wsV RL 30 RX1 yX1_read wsX1_read) := goodIn_app (goodIn_of _ (by decide +kernel)) ggL_law_X1_read
set_option maxRecDepth 20000 in
theorem ggL_law_X0_put : GoodIn wsL_law wsX0_put := goodIn_r _ [120, 19, 28, 21, 22, 23, 27, 26, 50, 51, 52, 2, 53, 16, 54, 55, 56, 57, 17, 58, 59, 60, 121, 122, 123, 124, 125, 126, 127, 128, 66, 67, 68, 215, 216, 217, 218, 219, 220, 221, 222, 223] (by decide +kernel) (by decide +kernel)
set_option maxRecDepth 20000 in
theorem gL_law_X0_put : GoodIn wsL_law (wsV RL 31 RX0 yX0_put wsX0_put) := goodIn_app (goodIn_of _ (by decide +kernel)) ggL_law_X0_put
set_option maxRecDepth 20000 in
theorem ggL_law_X1_put : GoodIn wsL_law wsX1_put := goodIn_r _ [132, 36, 38, 37, 39, 40, 42, 41, 80, 81, 82, 5, 83, 44, 84, 85, 86, 87, 45, 88, 89, 90, 224, 225, 226, 227, 228, 229, 230, 231, 232, 233] (by decide +kernel) (by decide +kernel)
set_option maxRecDepth 20000 in
theorem gL_law_X1_put : GoodIn wsL_law (wsV RL 35 RX1 yX1_put wsX1_put) := goodIn_app (goodIn_of _ (by decide +kernel)) ggL_law_X1_put
set_option maxRecDepth 20000 in
theorem ggL_law_X0_sync : GoodIn wsL_law wsX0_sync := goodIn_r _ [136, 27, 50, 51, 52, 2, 53, 16, 58, 59, 60, 215, 216, 217, 218, 219, 220, 221, 222, 223] (by decide +kernel) (by decide +kernel)
set_option maxRecDepth 20000 in
theorem gL_law_X0_sync : GoodIn wsL_law (wsV RL 36 RX0 yX0_sync wsX0_sync) := goodIn_app (goodIn_of _ (by decide +kernel)) ggL_law_X0_sync
set_option maxRecDepth 20000 in
theorem ggL_law_X1_sync : GoodIn wsL_law wsX1_sync := goodIn_r _ [140, 41, 80, 81, 82, 5, 83, 44, 88, 89, 90, 224, 225, 226, 227, 228, 229, 230, 231, 232, 233] (by decide +kernel) (by decide +kernel)
set_option maxRecDepth 20000 in
theorem gL_law_X1_sync : GoodIn wsL_law (wsV RL 40 RX1 yX1_sync wsX1_sync) := goodIn_app (goodIn_of _ (by decide +kernel)) ggL_law_X1_sync
set_option maxRecDepth 20000 in
theorem ggL_law_X0_forget : GoodIn wsL_law wsX0_forget := goodIn_r _ [144, 28, 54, 55, 56, 2, 57, 17, 58, 59, 60, 215, 216, 217, 218, 219, 220, 221, 222, 223] (by decide +kernel) (by decide +kernel)
set_option maxRecDepth 20000 in
theorem gL_law_X0_forget : GoodIn wsL_law (wsV RL 41 RX0 yX0_forget wsX0_forget) := goodIn_app (goodIn_of _ (by decide +kernel)) ggL_law_X0_forget
set_option maxRecDepth 20000 in
theorem ggL_law_X1_forget : GoodIn wsL_law wsX1_forget := goodIn_r _ [148, 42, 43, 84, 85, 86, 5, 87, 45, 88, 89, 90, 224, 225, 226, 227, 228, 229, 230, 231, 232, 233] (by decide +kernel) (by decide +kernel)
set_option maxRecDepth 20000 in
theorem gL_law_X1_forget : GoodIn wsL_law (wsV RL 45 RX1 yX1_forget wsX1_forget) := goodIn_app (goodIn_of _ (by decide +kernel)) ggL_law_X1_forget
set_option maxRecDepth 20000 in
theorem ggL_law_X0_siblings : GoodIn wsL_law wsX0_siblings := goodIn_r _ [152, 27, 50, 51, 52, 2, 53, 16, 58, 59, 60, 61, 62, 63, 64, 19, 26, 65, 66, 67, 68, 69, 70, 71, 72, 73, 74, 75, 215, 216, 217, 218, 219, 220, 221, 222, 223] (by decide +kernel) (by decide +kernel)
set_option maxRecDepth 20000 in
theorem gL_law_X0_siblings : GoodIn wsL_law (wsV RL 46 RX0 yX0_siblings wsX0_siblings) := goodIn_app (goodIn_of _ (by decide +kernel)) ggL_law_X0_siblings
set_option maxRecDepth 20000 in
theorem ggL_law_X1_siblings : GoodIn wsL_law wsX1_siblings := goodIn_r _ [156, 41, 80, 81, 82, 5, 83, 44, 88, 89, 90, 91, 92, 93, 94, 36, 40, 95, 96, 97, 98, 224, 225, 226, 227, 228, 229, 230, 231, 232, 233] (by decide +kernel) (by decide +kernel)
set_option maxRecDepth 20000 in
theorem gL_law_X1_siblings : GoodIn wsL_law (wsV RL 50 RX1 yX1_siblings wsX1_siblings) := goodIn_app (goodIn_of _ (by decide +kernel)) ggL_law_X1_siblings
set_option maxRecDepth 20000 in
theorem ggL_law_X0_sibling : GoodIn wsL_law wsX0_sibling := goodIn_r _ [160, 103, 27, 50, 51, 52, 2, 53, 16, 58, 59, 60, 104, 105, 106, 107, 19, 22, 61, 62, 63, 64, 26, 65, 66, 67, 68, 161, 162, 163, 164, 21, 23, 215, 216, 217, 218, 219, 220, 221, 222, 223] (by decide +kernel) (by decide +kernel)
set_option maxRecDepth 20000 in
theorem gL_law_X0_sibling : GoodIn wsL_law (wsV RL 51 RX0 yX0_sibling wsX0_sibling) := goodIn_app (goodIn_of _ (by decide +kernel)) ggL_law_X0_sibling
set_option maxRecDepth 20000 in
theorem ggL_law_X1_sibling : GoodIn wsL_law wsX1_sibling := goodIn_r _ [168, 112, 41, 37, 38, 39, 80, 81, 82, 5, 83, 44, 88, 89, 90, 91, 92, 93, 94, 36, 40, 95, 113, 114, 115, 116, 224, 225, 226, 227, 228, 229, 230, 231, 232, 233] (by decide +kernel) (by decide +kernel)
set_option maxRecDepth 20000 in
theorem gL_law_X1_sibling : GoodIn wsL_law (wsV RL 55 RX1 yX1_sibling wsX1_sibling) := goodIn_app (goodIn_of _ (by decide +kernel)) ggL_law_X1_sibling
set_option maxRecDepth 20000 in
theorem ggL_law_X0_known : GoodIn wsL_law wsX0_known := goodIn_r _ [172, 27, 50, 51, 52, 2, 53, 16, 58, 59, 60, 121, 122, 123, 124, 19, 22, 23, 125, 126, 127, 128, 66, 67, 68, 215, 216, 217, 218, 219, 220, 221, 222, 223] (by decide +kernel) (by decide +kernel)
set_option maxRecDepth 20000 in
theorem gL_law_X0_known : GoodIn wsL_law (wsV RL 56 RX0 yX0_known wsX0_known) := goodIn_app (goodIn_of _ (by decide +kernel)) ggL_law_X0_known
set_option maxRecDepth 20000 in
theorem ggL_law_X1_known : GoodIn wsL_law wsX1_known := goodIn_r _ [176, 41, 80, 81, 82, 5, 83, 44, 88, 89, 90, 177, 178, 179, 180, 36, 38, 39, 224, 225, 226, 227, 228, 229, 230, 231, 232, 233] (by decide +kernel) (by decide +kernel)
set_option maxRecDepth 20000 in
theorem gL_law_X1_known : GoodIn wsL_law (wsV RL 59 RX1 yX1_known wsX1_known) := goodIn_app (goodIn_of _ (by decide +kernel)) ggL_law_X1_known
set_option maxRecDepth 20000 in
theorem ggL_law_X0_context : GoodIn wsL_law wsX0_context := goodIn_r _ [184, 28, 54, 55, 56, 2, 57, 17, 58, 59, 60, 50, 51, 52, 53, 16, 121, 122, 123, 124, 19, 22, 23, 125, 126, 127, 128, 66, 67, 68, 215, 216, 217, 218, 219, 220, 221, 222, 223] (by decide +kernel) (by decide +kernel)
set_option maxRecDepth 20000 in
theorem gL_law_X0_context : GoodIn wsL_law (wsV RL 60 RX0 yX0_context wsX0_context) := goodIn_app (goodIn_of _ (by decide +kernel)) ggL_law_X0_context
set_option maxRecDepth 20000 in
theorem ggL_law_X1_context : GoodIn wsL_law wsX1_context := goodIn_r _ [188, 42, 84, 85, 86, 5, 87, 45, 88, 89, 90, 80, 81, 82, 83, 44, 177, 178, 179, 180, 36, 38, 39, 224, 225, 226, 227, 228, 229, 230, 231, 232, 233] (by decide +kernel) (by decide +kernel)
set_option maxRecDepth 20000 in
theorem gL_law_X1_context : GoodIn wsL_law (wsV RL 63 RX1 yX1_context wsX1_context) := goodIn_app (goodIn_of _ (by decide +kernel)) ggL_law_X1_context
set_option maxRecDepth 20000 in
theorem ggL_law_X0_sees : GoodIn wsL_law wsX0_sees := goodIn_r _ [192, 19, 28, 54, 55, 56, 2, 57, 17, 58, 59, 60, 66, 67, 68, 215, 216, 217, 218, 219, 220, 221, 222, 223] (by decide +kernel) (by decide +kernel)
set_option maxRecDepth 20000 in
theorem gL_law_X0_sees : GoodIn wsL_law (wsV RL 64 RX0 yX0_sees wsX0_sees) := goodIn_app (goodIn_of _ (by decide +kernel)) ggL_law_X0_sees
set_option maxRecDepth 20000 in
theorem ggL_law_X1_sees : GoodIn wsL_law wsX1_sees := goodIn_r _ [196, 36, 42, 84, 85, 86, 5, 87, 45, 88, 89, 90, 224, 225, 226, 227, 228, 229, 230, 231, 232, 233] (by decide +kernel) (by decide +kernel)
set_option maxRecDepth 20000 in
theorem gL_law_X1_sees : GoodIn wsL_law (wsV RL 67 RX1 yX1_sees wsX1_sees) := goodIn_app (goodIn_of _ (by decide +kernel)) ggL_law_X1_sees
set_option maxRecDepth 20000 in
theorem ggL_law_X0_same : GoodIn wsL_law wsX0_same := goodIn_r _ [200, 27, 50, 51, 52, 2, 53, 16, 58, 59, 60, 215, 216, 217, 218, 219, 220, 221, 222, 223] (by decide +kernel) (by decide +kernel)
set_option maxRecDepth 20000 in
theorem gL_law_X0_same : GoodIn wsL_law (wsV RL 68 RX0 yX0_same wsX0_same) := goodIn_app (goodIn_of _ (by decide +kernel)) ggL_law_X0_same
set_option maxRecDepth 20000 in
theorem ggL_law_X1_same : GoodIn wsL_law wsX1_same := goodIn_r _ [204, 41, 80, 81, 82, 5, 83, 44, 88, 89, 90, 224, 225, 226, 227, 228, 229, 230, 231, 232, 233] (by decide +kernel) (by decide +kernel)
set_option maxRecDepth 20000 in
theorem gL_law_X1_same : GoodIn wsL_law (wsV RL 71 RX1 yX1_same wsX1_same) := goodIn_app (goodIn_of _ (by decide +kernel)) ggL_law_X1_same
set_option maxRecDepth 20000 in
theorem ggL_law_X0_weight : GoodIn wsL_law wsX0_weight := goodIn_r _ [208, 27, 16, 50, 51, 52, 2, 53, 58, 59, 60, 121, 122, 123, 124, 19, 22, 23, 125, 126, 127, 128, 66, 67, 68, 61, 62, 63, 64, 26, 65, 69, 70, 71, 72, 73, 74, 75, 215, 216, 217, 218, 219, 220, 221, 222, 223] (by decide +kernel) (by decide +kernel)
set_option maxRecDepth 20000 in
theorem gL_law_X0_weight : GoodIn wsL_law (wsV RL 72 RX0 yX0_weight wsX0_weight) := goodIn_app (goodIn_of _ (by decide +kernel)) ggL_law_X0_weight
set_option maxRecDepth 20000 in
theorem ggL_law_X1_weight : GoodIn wsL_law wsX1_weight := goodIn_r _ [212, 44, 80, 81, 82, 5, 83, 88, 89, 90, 213, 154, 155, 156, 41, 91, 92, 93, 94, 36, 40, 95, 96, 97, 98, 214, 174, 175, 176, 177, 178, 179, 180, 38, 39, 224, 225, 226, 227, 228, 229, 230, 231, 232, 233] (by decide +kernel) (by decide +kernel)
set_option maxRecDepth 20000 in
theorem gL_law_X1_weight : GoodIn wsL_law (wsV RL 75 RX1 yX1_weight wsX1_weight) := goodIn_app (goodIn_of _ (by decide +kernel)) ggL_law_X1_weight
theorem dL_law_0 : decode cL_law 0 = .ok (.new 7, 3) := by decide +kernel
theorem dL_law_3 : decode cL_law 3 = .ok (.dup, 1) := by decide +kernel
theorem dL_law_4 : decode cL_law 4 = .ok (.aload_n 0, 1) := by decide +kernel
theorem dL_law_5 : decode cL_law 5 = .ok (.iconst 0, 1) := by decide +kernel
theorem dL_law_6 : decode cL_law 6 = .ok (.invokestatic 9, 3) := by decide +kernel
theorem dL_law_9 : decode cL_law 9 = .ok (.aload_n 0, 1) := by decide +kernel
theorem dL_law_10 : decode cL_law 10 = .ok (.iconst 1, 1) := by decide +kernel
theorem dL_law_11 : decode cL_law 11 = .ok (.invokestatic 9, 3) := by decide +kernel
theorem dL_law_14 : decode cL_law 14 = .ok (.invokespecial 15, 3) := by decide +kernel
theorem dL_law_17 : decode cL_law 17 = .ok (.astore_n 1, 1) := by decide +kernel
theorem dL_law_18 : decode cL_law 18 = .ok (.new 18, 3) := by decide +kernel
theorem dL_law_21 : decode cL_law 21 = .ok (.dup, 1) := by decide +kernel
theorem dL_law_22 : decode cL_law 22 = .ok (.aload_n 0, 1) := by decide +kernel
theorem dL_law_23 : decode cL_law 23 = .ok (.iconst 0, 1) := by decide +kernel
theorem dL_law_24 : decode cL_law 24 = .ok (.invokestatic 9, 3) := by decide +kernel
theorem dL_law_27 : decode cL_law 27 = .ok (.aload_n 0, 1) := by decide +kernel
theorem dL_law_28 : decode cL_law 28 = .ok (.iconst 1, 1) := by decide +kernel
theorem dL_law_29 : decode cL_law 29 = .ok (.invokestatic 9, 3) := by decide +kernel
theorem dL_law_32 : decode cL_law 32 = .ok (.invokespecial 20, 3) := by decide +kernel
theorem dL_law_35 : decode cL_law 35 = .ok (.astore_n 2, 1) := by decide +kernel
theorem dL_law_36 : decode cL_law 36 = .ok (.iconst 2, 1) := by decide +kernel
theorem dL_law_37 : decode cL_law 37 = .ok (.istore_n 3, 1) := by decide +kernel
theorem dL_law_38 : decode cL_law 38 = .ok (.iload_n 3, 1) := by decide +kernel
theorem dL_law_39 : decode cL_law 39 = .ok (.aload_n 0, 1) := by decide +kernel
theorem dL_law_40 : decode cL_law 40 = .ok (.arraylength, 1) := by decide +kernel
theorem dL_law_41 : decode cL_law 41 = .ok (.iconst 5, 1) := by decide +kernel
theorem dL_law_42 : decode cL_law 42 = .ok (.isub, 1) := by decide +kernel
theorem dL_law_43 : decode cL_law 43 = .ok (.if_icmp .gt 587, 3) := by decide +kernel
theorem dL_law_46 : decode cL_law 46 = .ok (.aload_n 0, 1) := by decide +kernel
theorem dL_law_47 : decode cL_law 47 = .ok (.iload_n 3, 1) := by decide +kernel
theorem dL_law_48 : decode cL_law 48 = .ok (.iaload, 1) := by decide +kernel
theorem dL_law_49 : decode cL_law 49 = .ok (.bipush 15, 2) := by decide +kernel
theorem dL_law_51 : decode cL_law 51 = .ok (.iand, 1) := by decide +kernel
theorem dL_law_52 : decode cL_law 52 = .ok (.tableswitch 572 0 11 #[64, 107, 151, 204, 247, 280, 313, 367, 410, 453, 496, 539], 64) := by decide +kernel
theorem dL_law_116 : decode cL_law 116 = .ok (.aload_n 1, 1) := by decide +kernel
theorem dL_law_117 : decode cL_law 117 = .ok (.aload_n 0, 1) := by decide +kernel
theorem dL_law_118 : decode cL_law 118 = .ok (.iload_n 3, 1) := by decide +kernel
theorem dL_law_119 : decode cL_law 119 = .ok (.iconst 1, 1) := by decide +kernel
theorem dL_law_120 : decode cL_law 120 = .ok (.iadd, 1) := by decide +kernel
theorem dL_law_121 : decode cL_law 121 = .ok (.iaload, 1) := by decide +kernel
theorem dL_law_122 : decode cL_law 122 = .ok (.aload_n 0, 1) := by decide +kernel
theorem dL_law_123 : decode cL_law 123 = .ok (.iload_n 3, 1) := by decide +kernel
theorem dL_law_124 : decode cL_law 124 = .ok (.iconst 2, 1) := by decide +kernel
theorem dL_law_125 : decode cL_law 125 = .ok (.iadd, 1) := by decide +kernel
theorem dL_law_126 : decode cL_law 126 = .ok (.iaload, 1) := by decide +kernel
theorem dL_law_127 : decode cL_law 127 = .ok (.aload_n 0, 1) := by decide +kernel
theorem dL_law_128 : decode cL_law 128 = .ok (.iload_n 3, 1) := by decide +kernel
theorem dL_law_129 : decode cL_law 129 = .ok (.iconst 3, 1) := by decide +kernel
theorem dL_law_130 : decode cL_law 130 = .ok (.iadd, 1) := by decide +kernel
theorem dL_law_131 : decode cL_law 131 = .ok (.iaload, 1) := by decide +kernel
theorem dL_law_132 : decode cL_law 132 = .ok (.invokevirtual 21, 3) := by decide +kernel
theorem dL_law_135 : decode cL_law 135 = .ok (.aload_n 2, 1) := by decide +kernel
theorem dL_law_136 : decode cL_law 136 = .ok (.aload_n 0, 1) := by decide +kernel
theorem dL_law_137 : decode cL_law 137 = .ok (.iload_n 3, 1) := by decide +kernel
theorem dL_law_138 : decode cL_law 138 = .ok (.iconst 1, 1) := by decide +kernel
theorem dL_law_139 : decode cL_law 139 = .ok (.iadd, 1) := by decide +kernel
theorem dL_law_140 : decode cL_law 140 = .ok (.iaload, 1) := by decide +kernel
theorem dL_law_141 : decode cL_law 141 = .ok (.aload_n 0, 1) := by decide +kernel
theorem dL_law_142 : decode cL_law 142 = .ok (.iload_n 3, 1) := by decide +kernel
theorem dL_law_143 : decode cL_law 143 = .ok (.iconst 2, 1) := by decide +kernel
theorem dL_law_144 : decode cL_law 144 = .ok (.iadd, 1) := by decide +kernel
theorem dL_law_145 : decode cL_law 145 = .ok (.iaload, 1) := by decide +kernel
theorem dL_law_146 : decode cL_law 146 = .ok (.aload_n 0, 1) := by decide +kernel
theorem dL_law_147 : decode cL_law 147 = .ok (.iload_n 3, 1) := by decide +kernel
theorem dL_law_148 : decode cL_law 148 = .ok (.iconst 3, 1) := by decide +kernel
theorem dL_law_149 : decode cL_law 149 = .ok (.iadd, 1) := by decide +kernel
theorem dL_law_150 : decode cL_law 150 = .ok (.iaload, 1) := by decide +kernel
theorem dL_law_151 : decode cL_law 151 = .ok (.invokevirtual 25, 3) := by decide +kernel
theorem dL_law_154 : decode cL_law 154 = .ok (.if_icmp .eq 470, 3) := by decide +kernel
theorem dL_law_157 : decode cL_law 157 = .ok (.iconst 0, 1) := by decide +kernel
theorem dL_law_158 : decode cL_law 158 = .ok (.ireturn, 1) := by decide +kernel
theorem dL_law_159 : decode cL_law 159 = .ok (.aload_n 1, 1) := by decide +kernel
theorem dL_law_160 : decode cL_law 160 = .ok (.aload_n 0, 1) := by decide +kernel
theorem dL_law_161 : decode cL_law 161 = .ok (.iload_n 3, 1) := by decide +kernel
theorem dL_law_162 : decode cL_law 162 = .ok (.iconst 1, 1) := by decide +kernel
theorem dL_law_163 : decode cL_law 163 = .ok (.iadd, 1) := by decide +kernel
theorem dL_law_164 : decode cL_law 164 = .ok (.iaload, 1) := by decide +kernel
theorem dL_law_165 : decode cL_law 165 = .ok (.aload_n 0, 1) := by decide +kernel
theorem dL_law_166 : decode cL_law 166 = .ok (.iload_n 3, 1) := by decide +kernel
theorem dL_law_167 : decode cL_law 167 = .ok (.iconst 2, 1) := by decide +kernel
theorem dL_law_168 : decode cL_law 168 = .ok (.iadd, 1) := by decide +kernel
theorem dL_law_169 : decode cL_law 169 = .ok (.iaload, 1) := by decide +kernel
theorem dL_law_170 : decode cL_law 170 = .ok (.aload_n 0, 1) := by decide +kernel
theorem dL_law_171 : decode cL_law 171 = .ok (.iload_n 3, 1) := by decide +kernel
theorem dL_law_172 : decode cL_law 172 = .ok (.iconst 3, 1) := by decide +kernel
theorem dL_law_173 : decode cL_law 173 = .ok (.iadd, 1) := by decide +kernel
theorem dL_law_174 : decode cL_law 174 = .ok (.iaload, 1) := by decide +kernel
theorem dL_law_175 : decode cL_law 175 = .ok (.invokevirtual 26, 3) := by decide +kernel
theorem dL_law_178 : decode cL_law 178 = .ok (.aload_n 2, 1) := by decide +kernel
theorem dL_law_179 : decode cL_law 179 = .ok (.aload_n 0, 1) := by decide +kernel
theorem dL_law_180 : decode cL_law 180 = .ok (.iload_n 3, 1) := by decide +kernel
theorem dL_law_181 : decode cL_law 181 = .ok (.iconst 1, 1) := by decide +kernel
theorem dL_law_182 : decode cL_law 182 = .ok (.iadd, 1) := by decide +kernel
theorem dL_law_183 : decode cL_law 183 = .ok (.iaload, 1) := by decide +kernel
theorem dL_law_184 : decode cL_law 184 = .ok (.aload_n 0, 1) := by decide +kernel
theorem dL_law_185 : decode cL_law 185 = .ok (.iload_n 3, 1) := by decide +kernel
theorem dL_law_186 : decode cL_law 186 = .ok (.iconst 2, 1) := by decide +kernel
theorem dL_law_187 : decode cL_law 187 = .ok (.iadd, 1) := by decide +kernel
theorem dL_law_188 : decode cL_law 188 = .ok (.iaload, 1) := by decide +kernel
theorem dL_law_189 : decode cL_law 189 = .ok (.aload_n 0, 1) := by decide +kernel
theorem dL_law_190 : decode cL_law 190 = .ok (.iload_n 3, 1) := by decide +kernel
theorem dL_law_191 : decode cL_law 191 = .ok (.iconst 3, 1) := by decide +kernel
theorem dL_law_192 : decode cL_law 192 = .ok (.iadd, 1) := by decide +kernel
theorem dL_law_193 : decode cL_law 193 = .ok (.iaload, 1) := by decide +kernel
theorem dL_law_194 : decode cL_law 194 = .ok (.invokevirtual 30, 3) := by decide +kernel
theorem dL_law_197 : decode cL_law 197 = .ok (.lcmp, 1) := by decide +kernel
theorem dL_law_198 : decode cL_law 198 = .ok (.ifCond .eq 426, 3) := by decide +kernel
theorem dL_law_201 : decode cL_law 201 = .ok (.iconst 0, 1) := by decide +kernel
theorem dL_law_202 : decode cL_law 202 = .ok (.ireturn, 1) := by decide +kernel
theorem dL_law_203 : decode cL_law 203 = .ok (.aload_n 1, 1) := by decide +kernel
theorem dL_law_204 : decode cL_law 204 = .ok (.aload_n 0, 1) := by decide +kernel
theorem dL_law_205 : decode cL_law 205 = .ok (.iload_n 3, 1) := by decide +kernel
theorem dL_law_206 : decode cL_law 206 = .ok (.iconst 1, 1) := by decide +kernel
theorem dL_law_207 : decode cL_law 207 = .ok (.iadd, 1) := by decide +kernel
theorem dL_law_208 : decode cL_law 208 = .ok (.iaload, 1) := by decide +kernel
theorem dL_law_209 : decode cL_law 209 = .ok (.aload_n 0, 1) := by decide +kernel
theorem dL_law_210 : decode cL_law 210 = .ok (.iload_n 3, 1) := by decide +kernel
theorem dL_law_211 : decode cL_law 211 = .ok (.iconst 2, 1) := by decide +kernel
theorem dL_law_212 : decode cL_law 212 = .ok (.iadd, 1) := by decide +kernel
theorem dL_law_213 : decode cL_law 213 = .ok (.iaload, 1) := by decide +kernel
theorem dL_law_214 : decode cL_law 214 = .ok (.aload_n 0, 1) := by decide +kernel
theorem dL_law_215 : decode cL_law 215 = .ok (.iload_n 3, 1) := by decide +kernel
theorem dL_law_216 : decode cL_law 216 = .ok (.iconst 3, 1) := by decide +kernel
theorem dL_law_217 : decode cL_law 217 = .ok (.iadd, 1) := by decide +kernel
theorem dL_law_218 : decode cL_law 218 = .ok (.iaload, 1) := by decide +kernel
theorem dL_law_219 : decode cL_law 219 = .ok (.aload_n 0, 1) := by decide +kernel
theorem dL_law_220 : decode cL_law 220 = .ok (.iload_n 3, 1) := by decide +kernel
theorem dL_law_221 : decode cL_law 221 = .ok (.iconst 4, 1) := by decide +kernel
theorem dL_law_222 : decode cL_law 222 = .ok (.iadd, 1) := by decide +kernel
theorem dL_law_223 : decode cL_law 223 = .ok (.iaload, 1) := by decide +kernel
theorem dL_law_224 : decode cL_law 224 = .ok (.invokevirtual 31, 3) := by decide +kernel
theorem dL_law_227 : decode cL_law 227 = .ok (.aload_n 2, 1) := by decide +kernel
theorem dL_law_228 : decode cL_law 228 = .ok (.aload_n 0, 1) := by decide +kernel
theorem dL_law_229 : decode cL_law 229 = .ok (.iload_n 3, 1) := by decide +kernel
theorem dL_law_230 : decode cL_law 230 = .ok (.iconst 1, 1) := by decide +kernel
theorem dL_law_231 : decode cL_law 231 = .ok (.iadd, 1) := by decide +kernel
theorem dL_law_232 : decode cL_law 232 = .ok (.iaload, 1) := by decide +kernel
theorem dL_law_233 : decode cL_law 233 = .ok (.aload_n 0, 1) := by decide +kernel
theorem dL_law_234 : decode cL_law 234 = .ok (.iload_n 3, 1) := by decide +kernel
theorem dL_law_235 : decode cL_law 235 = .ok (.iconst 2, 1) := by decide +kernel
theorem dL_law_236 : decode cL_law 236 = .ok (.iadd, 1) := by decide +kernel
theorem dL_law_237 : decode cL_law 237 = .ok (.iaload, 1) := by decide +kernel
theorem dL_law_238 : decode cL_law 238 = .ok (.aload_n 0, 1) := by decide +kernel
theorem dL_law_239 : decode cL_law 239 = .ok (.iload_n 3, 1) := by decide +kernel
theorem dL_law_240 : decode cL_law 240 = .ok (.iconst 3, 1) := by decide +kernel
theorem dL_law_241 : decode cL_law 241 = .ok (.iadd, 1) := by decide +kernel
theorem dL_law_242 : decode cL_law 242 = .ok (.iaload, 1) := by decide +kernel
theorem dL_law_243 : decode cL_law 243 = .ok (.aload_n 0, 1) := by decide +kernel
theorem dL_law_244 : decode cL_law 244 = .ok (.iload_n 3, 1) := by decide +kernel
theorem dL_law_245 : decode cL_law 245 = .ok (.iconst 4, 1) := by decide +kernel
theorem dL_law_246 : decode cL_law 246 = .ok (.iadd, 1) := by decide +kernel
theorem dL_law_247 : decode cL_law 247 = .ok (.iaload, 1) := by decide +kernel
theorem dL_law_248 : decode cL_law 248 = .ok (.invokevirtual 35, 3) := by decide +kernel
theorem dL_law_251 : decode cL_law 251 = .ok (.if_icmp .eq 373, 3) := by decide +kernel
theorem dL_law_254 : decode cL_law 254 = .ok (.iconst 0, 1) := by decide +kernel
theorem dL_law_255 : decode cL_law 255 = .ok (.ireturn, 1) := by decide +kernel
theorem dL_law_256 : decode cL_law 256 = .ok (.aload_n 1, 1) := by decide +kernel
theorem dL_law_257 : decode cL_law 257 = .ok (.aload_n 0, 1) := by decide +kernel
theorem dL_law_258 : decode cL_law 258 = .ok (.iload_n 3, 1) := by decide +kernel
theorem dL_law_259 : decode cL_law 259 = .ok (.iconst 1, 1) := by decide +kernel
theorem dL_law_260 : decode cL_law 260 = .ok (.iadd, 1) := by decide +kernel
theorem dL_law_261 : decode cL_law 261 = .ok (.iaload, 1) := by decide +kernel
theorem dL_law_262 : decode cL_law 262 = .ok (.aload_n 0, 1) := by decide +kernel
theorem dL_law_263 : decode cL_law 263 = .ok (.iload_n 3, 1) := by decide +kernel
theorem dL_law_264 : decode cL_law 264 = .ok (.iconst 2, 1) := by decide +kernel
theorem dL_law_265 : decode cL_law 265 = .ok (.iadd, 1) := by decide +kernel
theorem dL_law_266 : decode cL_law 266 = .ok (.iaload, 1) := by decide +kernel
theorem dL_law_267 : decode cL_law 267 = .ok (.aload_n 0, 1) := by decide +kernel
theorem dL_law_268 : decode cL_law 268 = .ok (.iload_n 3, 1) := by decide +kernel
theorem dL_law_269 : decode cL_law 269 = .ok (.iconst 3, 1) := by decide +kernel
theorem dL_law_270 : decode cL_law 270 = .ok (.iadd, 1) := by decide +kernel
theorem dL_law_271 : decode cL_law 271 = .ok (.iaload, 1) := by decide +kernel
theorem dL_law_272 : decode cL_law 272 = .ok (.invokevirtual 36, 3) := by decide +kernel
theorem dL_law_275 : decode cL_law 275 = .ok (.aload_n 2, 1) := by decide +kernel
theorem dL_law_276 : decode cL_law 276 = .ok (.aload_n 0, 1) := by decide +kernel
theorem dL_law_277 : decode cL_law 277 = .ok (.iload_n 3, 1) := by decide +kernel
theorem dL_law_278 : decode cL_law 278 = .ok (.iconst 1, 1) := by decide +kernel
theorem dL_law_279 : decode cL_law 279 = .ok (.iadd, 1) := by decide +kernel
theorem dL_law_280 : decode cL_law 280 = .ok (.iaload, 1) := by decide +kernel
theorem dL_law_281 : decode cL_law 281 = .ok (.aload_n 0, 1) := by decide +kernel
theorem dL_law_282 : decode cL_law 282 = .ok (.iload_n 3, 1) := by decide +kernel
theorem dL_law_283 : decode cL_law 283 = .ok (.iconst 2, 1) := by decide +kernel
theorem dL_law_284 : decode cL_law 284 = .ok (.iadd, 1) := by decide +kernel
theorem dL_law_285 : decode cL_law 285 = .ok (.iaload, 1) := by decide +kernel
theorem dL_law_286 : decode cL_law 286 = .ok (.aload_n 0, 1) := by decide +kernel
theorem dL_law_287 : decode cL_law 287 = .ok (.iload_n 3, 1) := by decide +kernel
theorem dL_law_288 : decode cL_law 288 = .ok (.iconst 3, 1) := by decide +kernel
theorem dL_law_289 : decode cL_law 289 = .ok (.iadd, 1) := by decide +kernel
theorem dL_law_290 : decode cL_law 290 = .ok (.iaload, 1) := by decide +kernel
theorem dL_law_291 : decode cL_law 291 = .ok (.invokevirtual 40, 3) := by decide +kernel
theorem dL_law_294 : decode cL_law 294 = .ok (.if_icmp .eq 330, 3) := by decide +kernel
theorem dL_law_297 : decode cL_law 297 = .ok (.iconst 0, 1) := by decide +kernel
theorem dL_law_298 : decode cL_law 298 = .ok (.ireturn, 1) := by decide +kernel
theorem dL_law_299 : decode cL_law 299 = .ok (.aload_n 1, 1) := by decide +kernel
theorem dL_law_300 : decode cL_law 300 = .ok (.aload_n 0, 1) := by decide +kernel
theorem dL_law_301 : decode cL_law 301 = .ok (.iload_n 3, 1) := by decide +kernel
theorem dL_law_302 : decode cL_law 302 = .ok (.iconst 1, 1) := by decide +kernel
theorem dL_law_303 : decode cL_law 303 = .ok (.iadd, 1) := by decide +kernel
theorem dL_law_304 : decode cL_law 304 = .ok (.iaload, 1) := by decide +kernel
theorem dL_law_305 : decode cL_law 305 = .ok (.aload_n 0, 1) := by decide +kernel
theorem dL_law_306 : decode cL_law 306 = .ok (.iload_n 3, 1) := by decide +kernel
theorem dL_law_307 : decode cL_law 307 = .ok (.iconst 2, 1) := by decide +kernel
theorem dL_law_308 : decode cL_law 308 = .ok (.iadd, 1) := by decide +kernel
theorem dL_law_309 : decode cL_law 309 = .ok (.iaload, 1) := by decide +kernel
theorem dL_law_310 : decode cL_law 310 = .ok (.invokevirtual 41, 3) := by decide +kernel
theorem dL_law_313 : decode cL_law 313 = .ok (.aload_n 2, 1) := by decide +kernel
theorem dL_law_314 : decode cL_law 314 = .ok (.aload_n 0, 1) := by decide +kernel
theorem dL_law_315 : decode cL_law 315 = .ok (.iload_n 3, 1) := by decide +kernel
theorem dL_law_316 : decode cL_law 316 = .ok (.iconst 1, 1) := by decide +kernel
theorem dL_law_317 : decode cL_law 317 = .ok (.iadd, 1) := by decide +kernel
theorem dL_law_318 : decode cL_law 318 = .ok (.iaload, 1) := by decide +kernel
theorem dL_law_319 : decode cL_law 319 = .ok (.aload_n 0, 1) := by decide +kernel
theorem dL_law_320 : decode cL_law 320 = .ok (.iload_n 3, 1) := by decide +kernel
theorem dL_law_321 : decode cL_law 321 = .ok (.iconst 2, 1) := by decide +kernel
theorem dL_law_322 : decode cL_law 322 = .ok (.iadd, 1) := by decide +kernel
theorem dL_law_323 : decode cL_law 323 = .ok (.iaload, 1) := by decide +kernel
theorem dL_law_324 : decode cL_law 324 = .ok (.invokevirtual 45, 3) := by decide +kernel
theorem dL_law_327 : decode cL_law 327 = .ok (.if_icmp .eq 297, 3) := by decide +kernel
theorem dL_law_330 : decode cL_law 330 = .ok (.iconst 0, 1) := by decide +kernel
theorem dL_law_331 : decode cL_law 331 = .ok (.ireturn, 1) := by decide +kernel
theorem dL_law_332 : decode cL_law 332 = .ok (.aload_n 1, 1) := by decide +kernel
theorem dL_law_333 : decode cL_law 333 = .ok (.aload_n 0, 1) := by decide +kernel
theorem dL_law_334 : decode cL_law 334 = .ok (.iload_n 3, 1) := by decide +kernel
theorem dL_law_335 : decode cL_law 335 = .ok (.iconst 1, 1) := by decide +kernel
theorem dL_law_336 : decode cL_law 336 = .ok (.iadd, 1) := by decide +kernel
theorem dL_law_337 : decode cL_law 337 = .ok (.iaload, 1) := by decide +kernel
theorem dL_law_338 : decode cL_law 338 = .ok (.aload_n 0, 1) := by decide +kernel
theorem dL_law_339 : decode cL_law 339 = .ok (.iload_n 3, 1) := by decide +kernel
theorem dL_law_340 : decode cL_law 340 = .ok (.iconst 2, 1) := by decide +kernel
theorem dL_law_341 : decode cL_law 341 = .ok (.iadd, 1) := by decide +kernel
theorem dL_law_342 : decode cL_law 342 = .ok (.iaload, 1) := by decide +kernel
theorem dL_law_343 : decode cL_law 343 = .ok (.invokevirtual 46, 3) := by decide +kernel
theorem dL_law_346 : decode cL_law 346 = .ok (.aload_n 2, 1) := by decide +kernel
theorem dL_law_347 : decode cL_law 347 = .ok (.aload_n 0, 1) := by decide +kernel
theorem dL_law_348 : decode cL_law 348 = .ok (.iload_n 3, 1) := by decide +kernel
theorem dL_law_349 : decode cL_law 349 = .ok (.iconst 1, 1) := by decide +kernel
theorem dL_law_350 : decode cL_law 350 = .ok (.iadd, 1) := by decide +kernel
theorem dL_law_351 : decode cL_law 351 = .ok (.iaload, 1) := by decide +kernel
theorem dL_law_352 : decode cL_law 352 = .ok (.aload_n 0, 1) := by decide +kernel
theorem dL_law_353 : decode cL_law 353 = .ok (.iload_n 3, 1) := by decide +kernel
theorem dL_law_354 : decode cL_law 354 = .ok (.iconst 2, 1) := by decide +kernel
theorem dL_law_355 : decode cL_law 355 = .ok (.iadd, 1) := by decide +kernel
theorem dL_law_356 : decode cL_law 356 = .ok (.iaload, 1) := by decide +kernel
theorem dL_law_357 : decode cL_law 357 = .ok (.invokevirtual 50, 3) := by decide +kernel
theorem dL_law_360 : decode cL_law 360 = .ok (.if_icmp .eq 264, 3) := by decide +kernel
theorem dL_law_363 : decode cL_law 363 = .ok (.iconst 0, 1) := by decide +kernel
theorem dL_law_364 : decode cL_law 364 = .ok (.ireturn, 1) := by decide +kernel
theorem dL_law_365 : decode cL_law 365 = .ok (.aload_n 1, 1) := by decide +kernel
theorem dL_law_366 : decode cL_law 366 = .ok (.aload_n 0, 1) := by decide +kernel
theorem dL_law_367 : decode cL_law 367 = .ok (.iload_n 3, 1) := by decide +kernel
theorem dL_law_368 : decode cL_law 368 = .ok (.iconst 1, 1) := by decide +kernel
theorem dL_law_369 : decode cL_law 369 = .ok (.iadd, 1) := by decide +kernel
theorem dL_law_370 : decode cL_law 370 = .ok (.iaload, 1) := by decide +kernel
theorem dL_law_371 : decode cL_law 371 = .ok (.aload_n 0, 1) := by decide +kernel
theorem dL_law_372 : decode cL_law 372 = .ok (.iload_n 3, 1) := by decide +kernel
theorem dL_law_373 : decode cL_law 373 = .ok (.iconst 2, 1) := by decide +kernel
theorem dL_law_374 : decode cL_law 374 = .ok (.iadd, 1) := by decide +kernel
theorem dL_law_375 : decode cL_law 375 = .ok (.iaload, 1) := by decide +kernel
theorem dL_law_376 : decode cL_law 376 = .ok (.aload_n 0, 1) := by decide +kernel
theorem dL_law_377 : decode cL_law 377 = .ok (.iload_n 3, 1) := by decide +kernel
theorem dL_law_378 : decode cL_law 378 = .ok (.iconst 3, 1) := by decide +kernel
theorem dL_law_379 : decode cL_law 379 = .ok (.iadd, 1) := by decide +kernel
theorem dL_law_380 : decode cL_law 380 = .ok (.iaload, 1) := by decide +kernel
theorem dL_law_381 : decode cL_law 381 = .ok (.aload_n 0, 1) := by decide +kernel
theorem dL_law_382 : decode cL_law 382 = .ok (.iload_n 3, 1) := by decide +kernel
theorem dL_law_383 : decode cL_law 383 = .ok (.iconst 4, 1) := by decide +kernel
theorem dL_law_384 : decode cL_law 384 = .ok (.iadd, 1) := by decide +kernel
theorem dL_law_385 : decode cL_law 385 = .ok (.iaload, 1) := by decide +kernel
theorem dL_law_386 : decode cL_law 386 = .ok (.invokevirtual 51, 3) := by decide +kernel
theorem dL_law_389 : decode cL_law 389 = .ok (.aload_n 2, 1) := by decide +kernel
theorem dL_law_390 : decode cL_law 390 = .ok (.aload_n 0, 1) := by decide +kernel
theorem dL_law_391 : decode cL_law 391 = .ok (.iload_n 3, 1) := by decide +kernel
theorem dL_law_392 : decode cL_law 392 = .ok (.iconst 1, 1) := by decide +kernel
theorem dL_law_393 : decode cL_law 393 = .ok (.iadd, 1) := by decide +kernel
theorem dL_law_394 : decode cL_law 394 = .ok (.iaload, 1) := by decide +kernel
theorem dL_law_395 : decode cL_law 395 = .ok (.aload_n 0, 1) := by decide +kernel
theorem dL_law_396 : decode cL_law 396 = .ok (.iload_n 3, 1) := by decide +kernel
theorem dL_law_397 : decode cL_law 397 = .ok (.iconst 2, 1) := by decide +kernel
theorem dL_law_398 : decode cL_law 398 = .ok (.iadd, 1) := by decide +kernel
theorem dL_law_399 : decode cL_law 399 = .ok (.iaload, 1) := by decide +kernel
theorem dL_law_400 : decode cL_law 400 = .ok (.aload_n 0, 1) := by decide +kernel
theorem dL_law_401 : decode cL_law 401 = .ok (.iload_n 3, 1) := by decide +kernel
theorem dL_law_402 : decode cL_law 402 = .ok (.iconst 3, 1) := by decide +kernel
theorem dL_law_403 : decode cL_law 403 = .ok (.iadd, 1) := by decide +kernel
theorem dL_law_404 : decode cL_law 404 = .ok (.iaload, 1) := by decide +kernel
theorem dL_law_405 : decode cL_law 405 = .ok (.aload_n 0, 1) := by decide +kernel
theorem dL_law_406 : decode cL_law 406 = .ok (.iload_n 3, 1) := by decide +kernel
theorem dL_law_407 : decode cL_law 407 = .ok (.iconst 4, 1) := by decide +kernel
theorem dL_law_408 : decode cL_law 408 = .ok (.iadd, 1) := by decide +kernel
theorem dL_law_409 : decode cL_law 409 = .ok (.iaload, 1) := by decide +kernel
theorem dL_law_410 : decode cL_law 410 = .ok (.invokevirtual 55, 3) := by decide +kernel
theorem dL_law_413 : decode cL_law 413 = .ok (.lcmp, 1) := by decide +kernel
theorem dL_law_414 : decode cL_law 414 = .ok (.ifCond .eq 210, 3) := by decide +kernel
theorem dL_law_417 : decode cL_law 417 = .ok (.iconst 0, 1) := by decide +kernel
theorem dL_law_418 : decode cL_law 418 = .ok (.ireturn, 1) := by decide +kernel
theorem dL_law_419 : decode cL_law 419 = .ok (.aload_n 1, 1) := by decide +kernel
theorem dL_law_420 : decode cL_law 420 = .ok (.aload_n 0, 1) := by decide +kernel
theorem dL_law_421 : decode cL_law 421 = .ok (.iload_n 3, 1) := by decide +kernel
theorem dL_law_422 : decode cL_law 422 = .ok (.iconst 1, 1) := by decide +kernel
theorem dL_law_423 : decode cL_law 423 = .ok (.iadd, 1) := by decide +kernel
theorem dL_law_424 : decode cL_law 424 = .ok (.iaload, 1) := by decide +kernel
theorem dL_law_425 : decode cL_law 425 = .ok (.aload_n 0, 1) := by decide +kernel
theorem dL_law_426 : decode cL_law 426 = .ok (.iload_n 3, 1) := by decide +kernel
theorem dL_law_427 : decode cL_law 427 = .ok (.iconst 2, 1) := by decide +kernel
theorem dL_law_428 : decode cL_law 428 = .ok (.iadd, 1) := by decide +kernel
theorem dL_law_429 : decode cL_law 429 = .ok (.iaload, 1) := by decide +kernel
theorem dL_law_430 : decode cL_law 430 = .ok (.aload_n 0, 1) := by decide +kernel
theorem dL_law_431 : decode cL_law 431 = .ok (.iload_n 3, 1) := by decide +kernel
theorem dL_law_432 : decode cL_law 432 = .ok (.iconst 3, 1) := by decide +kernel
theorem dL_law_433 : decode cL_law 433 = .ok (.iadd, 1) := by decide +kernel
theorem dL_law_434 : decode cL_law 434 = .ok (.iaload, 1) := by decide +kernel
theorem dL_law_435 : decode cL_law 435 = .ok (.invokevirtual 56, 3) := by decide +kernel
theorem dL_law_438 : decode cL_law 438 = .ok (.aload_n 2, 1) := by decide +kernel
theorem dL_law_439 : decode cL_law 439 = .ok (.aload_n 0, 1) := by decide +kernel
theorem dL_law_440 : decode cL_law 440 = .ok (.iload_n 3, 1) := by decide +kernel
theorem dL_law_441 : decode cL_law 441 = .ok (.iconst 1, 1) := by decide +kernel
theorem dL_law_442 : decode cL_law 442 = .ok (.iadd, 1) := by decide +kernel
theorem dL_law_443 : decode cL_law 443 = .ok (.iaload, 1) := by decide +kernel
theorem dL_law_444 : decode cL_law 444 = .ok (.aload_n 0, 1) := by decide +kernel
theorem dL_law_445 : decode cL_law 445 = .ok (.iload_n 3, 1) := by decide +kernel
theorem dL_law_446 : decode cL_law 446 = .ok (.iconst 2, 1) := by decide +kernel
theorem dL_law_447 : decode cL_law 447 = .ok (.iadd, 1) := by decide +kernel
theorem dL_law_448 : decode cL_law 448 = .ok (.iaload, 1) := by decide +kernel
theorem dL_law_449 : decode cL_law 449 = .ok (.aload_n 0, 1) := by decide +kernel
theorem dL_law_450 : decode cL_law 450 = .ok (.iload_n 3, 1) := by decide +kernel
theorem dL_law_451 : decode cL_law 451 = .ok (.iconst 3, 1) := by decide +kernel
theorem dL_law_452 : decode cL_law 452 = .ok (.iadd, 1) := by decide +kernel
theorem dL_law_453 : decode cL_law 453 = .ok (.iaload, 1) := by decide +kernel
theorem dL_law_454 : decode cL_law 454 = .ok (.invokevirtual 59, 3) := by decide +kernel
theorem dL_law_457 : decode cL_law 457 = .ok (.if_icmp .eq 167, 3) := by decide +kernel
theorem dL_law_460 : decode cL_law 460 = .ok (.iconst 0, 1) := by decide +kernel
theorem dL_law_461 : decode cL_law 461 = .ok (.ireturn, 1) := by decide +kernel
theorem dL_law_462 : decode cL_law 462 = .ok (.aload_n 1, 1) := by decide +kernel
theorem dL_law_463 : decode cL_law 463 = .ok (.aload_n 0, 1) := by decide +kernel
theorem dL_law_464 : decode cL_law 464 = .ok (.iload_n 3, 1) := by decide +kernel
theorem dL_law_465 : decode cL_law 465 = .ok (.iconst 1, 1) := by decide +kernel
theorem dL_law_466 : decode cL_law 466 = .ok (.iadd, 1) := by decide +kernel
theorem dL_law_467 : decode cL_law 467 = .ok (.iaload, 1) := by decide +kernel
theorem dL_law_468 : decode cL_law 468 = .ok (.aload_n 0, 1) := by decide +kernel
theorem dL_law_469 : decode cL_law 469 = .ok (.iload_n 3, 1) := by decide +kernel
theorem dL_law_470 : decode cL_law 470 = .ok (.iconst 2, 1) := by decide +kernel
theorem dL_law_471 : decode cL_law 471 = .ok (.iadd, 1) := by decide +kernel
theorem dL_law_472 : decode cL_law 472 = .ok (.iaload, 1) := by decide +kernel
theorem dL_law_473 : decode cL_law 473 = .ok (.aload_n 0, 1) := by decide +kernel
theorem dL_law_474 : decode cL_law 474 = .ok (.iload_n 3, 1) := by decide +kernel
theorem dL_law_475 : decode cL_law 475 = .ok (.iconst 3, 1) := by decide +kernel
theorem dL_law_476 : decode cL_law 476 = .ok (.iadd, 1) := by decide +kernel
theorem dL_law_477 : decode cL_law 477 = .ok (.iaload, 1) := by decide +kernel
theorem dL_law_478 : decode cL_law 478 = .ok (.invokevirtual 60, 3) := by decide +kernel
theorem dL_law_481 : decode cL_law 481 = .ok (.aload_n 2, 1) := by decide +kernel
theorem dL_law_482 : decode cL_law 482 = .ok (.aload_n 0, 1) := by decide +kernel
theorem dL_law_483 : decode cL_law 483 = .ok (.iload_n 3, 1) := by decide +kernel
theorem dL_law_484 : decode cL_law 484 = .ok (.iconst 1, 1) := by decide +kernel
theorem dL_law_485 : decode cL_law 485 = .ok (.iadd, 1) := by decide +kernel
theorem dL_law_486 : decode cL_law 486 = .ok (.iaload, 1) := by decide +kernel
theorem dL_law_487 : decode cL_law 487 = .ok (.aload_n 0, 1) := by decide +kernel
theorem dL_law_488 : decode cL_law 488 = .ok (.iload_n 3, 1) := by decide +kernel
theorem dL_law_489 : decode cL_law 489 = .ok (.iconst 2, 1) := by decide +kernel
theorem dL_law_490 : decode cL_law 490 = .ok (.iadd, 1) := by decide +kernel
theorem dL_law_491 : decode cL_law 491 = .ok (.iaload, 1) := by decide +kernel
theorem dL_law_492 : decode cL_law 492 = .ok (.aload_n 0, 1) := by decide +kernel
theorem dL_law_493 : decode cL_law 493 = .ok (.iload_n 3, 1) := by decide +kernel
theorem dL_law_494 : decode cL_law 494 = .ok (.iconst 3, 1) := by decide +kernel
theorem dL_law_495 : decode cL_law 495 = .ok (.iadd, 1) := by decide +kernel
theorem dL_law_496 : decode cL_law 496 = .ok (.iaload, 1) := by decide +kernel
theorem dL_law_497 : decode cL_law 497 = .ok (.invokevirtual 63, 3) := by decide +kernel
theorem dL_law_500 : decode cL_law 500 = .ok (.if_icmp .eq 124, 3) := by decide +kernel
theorem dL_law_503 : decode cL_law 503 = .ok (.iconst 0, 1) := by decide +kernel
theorem dL_law_504 : decode cL_law 504 = .ok (.ireturn, 1) := by decide +kernel
theorem dL_law_505 : decode cL_law 505 = .ok (.aload_n 1, 1) := by decide +kernel
theorem dL_law_506 : decode cL_law 506 = .ok (.aload_n 0, 1) := by decide +kernel
theorem dL_law_507 : decode cL_law 507 = .ok (.iload_n 3, 1) := by decide +kernel
theorem dL_law_508 : decode cL_law 508 = .ok (.iconst 1, 1) := by decide +kernel
theorem dL_law_509 : decode cL_law 509 = .ok (.iadd, 1) := by decide +kernel
theorem dL_law_510 : decode cL_law 510 = .ok (.iaload, 1) := by decide +kernel
theorem dL_law_511 : decode cL_law 511 = .ok (.aload_n 0, 1) := by decide +kernel
theorem dL_law_512 : decode cL_law 512 = .ok (.iload_n 3, 1) := by decide +kernel
theorem dL_law_513 : decode cL_law 513 = .ok (.iconst 2, 1) := by decide +kernel
theorem dL_law_514 : decode cL_law 514 = .ok (.iadd, 1) := by decide +kernel
theorem dL_law_515 : decode cL_law 515 = .ok (.iaload, 1) := by decide +kernel
theorem dL_law_516 : decode cL_law 516 = .ok (.aload_n 0, 1) := by decide +kernel
theorem dL_law_517 : decode cL_law 517 = .ok (.iload_n 3, 1) := by decide +kernel
theorem dL_law_518 : decode cL_law 518 = .ok (.iconst 3, 1) := by decide +kernel
theorem dL_law_519 : decode cL_law 519 = .ok (.iadd, 1) := by decide +kernel
theorem dL_law_520 : decode cL_law 520 = .ok (.iaload, 1) := by decide +kernel
theorem dL_law_521 : decode cL_law 521 = .ok (.invokevirtual 64, 3) := by decide +kernel
theorem dL_law_524 : decode cL_law 524 = .ok (.aload_n 2, 1) := by decide +kernel
theorem dL_law_525 : decode cL_law 525 = .ok (.aload_n 0, 1) := by decide +kernel
theorem dL_law_526 : decode cL_law 526 = .ok (.iload_n 3, 1) := by decide +kernel
theorem dL_law_527 : decode cL_law 527 = .ok (.iconst 1, 1) := by decide +kernel
theorem dL_law_528 : decode cL_law 528 = .ok (.iadd, 1) := by decide +kernel
theorem dL_law_529 : decode cL_law 529 = .ok (.iaload, 1) := by decide +kernel
theorem dL_law_530 : decode cL_law 530 = .ok (.aload_n 0, 1) := by decide +kernel
theorem dL_law_531 : decode cL_law 531 = .ok (.iload_n 3, 1) := by decide +kernel
theorem dL_law_532 : decode cL_law 532 = .ok (.iconst 2, 1) := by decide +kernel
theorem dL_law_533 : decode cL_law 533 = .ok (.iadd, 1) := by decide +kernel
theorem dL_law_534 : decode cL_law 534 = .ok (.iaload, 1) := by decide +kernel
theorem dL_law_535 : decode cL_law 535 = .ok (.aload_n 0, 1) := by decide +kernel
theorem dL_law_536 : decode cL_law 536 = .ok (.iload_n 3, 1) := by decide +kernel
theorem dL_law_537 : decode cL_law 537 = .ok (.iconst 3, 1) := by decide +kernel
theorem dL_law_538 : decode cL_law 538 = .ok (.iadd, 1) := by decide +kernel
theorem dL_law_539 : decode cL_law 539 = .ok (.iaload, 1) := by decide +kernel
theorem dL_law_540 : decode cL_law 540 = .ok (.invokevirtual 67, 3) := by decide +kernel
theorem dL_law_543 : decode cL_law 543 = .ok (.if_icmp .eq 81, 3) := by decide +kernel
theorem dL_law_546 : decode cL_law 546 = .ok (.iconst 0, 1) := by decide +kernel
theorem dL_law_547 : decode cL_law 547 = .ok (.ireturn, 1) := by decide +kernel
theorem dL_law_548 : decode cL_law 548 = .ok (.aload_n 1, 1) := by decide +kernel
theorem dL_law_549 : decode cL_law 549 = .ok (.aload_n 0, 1) := by decide +kernel
theorem dL_law_550 : decode cL_law 550 = .ok (.iload_n 3, 1) := by decide +kernel
theorem dL_law_551 : decode cL_law 551 = .ok (.iconst 1, 1) := by decide +kernel
theorem dL_law_552 : decode cL_law 552 = .ok (.iadd, 1) := by decide +kernel
theorem dL_law_553 : decode cL_law 553 = .ok (.iaload, 1) := by decide +kernel
theorem dL_law_554 : decode cL_law 554 = .ok (.aload_n 0, 1) := by decide +kernel
theorem dL_law_555 : decode cL_law 555 = .ok (.iload_n 3, 1) := by decide +kernel
theorem dL_law_556 : decode cL_law 556 = .ok (.iconst 2, 1) := by decide +kernel
theorem dL_law_557 : decode cL_law 557 = .ok (.iadd, 1) := by decide +kernel
theorem dL_law_558 : decode cL_law 558 = .ok (.iaload, 1) := by decide +kernel
theorem dL_law_559 : decode cL_law 559 = .ok (.aload_n 0, 1) := by decide +kernel
theorem dL_law_560 : decode cL_law 560 = .ok (.iload_n 3, 1) := by decide +kernel
theorem dL_law_561 : decode cL_law 561 = .ok (.iconst 3, 1) := by decide +kernel
theorem dL_law_562 : decode cL_law 562 = .ok (.iadd, 1) := by decide +kernel
theorem dL_law_563 : decode cL_law 563 = .ok (.iaload, 1) := by decide +kernel
theorem dL_law_564 : decode cL_law 564 = .ok (.invokevirtual 68, 3) := by decide +kernel
theorem dL_law_567 : decode cL_law 567 = .ok (.aload_n 2, 1) := by decide +kernel
theorem dL_law_568 : decode cL_law 568 = .ok (.aload_n 0, 1) := by decide +kernel
theorem dL_law_569 : decode cL_law 569 = .ok (.iload_n 3, 1) := by decide +kernel
theorem dL_law_570 : decode cL_law 570 = .ok (.iconst 1, 1) := by decide +kernel
theorem dL_law_571 : decode cL_law 571 = .ok (.iadd, 1) := by decide +kernel
theorem dL_law_572 : decode cL_law 572 = .ok (.iaload, 1) := by decide +kernel
theorem dL_law_573 : decode cL_law 573 = .ok (.aload_n 0, 1) := by decide +kernel
theorem dL_law_574 : decode cL_law 574 = .ok (.iload_n 3, 1) := by decide +kernel
theorem dL_law_575 : decode cL_law 575 = .ok (.iconst 2, 1) := by decide +kernel
theorem dL_law_576 : decode cL_law 576 = .ok (.iadd, 1) := by decide +kernel
theorem dL_law_577 : decode cL_law 577 = .ok (.iaload, 1) := by decide +kernel
theorem dL_law_578 : decode cL_law 578 = .ok (.aload_n 0, 1) := by decide +kernel
theorem dL_law_579 : decode cL_law 579 = .ok (.iload_n 3, 1) := by decide +kernel
theorem dL_law_580 : decode cL_law 580 = .ok (.iconst 3, 1) := by decide +kernel
theorem dL_law_581 : decode cL_law 581 = .ok (.iadd, 1) := by decide +kernel
theorem dL_law_582 : decode cL_law 582 = .ok (.iaload, 1) := by decide +kernel
theorem dL_law_583 : decode cL_law 583 = .ok (.invokevirtual 71, 3) := by decide +kernel
theorem dL_law_586 : decode cL_law 586 = .ok (.if_icmp .eq 38, 3) := by decide +kernel
theorem dL_law_589 : decode cL_law 589 = .ok (.iconst 0, 1) := by decide +kernel
theorem dL_law_590 : decode cL_law 590 = .ok (.ireturn, 1) := by decide +kernel
theorem dL_law_591 : decode cL_law 591 = .ok (.aload_n 1, 1) := by decide +kernel
theorem dL_law_592 : decode cL_law 592 = .ok (.aload_n 0, 1) := by decide +kernel
theorem dL_law_593 : decode cL_law 593 = .ok (.iload_n 3, 1) := by decide +kernel
theorem dL_law_594 : decode cL_law 594 = .ok (.iconst 1, 1) := by decide +kernel
theorem dL_law_595 : decode cL_law 595 = .ok (.iadd, 1) := by decide +kernel
theorem dL_law_596 : decode cL_law 596 = .ok (.iaload, 1) := by decide +kernel
theorem dL_law_597 : decode cL_law 597 = .ok (.aload_n 0, 1) := by decide +kernel
theorem dL_law_598 : decode cL_law 598 = .ok (.iload_n 3, 1) := by decide +kernel
theorem dL_law_599 : decode cL_law 599 = .ok (.iconst 2, 1) := by decide +kernel
theorem dL_law_600 : decode cL_law 600 = .ok (.iadd, 1) := by decide +kernel
theorem dL_law_601 : decode cL_law 601 = .ok (.iaload, 1) := by decide +kernel
theorem dL_law_602 : decode cL_law 602 = .ok (.invokevirtual 72, 3) := by decide +kernel
theorem dL_law_605 : decode cL_law 605 = .ok (.aload_n 2, 1) := by decide +kernel
theorem dL_law_606 : decode cL_law 606 = .ok (.aload_n 0, 1) := by decide +kernel
theorem dL_law_607 : decode cL_law 607 = .ok (.iload_n 3, 1) := by decide +kernel
theorem dL_law_608 : decode cL_law 608 = .ok (.iconst 1, 1) := by decide +kernel
theorem dL_law_609 : decode cL_law 609 = .ok (.iadd, 1) := by decide +kernel
theorem dL_law_610 : decode cL_law 610 = .ok (.iaload, 1) := by decide +kernel
theorem dL_law_611 : decode cL_law 611 = .ok (.aload_n 0, 1) := by decide +kernel
theorem dL_law_612 : decode cL_law 612 = .ok (.iload_n 3, 1) := by decide +kernel
theorem dL_law_613 : decode cL_law 613 = .ok (.iconst 2, 1) := by decide +kernel
theorem dL_law_614 : decode cL_law 614 = .ok (.iadd, 1) := by decide +kernel
theorem dL_law_615 : decode cL_law 615 = .ok (.iaload, 1) := by decide +kernel
theorem dL_law_616 : decode cL_law 616 = .ok (.invokevirtual 75, 3) := by decide +kernel
theorem dL_law_619 : decode cL_law 619 = .ok (.if_icmp .eq 5, 3) := by decide +kernel
theorem dL_law_622 : decode cL_law 622 = .ok (.iconst 0, 1) := by decide +kernel
theorem dL_law_623 : decode cL_law 623 = .ok (.ireturn, 1) := by decide +kernel
theorem dL_law_624 : decode cL_law 624 = .ok (.iinc 3 5, 3) := by decide +kernel
theorem dL_law_627 : decode cL_law 627 = .ok (.goto (-589), 3) := by decide +kernel
theorem dL_law_630 : decode cL_law 630 = .ok (.iconst 1, 1) := by decide +kernel
theorem dL_law_631 : decode cL_law 631 = .ok (.ireturn, 1) := by decide +kernel
abbrev vwCl : List vw_C := [(RX0, TX0, 9), (RX1, TX1, 10)]
end
section
/-! longs as sets: bits of lN, and Long.bitCount's arithmetic as a count of bits -/
theorem zb_tb (n : Nat) : (lN n).toBitVec = BitVec.ofNat 64 n := rfl
theorem zb_inj {a b : Int64} (h : a.toBitVec = b.toBitVec) : a = b := Int64.toBitVec_inj.mp h
theorem zb_and (a b : Nat) : lN a &&& lN b = lN (a &&& b) := by
  apply zb_inj
  show BitVec.ofNat 64 a &&& BitVec.ofNat 64 b = BitVec.ofNat 64 (a &&& b)
  apply BitVec.eq_of_getLsbD_eq
  intro i hi
  simp [hi]
theorem zb_or (a b : Nat) : lN a ||| lN b = lN (a ||| b) := by
  apply zb_inj
  show BitVec.ofNat 64 a ||| BitVec.ofNat 64 b = BitVec.ofNat 64 (a ||| b)
  apply BitVec.eq_of_getLsbD_eq
  intro i hi
  simp [hi]
theorem zb_xor (a b : Nat) : lN a ^^^ lN b = lN (a ^^^ b) := by
  apply zb_inj
  show BitVec.ofNat 64 a ^^^ BitVec.ofNat 64 b = BitVec.ofNat 64 (a ^^^ b)
  apply BitVec.eq_of_getLsbD_eq
  intro i hi
  simp [hi]
theorem zb_tn {n : Nat} (h : n < 2 ^ 64) : (lN n).toBitVec.toNat = n := by rw [zb_tb, BitVec.toNat_ofNat, Nat.mod_eq_of_lt h]
theorem zb_cu : ∀ k, k < 64 → ((nI k).toInt64.toUInt64 &&& Int64.toUInt64 63) = UInt64.ofNat k := by decide +kernel
theorem zb_c : ∀ k, k < 64 → ((nI k).toInt64 &&& 63) = lN k := by decide +kernel
theorem zb_sm : ∀ k, k < 64 → (BitVec.ofNat 64 k).smod 64 = BitVec.ofNat 64 k := by decide +kernel
theorem zb_shr {n k : Nat} (hn : n < 2 ^ 64) (hk : k < 64) : ((lN n).toUInt64 >>> ((nI k).toInt64.toUInt64 &&& Int64.toUInt64 63)).toInt64 = lN (n / 2 ^ k) := by
  rw [zb_cu k hk]
  apply zb_inj
  apply BitVec.eq_of_toNat_eq
  show ((lN n).toUInt64 >>> UInt64.ofNat k).toNat = (BitVec.ofNat 64 _).toNat
  have h1 : (UInt64.ofNat k).toNat = k := by
    show (BitVec.ofNat 64 k).toNat = k
    rw [BitVec.toNat_ofNat, Nat.mod_eq_of_lt (by omega)]
  have h2 : (lN n).toUInt64.toNat = n := zb_tn hn
  rw [UInt64.toNat_shiftRight, h1, h2, Nat.mod_eq_of_lt hk, Nat.shiftRight_eq_div_pow, BitVec.toNat_ofNat, Nat.mod_eq_of_lt (Nat.lt_of_le_of_lt (Nat.div_le_self _ _) hn)]
theorem zb_shl (n : Nat) {k : Nat} (hk : k < 64) : lN n <<< ((nI k).toInt64 &&& 63) = lN (n * 2 ^ k) := by
  rw [zb_c k hk]
  apply zb_inj
  rw [Int64.toBitVec_shiftLeft, zb_tb, zb_tb, zb_tb, zb_sm k hk]
  apply BitVec.eq_of_toNat_eq
  rw [BitVec.shiftLeft_eq', BitVec.toNat_shiftLeft, BitVec.toNat_ofNat, BitVec.toNat_ofNat, BitVec.toNat_ofNat, Nat.mod_eq_of_lt (show k < 2 ^ 64 by omega), Nat.shiftLeft_eq, Nat.mul_mod, Nat.mod_mod, ← Nat.mul_mod]
/-- a count of the places below n where f holds -/
def cn (f : Nat → Bool) : Nat → Nat
  | 0 => 0
  | n + 1 => cn f n + (if f n then 1 else 0)
theorem cn_congr {f g : Nat → Bool} : ∀ {n : Nat}, (∀ i, i < n → f i = g i) → cn f n = cn g n
  | 0, _ => rfl
  | n + 1, h => by
    show cn f n + _ = cn g n + _
    rw [cn_congr (n := n) (fun i hi => h i (by omega)), h n (by omega)]
theorem cn_add (f : Nat → Bool) (a : Nat) : ∀ b, cn f (a + b) = cn f a + cn (fun i => f (a + i)) b
  | 0 => rfl
  | b + 1 => by
    show cn f (a + b) + _ = cn f a + (cn _ b + _)
    rw [cn_add f a b, Nat.add_assoc]
    rfl
theorem cn_le (f : Nat → Bool) : ∀ n, cn f n ≤ n
  | 0 => Nat.le_refl 0
  | n + 1 => by
    have := cn_le f n
    show cn f n + _ ≤ n + 1
    split <;> omega
theorem cn_tail {f : Nat → Bool} {n m : Nat} (h : n ≤ m) (hf : ∀ i, n ≤ i → i < m → f i = false) : cn f m = cn f n := by
  obtain ⟨d, rfl⟩ : ∃ d, m = n + d := ⟨m - n, by omega⟩
  rw [cn_add]
  have : cn (fun i => f (n + i)) d = cn (fun _ => false) d := cn_congr (fun i hi => hf (n + i) (by omega) (by omega))
  rw [this]
  have z : ∀ d, cn (fun _ => false) d = 0 := fun d => by
    induction d with
    | zero => rfl
    | succ d ih => show cn _ d + _ = 0; rw [ih]; rfl
  rw [z]
  omega
/-! Long.bitCount, byte by byte -/
def bc_s1 (b : Nat) : Nat := b - (b / 2 &&& 85)
def bc_s2 (b : Nat) : Nat := (b &&& 51) + (b / 4 &&& 51)
def bc_s3 (b : Nat) : Nat := (b + b / 16) &&& 15
def bc_p (b : Nat) : Nat := bc_s3 (bc_s2 (bc_s1 b))
theorem bc_and {a b x y : Nat} (ha : a < 256) (hb : b < 256) : (a + 256 * x) &&& (b + 256 * y) = (a &&& b) + 256 * (x &&& y) := by
  have h1 : ((a + 256 * x) &&& (b + 256 * y)) % 2 ^ 8 = ((a + 256 * x) % 2 ^ 8) &&& ((b + 256 * y) % 2 ^ 8) := Nat.and_mod_two_pow
  have h2 : ((a + 256 * x) &&& (b + 256 * y)) / 2 ^ 8 = ((a + 256 * x) / 2 ^ 8) &&& ((b + 256 * y) / 2 ^ 8) := Nat.and_div_two_pow
  rw [show (a + 256 * x) % 2 ^ 8 = a by omega, show (b + 256 * y) % 2 ^ 8 = b by omega] at h1
  rw [show (a + 256 * x) / 2 ^ 8 = x by omega, show (b + 256 * y) / 2 ^ 8 = y by omega] at h2
  generalize (a + 256 * x) &&& (b + 256 * y) = z at h1 h2
  generalize a &&& b = u at h1 ⊢
  generalize x &&& y = v at h2 ⊢
  omega
def bc_ev : List Nat → Nat
  | [] => 0
  | b :: l => b + 256 * bc_ev l
def bc_m (c : Nat) : Nat → Nat
  | 0 => 0
  | n + 1 => c + 256 * bc_m c n
theorem bc_k1 : ∀ b, b < 256 → ∀ e, e < 2 → (b / 2 + 128 * e) &&& 85 = b / 2 &&& 85 := by decide +kernel
theorem bc_k1b : ∀ b, b < 256 → (b / 2 &&& 85) ≤ b := by decide +kernel
theorem bc_k2 : ∀ b, b < 256 → ∀ e, e < 4 → (b / 4 + 64 * e) &&& 51 = b / 4 &&& 51 := by decide +kernel
theorem bc_k3 : ∀ b, b < 256 → ∀ e, e < 8 → bc_s2 (bc_s1 b) + bc_s2 (bc_s1 b) / 16 + 16 * e < 256 ∧ (bc_s2 (bc_s1 b) + bc_s2 (bc_s1 b) / 16 + 16 * e) &&& 15 = bc_s3 (bc_s2 (bc_s1 b)) := by decide +kernel
theorem bc_b1 : ∀ b, b < 256 → bc_s1 b < 256 := by decide +kernel
theorem bc_b2 : ∀ b, b < 256 → bc_s2 (bc_s1 b) < 256 ∧ bc_s2 (bc_s1 b) % 16 < 8 := by decide +kernel
theorem bc_b3 : ∀ b, b < 256 → bc_p b ≤ 8 := by decide +kernel
theorem bc_half (b x : Nat) (hb : b < 256) : (b + 256 * x) / 2 = (b / 2 + 128 * (x % 2)) + 256 * (x / 2) := by omega
theorem bc_quarter (b x : Nat) (hb : b < 256) : (b + 256 * x) / 4 = (b / 4 + 64 * (x % 4)) + 256 * (x / 4) := by omega
theorem bc_1 : ∀ l : List Nat, (∀ b ∈ l, b < 256) → (bc_ev l / 2 &&& bc_m 85 l.length) ≤ bc_ev l ∧ bc_ev l - (bc_ev l / 2 &&& bc_m 85 l.length) = bc_ev (l.map bc_s1)
  | [], _ => ⟨Nat.le_refl _, rfl⟩
  | b :: l, h => by
    have hb : b < 256 := h b List.mem_cons_self
    obtain ⟨i1, i2⟩ := bc_1 l (fun c hc => h c (List.mem_cons_of_mem _ hc))
    show ((b + 256 * bc_ev l) / 2 &&& (85 + 256 * bc_m 85 l.length)) ≤ _ ∧ _ - ((b + 256 * bc_ev l) / 2 &&& (85 + 256 * bc_m 85 l.length)) = bc_s1 b + 256 * bc_ev (l.map bc_s1)
    rw [bc_half b _ hb, bc_and (by omega) (by omega), bc_k1 b hb _ (Nat.mod_lt _ (by omega)), ← i2]
    have k := bc_k1b b hb
    show _ ≤ b + 256 * bc_ev l ∧ (b + 256 * bc_ev l) - _ = (b - (b / 2 &&& 85)) + 256 * (bc_ev l - (bc_ev l / 2 &&& bc_m 85 l.length))
    generalize (b / 2 &&& 85) = u at k ⊢
    generalize (bc_ev l / 2 &&& bc_m 85 l.length) = v at i1 ⊢
    omega
theorem bc_2 : ∀ l : List Nat, (∀ b ∈ l, b < 256) → (bc_ev l &&& bc_m 51 l.length) + (bc_ev l / 4 &&& bc_m 51 l.length) = bc_ev (l.map bc_s2)
  | [], _ => rfl
  | b :: l, h => by
    have hb : b < 256 := h b List.mem_cons_self
    have i2 := bc_2 l (fun c hc => h c (List.mem_cons_of_mem _ hc))
    show ((b + 256 * bc_ev l) &&& (51 + 256 * bc_m 51 l.length)) + ((b + 256 * bc_ev l) / 4 &&& (51 + 256 * bc_m 51 l.length)) = bc_s2 b + 256 * bc_ev (l.map bc_s2)
    rw [bc_quarter b _ hb, bc_and (by omega) (by omega), bc_and (by omega) (by omega), bc_k2 b hb _ (Nat.mod_lt _ (by omega)), ← i2]
    show _ = ((b &&& 51) + (b / 4 &&& 51)) + 256 * _
    omega
theorem bc_3 : ∀ l : List Nat, (∀ b ∈ l, b < 256) → ∀ l2, l2 = l.map (fun b => bc_s2 (bc_s1 b)) → bc_ev l2 % 16 < 8 ∧ ((bc_ev l2 + bc_ev l2 / 16) &&& bc_m 15 l2.length) = bc_ev (l2.map bc_s3)
  | [], _, l2, e => by subst e; exact ⟨by decide, rfl⟩
  | b :: l, h, l2, e => by
    subst e
    have hb : b < 256 := h b List.mem_cons_self
    obtain ⟨i1, i2⟩ := bc_3 l (fun c hc => h c (List.mem_cons_of_mem _ hc)) _ rfl
    obtain ⟨k1, k2⟩ := bc_b2 b hb
    show (bc_s2 (bc_s1 b) + 256 * bc_ev (l.map fun b => bc_s2 (bc_s1 b))) % 16 < 8 ∧ ((bc_s2 (bc_s1 b) + 256 * bc_ev (l.map fun b => bc_s2 (bc_s1 b))) + (bc_s2 (bc_s1 b) + 256 * bc_ev (l.map fun b => bc_s2 (bc_s1 b))) / 16 &&& (15 + 256 * bc_m 15 (l.map fun b => bc_s2 (bc_s1 b)).length)) = bc_s3 (bc_s2 (bc_s1 b)) + 256 * bc_ev ((l.map fun b => bc_s2 (bc_s1 b)).map bc_s3)
    rw [← i2]
    generalize bc_ev (l.map fun b => bc_s2 (bc_s1 b)) = E at i1 ⊢
    obtain ⟨k3, k4⟩ := bc_k3 b hb (E % 16) i1
    have e1 : (bc_s2 (bc_s1 b) + 256 * E) + (bc_s2 (bc_s1 b) + 256 * E) / 16 = (bc_s2 (bc_s1 b) + bc_s2 (bc_s1 b) / 16 + 16 * (E % 16)) + 256 * (E + E / 16) := by
      generalize bc_s2 (bc_s1 b) = q at k1 ⊢
      omega
    refine ⟨by omega, ?_⟩
    rw [e1, bc_and k3 (by omega), k4]
theorem bc_m8 : bc_m 85 8 = 6148914691236517205 ∧ bc_m 51 8 = 3689348814741910323 ∧ bc_m 15 8 = 1085102592571150095 := by decide +kernel
/-- what Long.bitCount computes, on numbers below 2^64 -/
def bc_a (x : Nat) : Nat := x - (x / 2 &&& 6148914691236517205)
def bc_b (x : Nat) : Nat := (bc_a x &&& 3689348814741910323) + (bc_a x / 4 &&& 3689348814741910323)
def bc_d (x : Nat) : Nat := (bc_b x + bc_b x / 16) &&& 1085102592571150095
def bc_f (x : Nat) : Nat := bc_d x + bc_d x / 256
def bc_g (x : Nat) : Nat := bc_f x + bc_f x / 65536
def bc_h (x : Nat) : Nat := bc_g x + bc_g x / 4294967296
def bc_dl : Nat → Nat → List Nat
  | 0, _ => []
  | m + 1, x => x % 256 :: bc_dl m (x / 256)
theorem bc_dl_ev : ∀ (m x : Nat), x < 256 ^ m → bc_ev (bc_dl m x) = x
  | 0, x, h => by
    have : x = 0 := by simpa using h
    subst this
    rfl
  | m + 1, x, h => by
    show x % 256 + 256 * bc_ev (bc_dl m (x / 256)) = x
    rw [Nat.pow_succ] at h
    rw [bc_dl_ev m (x / 256) (Nat.div_lt_of_lt_mul (by rw [Nat.mul_comm]; exact h))]
    omega
theorem bc_dl_lt : ∀ (m x : Nat), ∀ b ∈ bc_dl m x, b < 256
  | 0, x, b, h => by cases h
  | m + 1, x, b, h => by
    rcases List.mem_cons.mp h with h | h
    · subst h
      exact Nat.mod_lt _ (by omega)
    · exact bc_dl_lt m _ b h
theorem bc_dl_len : ∀ (m x : Nat), (bc_dl m x).length = m
  | 0, _ => rfl
  | m + 1, x => by
    show (bc_dl m (x / 256)).length + 1 = m + 1
    rw [bc_dl_len m]
theorem bc_steps {x : Nat} (h : x < 2 ^ 64) : (x / 2 &&& 6148914691236517205) ≤ x ∧ bc_a x = bc_ev ((bc_dl 8 x).map bc_s1) ∧
    bc_b x = bc_ev ((bc_dl 8 x).map (fun b => bc_s2 (bc_s1 b))) ∧ bc_d x = bc_ev ((bc_dl 8 x).map bc_p) := by
  obtain ⟨m1, m2, m3⟩ := bc_m8
  have hl := bc_dl_lt 8 x
  have he : bc_ev (bc_dl 8 x) = x := bc_dl_ev 8 x (by omega)
  obtain ⟨a1, a2⟩ := bc_1 (bc_dl 8 x) hl
  have hl1 : ∀ b ∈ (bc_dl 8 x).map bc_s1, b < 256 := fun b hb => by
    obtain ⟨c, hc, rfl⟩ := List.mem_map.mp hb
    exact bc_b1 c (hl c hc)
  have a3 := bc_2 ((bc_dl 8 x).map bc_s1) hl1
  obtain ⟨-, a4⟩ := bc_3 (bc_dl 8 x) hl _ rfl
  rw [bc_dl_len, m1, he] at a1 a2
  rw [List.length_map, bc_dl_len, m2, List.map_map] at a3
  rw [List.length_map, bc_dl_len, m3, List.map_map] at a4
  have b1 : bc_a x = bc_ev ((bc_dl 8 x).map bc_s1) := a2
  have b2 : bc_b x = bc_ev ((bc_dl 8 x).map (fun b => bc_s2 (bc_s1 b))) := by
    unfold bc_b
    rw [b1]
    exact a3
  have b3 : bc_d x = bc_ev ((bc_dl 8 x).map bc_p) := by
    unfold bc_d
    rw [b2]
    exact a4
  exact ⟨a1, b1, b2, b3⟩
theorem bc_q1 {c y : Nat} (h : c < 256) : (c + 256 * y) / 256 = y := by omega
theorem bc_q2 {c d y : Nat} (h : c < 256) (h2 : d < 256) : (c + 256 * (d + 256 * y)) / 65536 = y := by omega
theorem bc_q4 {c d f g y : Nat} (h : c < 256) (h2 : d < 256) (h3 : f < 256) (h4 : g < 256) : (c + 256 * (d + 256 * (f + 256 * (g + 256 * y)))) / 4294967296 = y := by omega
theorem bc_add : ∀ l m : List Nat, l.length = m.length → bc_ev l + bc_ev m = bc_ev (List.zipWith (fun a b => a + b) l m)
  | [], [], _ => rfl
  | a :: l, b :: m, h => by
    have ih := bc_add l m (Nat.succ.inj h)
    show (a + 256 * bc_ev l) + (b + 256 * bc_ev m) = (a + b) + 256 * bc_ev (List.zipWith (fun a b => a + b) l m)
    rw [← ih]
    omega
theorem bc_lt : ∀ l : List Nat, (∀ b ∈ l, b < 256) → bc_ev l < 256 ^ l.length
  | [], _ => by decide
  | a :: l, h => by
    have ih := bc_lt l (fun b hb => h b (List.mem_cons_of_mem _ hb))
    have ha := h a List.mem_cons_self
    show a + 256 * bc_ev l < 256 ^ (l.length + 1)
    rw [Nat.pow_succ]
    omega
theorem bc_lt8 {l : List Nat} (hl : l.length = 8) (h : ∀ b ∈ l, b < 256) : bc_ev l < 2 ^ 64 := by
  have := bc_lt l h
  rw [hl] at this
  exact this
theorem bc_mod {a y : Nat} (h : a < 128) : (a + 256 * y) % 128 = a := by omega
theorem bc_fold {c0 c1 c2 c3 c4 c5 c6 c7 d : Nat} (h0 : c0 ≤ 8) (h1 : c1 ≤ 8) (h2 : c2 ≤ 8) (h3 : c3 ≤ 8) (h4 : c4 ≤ 8) (h5 : c5 ≤ 8) (h6 : c6 ≤ 8) (h7 : c7 ≤ 8) (hd : d = bc_ev [c0, c1, c2, c3, c4, c5, c6, c7]) {f g : Nat} (hf : f = d + d / 256) (hg : g = f + f / 65536) : (g + g / 4294967296) % 128 = c0 + (c1 + (c2 + (c3 + (c4 + (c5 + (c6 + (c7 + 0))))))) ∧ g + g / 4294967296 < 2 ^ 64 ∧ g < 2 ^ 64 ∧ f < 2 ^ 64 ∧ d < 2 ^ 64 := by
  have e1 : d / 256 = bc_ev [c1, c2, c3, c4, c5, c6, c7, 0] := by
    rw [hd]
    show (c0 + 256 * bc_ev [c1, c2, c3, c4, c5, c6, c7]) / 256 = _
    rw [bc_q1 (by omega)]
    simp [bc_ev]
  have e2 : f = bc_ev [c0 + c1, c1 + c2, c2 + c3, c3 + c4, c4 + c5, c5 + c6, c6 + c7, c7 + 0] := by
    rw [hf, e1, hd]
    exact bc_add _ _ rfl
  have e3 : f / 65536 = bc_ev [c2 + c3, c3 + c4, c4 + c5, c5 + c6, c6 + c7, c7 + 0, 0, 0] := by
    rw [e2]
    show (c0 + c1 + 256 * (c1 + c2 + 256 * bc_ev [c2 + c3, c3 + c4, c4 + c5, c5 + c6, c6 + c7, c7 + 0])) / 65536 = _
    rw [bc_q2 (by omega) (by omega)]
    simp [bc_ev]
  have e4 : g = bc_ev [c0 + c1 + (c2 + c3), c1 + c2 + (c3 + c4), c2 + c3 + (c4 + c5), c3 + c4 + (c5 + c6), c4 + c5 + (c6 + c7), c5 + c6 + (c7 + 0), c6 + c7 + 0, c7 + 0 + 0] := by
    rw [hg, e3, e2]
    exact bc_add _ _ rfl
  have e5 : g / 4294967296 = bc_ev [c4 + c5 + (c6 + c7), c5 + c6 + (c7 + 0), c6 + c7 + 0, c7 + 0 + 0, 0, 0, 0, 0] := by
    rw [e4]
    show (c0 + c1 + (c2 + c3) + 256 * (c1 + c2 + (c3 + c4) + 256 * (c2 + c3 + (c4 + c5) + 256 * (c3 + c4 + (c5 + c6) + 256 * bc_ev [c4 + c5 + (c6 + c7), c5 + c6 + (c7 + 0), c6 + c7 + 0, c7 + 0 + 0])))) / 4294967296 = _
    rw [bc_q4 (by omega) (by omega) (by omega) (by omega)]
    simp [bc_ev]
  have e6 : g + g / 4294967296 = bc_ev [c0 + c1 + (c2 + c3) + (c4 + c5 + (c6 + c7)), c1 + c2 + (c3 + c4) + (c5 + c6 + (c7 + 0)), c2 + c3 + (c4 + c5) + (c6 + c7 + 0), c3 + c4 + (c5 + c6) + (c7 + 0 + 0), c4 + c5 + (c6 + c7) + 0, c5 + c6 + (c7 + 0) + 0, c6 + c7 + 0 + 0, c7 + 0 + 0 + 0] := by
    rw [e5, e4]
    exact bc_add _ _ rfl
  refine ⟨?_, ?_, ?_, ?_, ?_⟩
  · rw [e6]
    show (c0 + c1 + (c2 + c3) + (c4 + c5 + (c6 + c7)) + 256 * _) % 128 = _
    rw [bc_mod (by omega)]
    omega
  · rw [e6]
    exact bc_lt8 rfl (by simp only [List.mem_cons, List.not_mem_nil, or_false]; omega)
  · rw [e4]
    exact bc_lt8 rfl (by simp only [List.mem_cons, List.not_mem_nil, or_false]; omega)
  · rw [e2]
    exact bc_lt8 rfl (by simp only [List.mem_cons, List.not_mem_nil, or_false]; omega)
  · rw [hd]
    exact bc_lt8 rfl (by simp only [List.mem_cons, List.not_mem_nil, or_false]; omega)
def bc_sum : List Nat → Nat
  | [] => 0
  | b :: l => bc_p b + bc_sum l
theorem bc_byte : ∀ b, b < 256 → cn (fun i => b.testBit i) 8 = bc_p b := by decide +kernel
theorem bc_byteN (y : Nat) : cn (fun i => y.testBit i) 8 = bc_p (y % 256) := by
  rw [← bc_byte _ (Nat.mod_lt _ (by omega))]
  exact cn_congr (fun i hi => by
    rw [show (256 : Nat) = 2 ^ 8 from rfl, Nat.testBit_mod_two_pow]
    simp [hi])
theorem bc_cn : ∀ (m x : Nat), cn (fun i => x.testBit i) (8 * m) = bc_sum (bc_dl m x)
  | 0, _ => rfl
  | m + 1, x => by
    rw [show 8 * (m + 1) = 8 + 8 * m by omega, cn_add, bc_byteN]
    show _ = bc_p (x % 256) + bc_sum (bc_dl m (x / 256))
    rw [← bc_cn m (x / 256)]
    congr 1
    exact cn_congr (fun i _ => by rw [show (256 : Nat) = 2 ^ 8 from rfl, Nat.testBit_div_two_pow, Nat.add_comm])
/-- Long.bitCount counts the bits -/
theorem bc_count {x : Nat} (h : x < 2 ^ 64) : bc_h x % 128 = cn (fun i => x.testBit i) 64 ∧ bc_h x < 2 ^ 64 ∧ bc_g x < 2 ^ 64 ∧ bc_f x < 2 ^ 64 ∧ bc_d x < 2 ^ 64 := by
  obtain ⟨-, -, -, a4⟩ := bc_steps h
  have hl := bc_dl_lt 8 x
  rw [show (64 : Nat) = 8 * 8 from rfl, bc_cn]
  have q : ∀ b ∈ bc_dl 8 x, bc_p b ≤ 8 := fun b hb => bc_b3 b (hl b hb)
  have hlen := bc_dl_len 8 x
  generalize bc_dl 8 x = l at a4 q hlen ⊢
  match l, hlen with
  | [b0, b1, b2, b3, b4, b5, b6, b7], _ =>
    have r := bc_fold (q b0 (by simp)) (q b1 (by simp)) (q b2 (by simp)) (q b3 (by simp)) (q b4 (by simp)) (q b5 (by simp)) (q b6 (by simp)) (q b7 (by simp)) a4 (f := bc_f x) (g := bc_g x) rfl rfl
    exact r
end
section
/-! rows over places in arrays and numbers that are known naturals -/
theorem zn_lt {a b : Nat} (ha : a < 2 ^ 31) (hb : b < 2 ^ 31) : nI a < nI b ↔ a < b := nI_ltI ha hb
section ZR
variable {p : Program} {l : Launch} {e : Env} {R : Room} {s : State} {m : MethodId} {args : Array Value} {below : List Frame} {meth : Method} {c : Code} {H : Heap} {locs : List Loc} {cells slots : Nat} {Q : State → Prop}
variable {cc : ByteArray} {pc : Nat} {ls : Array Slot} {rest : List Value} {D : va_G} {cl : List vw_C} {A : Nat → Prop} {a : Nat} {tys : List (ClassId × FieldType)} {ws ws' : va_W} {H0 : Heap}
theorem zr_iald (hexec : p.tables.exec = Jvm.exec) (hb : c.code = cc) (hK : va_K D cl tys s) (hP : va_P D cl ws H) (q0 t0 : Nat) {cA : ClassId} {n : Nat} {f : Nat → Int32} {i : Nat} {v : Int32} (ha : ws[q0]? = some (a, .inl (cA, n, .inl f))) (ht : tys[t0]? = some (cA, .int)) (hi : i < n) (hn : n < 2 ^ 31) (hv : f i = v) (hdg : decode cc pc = .ok (.iaload, 1))
    (kk : W p l e R s m args below meth c H locs cells slots Q (F0 m (pc + 1) ls (.int v :: rest))) : W p l e R s m args below meth c H locs cells slots Q (F0 m pc ls (.int (nI i) :: .ref a :: rest)) := by
  refine va_iald hexec hb hK hP q0 t0 ha ht (vp_in_nI hi hn) hdg ?_
  rw [nI_clamp (by omega), hv]
  exact kk
theorem zr_lald (hexec : p.tables.exec = Jvm.exec) (hb : c.code = cc) (hK : va_K D cl tys s) (hP : va_P D cl ws H) (q0 t0 : Nat) {cA : ClassId} {n : Nat} {f : Nat → Int64} {i : Nat} {v : Int64} (ha : ws[q0]? = some (a, .inl (cA, n, .inr (.inl f)))) (ht : tys[t0]? = some (cA, .long)) (hi : i < n) (hn : n < 2 ^ 31) (hv : f i = v) (hdg : decode cc pc = .ok (.laload, 1))
    (kk : W p l e R s m args below meth c H locs cells slots Q (F0 m (pc + 1) ls (.long v :: rest))) : W p l e R s m args below meth c H locs cells slots Q (F0 m pc ls (.int (nI i) :: .ref a :: rest)) := by
  refine va_lald hexec hb hK hP q0 t0 ha ht (vp_in_nI hi hn) hdg ?_
  rw [nI_clamp (by omega), hv]
  exact kk
/-- a row of an array of arrays -/
theorem zr_aald (hexec : p.tables.exec = Jvm.exec) (hb : c.code = cc) (hK : va_K D cl tys s) (hP : va_P D cl ws H) (q0 t0 : Nat) {cA : ClassId} {n : Nat} {f : Nat → Option Nat} {i r : Nat} {ty : FieldType} (ha : ws[q0]? = some (a, .inl (cA, n, .inr (.inr (.inr (.inr f)))))) (ht : tys[t0]? = some (cA, .array ty)) (hi : i < n) (hn : n < 2 ^ 31) (hv : f i = some r) (hdg : decode cc pc = .ok (.aaload, 1))
    (kk : W p l e R s m args below meth c H locs cells slots Q (F0 m (pc + 1) ls (.ref r :: rest))) : W p l e R s m args below meth c H locs cells slots Q (F0 m pc ls (.int (nI i) :: .ref a :: rest)) := by
  have hin : vp_in (nI i) n := vp_in_nI hi hn
  have hcl : (nI i).toNatClampNeg = i := nI_clamp (by omega)
  exact W.aald (v := .ref r) (ty := .array ty) hexec hb (hP q0 _ ha) ((hK.2 t0 _ ht).1 n (fun j => va_rf (f j))) rfl (fun q => by cases q) (by show ¬ (nI i < 0 ∨ (arrV _ _ _).slots.size ≤ _); rw [arrV_size]; exact hin) (by show (arrV _ _ _).slots[_]? = _; rw [hcl, arrV_read _ _ hi, hv]; rfl) rfl rfl hdg kk
theorem zr_iast (hexec : p.tables.exec = Jvm.exec) (hb : c.code = cc) (hK : va_K D cl tys s) (hP : va_P D cl ws H) (hD : va_D A ws) (hS : va_S A H0 H locs) (q0 t0 : Nat) {cA : ClassId} {n : Nat} {f : Nat → Int32} {i : Nat} {x : Int32} (ha : ws[q0]? = some (a, .inl (cA, n, .inl f))) (ht : tys[t0]? = some (cA, .int)) (hi : i < n) (hn : n < 2 ^ 31) (hset : ws.set q0 (a, .inl (cA, n, .inl (upd f i x))) = ws') (hdg : decode cc pc = .ok (.iastore, 1))
    (kk : ∀ (H1 : Heap) (locs1 : List Loc), va_P D cl ws' H1 → va_D A ws' → va_S A H0 H1 locs1 → W p l e R s m args below meth c H1 locs1 cells slots Q (F0 m (pc + 1) ls rest)) : W p l e R s m args below meth c H locs cells slots Q (F0 m pc ls (.int x :: .int (nI i) :: .ref a :: rest)) := by
  refine va_iast hexec hb hK hP hD hS q0 t0 ha ht (vp_in_nI hi hn) hdg (fun H1 l1 h1 h2 h3 => ?_)
  rw [nI_clamp (by omega), hset] at h1 h2
  exact kk H1 l1 h1 h2 h3
theorem zr_last (hexec : p.tables.exec = Jvm.exec) (hb : c.code = cc) (hK : va_K D cl tys s) (hP : va_P D cl ws H) (hD : va_D A ws) (hS : va_S A H0 H locs) (q0 t0 : Nat) {cA : ClassId} {n : Nat} {f : Nat → Int64} {i : Nat} {x : Int64} (ha : ws[q0]? = some (a, .inl (cA, n, .inr (.inl f)))) (ht : tys[t0]? = some (cA, .long)) (hi : i < n) (hn : n < 2 ^ 31) (hset : ws.set q0 (a, .inl (cA, n, .inr (.inl (vp_updL f i x)))) = ws') (hdg : decode cc pc = .ok (.lastore, 1))
    (kk : ∀ (H1 : Heap) (locs1 : List Loc), va_P D cl ws' H1 → va_D A ws' → va_S A H0 H1 locs1 → W p l e R s m args below meth c H1 locs1 cells slots Q (F0 m (pc + 1) ls rest)) : W p l e R s m args below meth c H locs cells slots Q (F0 m pc ls (.long x :: .int (nI i) :: .ref a :: rest)) := by
  refine va_last hexec hb hK hP hD hS q0 t0 ha ht (vp_in_nI hi hn) hdg (fun H1 l1 h1 h2 h3 => ?_)
  rw [nI_clamp (by omega), hset] at h1 h2
  exact kk H1 l1 h1 h2 h3
theorem zr_imul (hexec : p.tables.exec = Jvm.exec) (hb : c.code = cc) {x y : Nat} (hdg : decode cc pc = .ok (.imul, 1))
    (kk : W p l e R s m args below meth c H locs cells slots Q (F0 m (pc + 1) ls (.int (nI (x * y)) :: rest))) : W p l e R s m args below meth c H locs cells slots Q (F0 m pc ls (.int (nI y) :: .int (nI x) :: rest)) := by
  refine lv_imul hexec hb hdg ?_
  rw [pk_mul]
  exact kk
theorem zr_iadd (hexec : p.tables.exec = Jvm.exec) (hb : c.code = cc) {x y : Nat} (hdg : decode cc pc = .ok (.iadd, 1))
    (kk : W p l e R s m args below meth c H locs cells slots Q (F0 m (pc + 1) ls (.int (nI (x + y)) :: rest))) : W p l e R s m args below meth c H locs cells slots Q (F0 m pc ls (.int (nI y) :: .int (nI x) :: rest)) := by
  refine lv_iadd hexec hb hdg ?_
  rw [nI_add]
  exact kk
theorem zr_lor (hexec : p.tables.exec = Jvm.exec) (hb : c.code = cc) {x y : Nat} (hdg : decode cc pc = .ok (.lor, 1))
    (kk : W p l e R s m args below meth c H locs cells slots Q (F0 m (pc + 1) ls (.long (lN (x ||| y)) :: rest))) : W p l e R s m args below meth c H locs cells slots Q (F0 m pc ls (.long (lN y) :: .long (lN x) :: rest)) := by
  refine lv_lor hexec hb hdg ?_
  rw [zb_or]
  exact kk
theorem zr_lshl (hexec : p.tables.exec = Jvm.exec) (hb : c.code = cc) {x k : Nat} (hk : k < 64) (hdg : decode cc pc = .ok (.lshl, 1))
    (kk : W p l e R s m args below meth c H locs cells slots Q (F0 m (pc + 1) ls (.long (lN (x * 2 ^ k)) :: rest))) : W p l e R s m args below meth c H locs cells slots Q (F0 m pc ls (.int (nI k) :: .long (lN x) :: rest)) :=
  lv_lshl hexec hb hdg (zb_shl x hk) kk
theorem zr_lushr (hexec : p.tables.exec = Jvm.exec) (hb : c.code = cc) {x k : Nat} (hx : x < 2 ^ 64) (hk : k < 64) (hdg : decode cc pc = .ok (.lushr, 1))
    (kk : W p l e R s m args below meth c H locs cells slots Q (F0 m (pc + 1) ls (.long (lN (x / 2 ^ k)) :: rest))) : W p l e R s m args below meth c H locs cells slots Q (F0 m pc ls (.int (nI k) :: .long (lN x) :: rest)) :=
  lv_lushr hexec hb hdg (zb_shr hx hk) kk
theorem zb_sshr {n k : Nat} (hn : n < 2 ^ 63) (hk : k < 64) : lN n >>> ((nI k).toInt64 &&& 63) = lN (n / 2 ^ k) := by
  rw [zb_c k hk]
  apply zb_inj
  rw [Int64.toBitVec_shiftRight, zb_tb, zb_tb, zb_tb, zb_sm k hk]
  have hm : (BitVec.ofNat 64 n).msb = false := by
    rw [BitVec.msb_eq_decide, BitVec.toNat_ofNat, Nat.mod_eq_of_lt (by omega)]
    exact decide_eq_false (by omega)
  rw [BitVec.sshiftRight_eq', BitVec.toNat_ofNat, Nat.mod_eq_of_lt (show k < 2 ^ 64 by omega), BitVec.sshiftRight_eq_of_msb_false hm]
  apply BitVec.eq_of_toNat_eq
  rw [BitVec.toNat_ushiftRight, BitVec.toNat_ofNat, BitVec.toNat_ofNat, Nat.mod_eq_of_lt (show n < 2 ^ 64 by omega), Nat.shiftRight_eq_div_pow, Nat.mod_eq_of_lt (Nat.lt_of_le_of_lt (Nat.div_le_self _ _) (show n < 2 ^ 64 by omega))]
theorem zr_lshr (hexec : p.tables.exec = Jvm.exec) (hb : c.code = cc) {x k : Nat} (hx : x < 2 ^ 63) (hk : k < 64) (hdg : decode cc pc = .ok (.lshr, 1))
    (kk : W p l e R s m args below meth c H locs cells slots Q (F0 m (pc + 1) ls (.long (lN (x / 2 ^ k)) :: rest))) : W p l e R s m args below meth c H locs cells slots Q (F0 m pc ls (.int (nI k) :: .long (lN x) :: rest)) :=
  lv_lshr hexec hb hdg (zb_sshr hx hk) kk
theorem zr_land1 (hexec : p.tables.exec = Jvm.exec) (hb : c.code = cc) {x : Nat} (hdg : decode cc pc = .ok (.land, 1))
    (kk : W p l e R s m args below meth c H locs cells slots Q (F0 m (pc + 1) ls (.long (lN (x % 2)) :: rest))) : W p l e R s m args below meth c H locs cells slots Q (F0 m pc ls (.long (lN 1) :: .long (lN x) :: rest)) := by
  refine lv_land hexec hb hdg ?_
  rw [zb_and, Nat.and_one_is_mod]
  exact kk
/-- branches on naturals -/
theorem zr_ige (hexec : p.tables.exec = Jvm.exec) (hb : c.code = cc) {x y : Nat} {off : Int} {tgt : Nat} (hx : x < 2 ^ 31) (hy : y < 2 ^ 31) (hdg : decode cc pc = .ok (.if_icmp .ge off, 3)) (ht : (pc : Int) + off = (tgt : Int))
    (kt : y ≤ x → W p l e R s m args below meth c H locs cells slots Q (F0 m tgt ls rest)) (kf : x < y → W p l e R s m args below meth c H locs cells slots Q (F0 m (pc + 3) ls rest)) : W p l e R s m args below meth c H locs cells slots Q (F0 m pc ls (.int (nI y) :: .int (nI x) :: rest)) :=
  lv_icmp_ge hexec hb hdg ht (fun h => kt ((nI_leI hy hx).mp h)) (fun h => kf (Nat.not_le.mp (fun q => h ((nI_leI hy hx).mpr q))))
theorem zr_ine (hexec : p.tables.exec = Jvm.exec) (hb : c.code = cc) {x y : Nat} {off : Int} {tgt : Nat} (hx : x < 2 ^ 31) (hy : y < 2 ^ 31) (hdg : decode cc pc = .ok (.if_icmp .ne off, 3)) (ht : (pc : Int) + off = (tgt : Int))
    (kt : ¬ x = y → W p l e R s m args below meth c H locs cells slots Q (F0 m tgt ls rest)) (kf : x = y → W p l e R s m args below meth c H locs cells slots Q (F0 m (pc + 3) ls rest)) : W p l e R s m args below meth c H locs cells slots Q (F0 m pc ls (.int (nI y) :: .int (nI x) :: rest)) :=
  lv_icmp_ne hexec hb hdg ht (fun h => kt (fun q => h ((nI_eq hx hy).mpr q))) (fun h => kf ((nI_eq hx hy).mp h))
theorem zr_ieq (hexec : p.tables.exec = Jvm.exec) (hb : c.code = cc) {x y : Nat} {off : Int} {tgt : Nat} (hx : x < 2 ^ 31) (hy : y < 2 ^ 31) (hdg : decode cc pc = .ok (.if_icmp .eq off, 3)) (ht : (pc : Int) + off = (tgt : Int))
    (kt : x = y → W p l e R s m args below meth c H locs cells slots Q (F0 m tgt ls rest)) (kf : ¬ x = y → W p l e R s m args below meth c H locs cells slots Q (F0 m (pc + 3) ls rest)) : W p l e R s m args below meth c H locs cells slots Q (F0 m pc ls (.int (nI y) :: .int (nI x) :: rest)) :=
  lv_icmp_eq hexec hb hdg ht (fun h => kt ((nI_eq hx hy).mp h)) (fun h => kf (fun q => h ((nI_eq hx hy).mpr q)))
theorem zr_ilt (hexec : p.tables.exec = Jvm.exec) (hb : c.code = cc) {x y : Nat} {off : Int} {tgt : Nat} (hx : x < 2 ^ 31) (hy : y < 2 ^ 31) (hdg : decode cc pc = .ok (.if_icmp .lt off, 3)) (ht : (pc : Int) + off = (tgt : Int))
    (kt : x < y → W p l e R s m args below meth c H locs cells slots Q (F0 m tgt ls rest)) (kf : y ≤ x → W p l e R s m args below meth c H locs cells slots Q (F0 m (pc + 3) ls rest)) : W p l e R s m args below meth c H locs cells slots Q (F0 m pc ls (.int (nI y) :: .int (nI x) :: rest)) :=
  lv_icmp_lt hexec hb hdg ht (fun h => kt ((nI_ltI hx hy).mp h)) (fun h => kf (Nat.not_lt.mp (fun q => h ((nI_ltI hx hy).mpr q))))
theorem zr_ile (hexec : p.tables.exec = Jvm.exec) (hb : c.code = cc) {x y : Nat} {off : Int} {tgt : Nat} (hx : x < 2 ^ 31) (hy : y < 2 ^ 31) (hdg : decode cc pc = .ok (.if_icmp .le off, 3)) (ht : (pc : Int) + off = (tgt : Int))
    (kt : x ≤ y → W p l e R s m args below meth c H locs cells slots Q (F0 m tgt ls rest)) (kf : y < x → W p l e R s m args below meth c H locs cells slots Q (F0 m (pc + 3) ls rest)) : W p l e R s m args below meth c H locs cells slots Q (F0 m pc ls (.int (nI y) :: .int (nI x) :: rest)) :=
  lv_icmp_le hexec hb hdg ht (fun h => kt ((nI_leI hx hy).mp h)) (fun h => kf (Nat.not_le.mp (fun q => h ((nI_leI hx hy).mpr q))))
/-- ifle on a natural -/
theorem zr_ifle (hexec : p.tables.exec = Jvm.exec) (hb : c.code = cc) {x : Nat} {off : Int} {tgt : Nat} (hx : x < 2 ^ 31) (hdg : decode cc pc = .ok (.ifCond .le off, 3)) (ht : (pc : Int) + off = (tgt : Int))
    (kt : x = 0 → W p l e R s m args below meth c H locs cells slots Q (F0 m tgt ls rest)) (kf : 0 < x → W p l e R s m args below meth c H locs cells slots Q (F0 m (pc + 3) ls rest)) : W p l e R s m args below meth c H locs cells slots Q (F0 m pc ls (.int (nI x) :: rest)) := by
  refine lv_if_le hexec hb hdg ht (fun h => kt ?_) (fun h => kf ?_)
  · rcases Nat.eq_zero_or_pos x with q | q
    · exact q
    · exact absurd h (nI_nle q hx)
  · rcases Nat.eq_zero_or_pos x with q | q
    · exact absurd (by rw [q, nI_0]; exact Int32.le_refl 0) h
    · exact q
/-- a bit of a set, tested as (set >> w & 1) == 1 -/
theorem zr_bit (hexec : p.tables.exec = Jvm.exec) (hb : c.code = cc) {x w : Nat} {off : Int} {tgt : Nat} (hx : x < 2 ^ 63) (hw : w < 64) (d0 : decode cc pc = .ok (.lshr, 1)) (d1 : decode cc (pc + 1) = .ok (.lconst 1, 1)) (d2 : decode cc (pc + 1 + 1) = .ok (.land, 1)) (d3 : decode cc (pc + 1 + 1 + 1) = .ok (.lconst 1, 1)) (d4 : decode cc (pc + 1 + 1 + 1 + 1) = .ok (.lcmp, 1)) (d5 : decode cc (pc + 1 + 1 + 1 + 1 + 1) = .ok (.ifCond .ne off, 3)) (ht : ((pc + 1 + 1 + 1 + 1 + 1 : Nat) : Int) + off = (tgt : Int))
    (kf : x.testBit w = false → W p l e R s m args below meth c H locs cells slots Q (F0 m tgt ls rest)) (kt : x.testBit w = true → W p l e R s m args below meth c H locs cells slots Q (F0 m (pc + 1 + 1 + 1 + 1 + 1 + 3) ls rest)) : W p l e R s m args below meth c H locs cells slots Q (F0 m pc ls (.int (nI w) :: .long (lN x) :: rest)) := by
  refine zr_lshr hexec hb hx hw d0 ?_
  refine lv_lconst (v := lN 1) hexec hb d1 (by decide) ?_
  refine zr_land1 hexec hb d2 ?_
  refine lv_lconst (v := lN 1) hexec hb d3 (by decide) ?_
  refine W.lcmp hexec hb d4 ?_
  have ht' := Nat.testBit_eq_decide_div_mod_eq (x := x) (i := w)
  rcases Nat.mod_two_eq_zero_or_one (x / 2 ^ w) with h | h
  · rw [h] at ht' ⊢
    refine lv_if_ne hexec hb d5 ht (fun _ => kf (by rw [ht']; rfl)) (fun q => absurd q (by decide))
  · rw [h] at ht' ⊢
    refine lv_if_ne hexec hb d5 ht (fun q => absurd (by decide) q) (fun _ => kt (by rw [ht']; rfl))
end ZR
section ZL
variable {p : Program} {l : Launch} {e : Env} {R : Room} {s : State} {m : MethodId} {args : Array Value} {below : List Frame} {meth : Method} {c : Code} {H : Heap} {locs : List Loc} {cells slots : Nat} {Q : State → Prop} {pc : Nat}
/-- a loop that leaves the heap alone: I d ls, d falls -/
theorem zr_loop (I : Nat → Array Slot → Prop) (step : ∀ (d : Nat) (ls : Array Slot), I d ls → (∀ (d' : Nat) (ls' : Array Slot), d' < d → I d' ls' → W p l e R s m args below meth c H locs cells slots Q (F0 m pc ls' [])) → W p l e R s m args below meth c H locs cells slots Q (F0 m pc ls [])) (d : Nat) (ls : Array Slot) (h : I d ls) : W p l e R s m args below meth c H locs cells slots Q (F0 m pc ls []) := by
  have key : ∀ n d ls, d < n → I d ls → W p l e R s m args below meth c H locs cells slots Q (F0 m pc ls []) := by
    intro n
    induction n with
    | zero => intro d ls h; exact absurd h (Nat.not_lt_zero _)
    | succ n ih => intro d ls hd h; exact step d ls h (fun d' ls' h1 h2 => ih d' ls' (by omega) h2)
  exact key (d + 1) d ls (Nat.lt_succ_self d) h
end ZL
end
section
/-! the state, as numbers: n(key) writes; va, mk, ct, ps of a write: its value, its server, its counter, its past; kn(key, server), cx(key, client): sets, as numbers' bits -/
def zu (f : Nat → Nat) (j v : Nat) : Nat → Nat := fun b => if b = j then v else f b
def zU (f : Nat → Nat → Nat) (k j v : Nat) : Nat → Nat → Nat := fun a => if a = k then zu (f a) j v else f a
def zV (f : Nat → Nat → Int32) (k j : Nat) (v : Int32) : Nat → Nat → Int32 := fun a => if a = k then upd (f a) j v else f a
theorem zu_s (f : Nat → Nat) (j v : Nat) : zu f j v j = v := if_pos rfl
theorem zu_n (f : Nat → Nat) {j b : Nat} (v : Nat) (h : b ≠ j) : zu f j v b = f b := if_neg h
theorem zU_s (f : Nat → Nat → Nat) (k j v : Nat) : zU f k j v k j = v := by simp [zU, zu]
theorem zU_k (f : Nat → Nat → Nat) (k j v : Nat) : zU f k j v k = zu (f k) j v := if_pos rfl
theorem zU_n (f : Nat → Nat → Nat) {k a : Nat} (j v : Nat) (h : a ≠ k) : zU f k j v a = f a := if_neg h
theorem zU_nj (f : Nat → Nat → Nat) {k a j b : Nat} (v : Nat) (h : a ≠ k ∨ b ≠ j) : zU f k j v a b = f a b := by
  unfold zU zu
  rcases h with h | h
  · rw [if_neg h]
  · by_cases q : a = k
    · rw [if_pos q, if_neg h]
    · rw [if_neg q]
/-- the writes that are in the past of one of the set, among the first i -/
def zRep (ps : Nat → Nat) (set : Nat) : Nat → Nat
  | 0 => 0
  | i + 1 => if set.testBit i then zRep ps set i ||| ps i else zRep ps set i
def zNew (n : Nat) (ps : Nat → Nat) (set : Nat) : Nat := set &&& (zRep ps set n ^^^ 18446744073709551615)
/-- the search for the i-th hit of a server, from write w on, d writes left -/
def zIn (hit : Nat → Bool) (i : Int32) : Nat → Nat → Nat → Nat ⊕ Nat
  | 0, _, seen => .inr seen
  | d + 1, w, seen => if hit w then (if nI seen = i then .inl w else zIn hit i d (w + 1) (seen + 1)) else zIn hit i d (w + 1) seen
def zOut (hit : Nat → Nat → Bool) (n : Nat) (i : Int32) : Nat → Nat → Nat → Option Nat
  | 0, _, _ => none
  | d + 1, s, seen => match zIn (hit s) i n 0 seen with
    | .inl w => some w
    | .inr seen' => zOut hit n i d (s + 1) seen'
def zHit (mk : Nat → Nat) (set : Nat) (s w : Nat) : Bool := decide (mk w = s) && set.testBit w
def zAt (S n : Nat) (mk : Nat → Nat) (set : Nat) (i : Int32) : Option Nat := zOut (zHit mk set) n i S 0 0
def zW (o : Option Nat) : Int32 := match o with
  | none => -1
  | some w => nI w
theorem zIn_lt {hit : Nat → Bool} {i : Int32} : ∀ (d w seen : Nat) {v : Nat}, zIn hit i d w seen = .inl v → v < w + d
  | 0, w, seen, v, h => by cases h
  | d + 1, w, seen, v, h => by
    unfold zIn at h
    split at h
    · split at h
      · cases h; omega
      · have := zIn_lt d (w + 1) (seen + 1) h; omega
    · have := zIn_lt d (w + 1) seen h; omega
theorem zIn_le {hit : Nat → Bool} {i : Int32} : ∀ (d w seen : Nat) {v : Nat}, zIn hit i d w seen = .inr v → v ≤ seen + d
  | 0, w, seen, v, h => by cases h; omega
  | d + 1, w, seen, v, h => by
    unfold zIn at h
    split at h
    · split at h
      · cases h
      · have := zIn_le d (w + 1) (seen + 1) h; omega
    · have := zIn_le d (w + 1) seen h; omega
theorem zOut_lt {hit : Nat → Nat → Bool} {n : Nat} {i : Int32} : ∀ (d s seen : Nat) {v : Nat}, zOut hit n i d s seen = some v → v < n
  | 0, s, seen, v, h => by cases h
  | d + 1, s, seen, v, h => by
    unfold zOut at h
    split at h
    · rename_i w hw
      cases h
      have := zIn_lt n 0 seen hw
      omega
    · exact zOut_lt d (s + 1) _ h
/-- the greatest counter among the first i writes that hit -/
def zVec (ct : Nat → Nat) (hit : Nat → Bool) : Nat → Nat
  | 0 => 0
  | i + 1 => if hit i then (if zVec ct hit i < ct i then ct i else zVec ct hit i) else zVec ct hit i
theorem zVec_le {ct : Nat → Nat} {hit : Nat → Bool} {M : Nat} (h : ∀ w, ct w ≤ M) : ∀ i, zVec ct hit i ≤ M
  | 0 => Nat.zero_le _
  | i + 1 => by
    have := zVec_le (hit := hit) h i
    have := h i
    unfold zVec
    split
    · split <;> omega
    · omega
def zSize (set : Nat) : Nat := cn (fun i => set.testBit i) 40
/-- an argument that names one of N things -/
def zD (N : Nat) (x : Int32) : Option Nat := if 0 ≤ x.toInt ∧ x.toInt < (N : Int) then some x.toInt.toNat else none
theorem zD_s {N j : Nat} (h : j < N) (hN : N < 2 ^ 31) : zD N (nI j) = some j := by
  unfold zD
  rw [nI_toInt (by omega), if_pos (by omega)]
  rfl
theorem zD_neg {N : Nat} {x : Int32} (h : x < 0) : zD N x = none := by
  unfold zD
  have : x.toInt < 0 := by simpa using Int32.lt_iff_toInt_lt.mp h
  rw [if_neg (by omega)]
theorem zD_big {N : Nat} {x : Int32} (hN : N < 2 ^ 31) (h : nI N ≤ x) : zD N x = none := by
  unfold zD
  have := Int32.le_iff_toInt_le.mp h
  rw [nI_toInt hN] at this
  rw [if_neg (by omega)]
theorem zD_in {N : Nat} {x : Int32} (hN : N < 2 ^ 31) (h0 : ¬ x < 0) (h : ¬ nI N ≤ x) : ∃ j, j < N ∧ x = nI j ∧ zD N x = some j := by
  rcases pk_ix x hN with q | q | ⟨j, hj, rfl⟩
  · exact absurd q h0
  · exact absurd q h
  · exact ⟨j, hj, rfl, zD_s hj hN⟩
/-- what isServer and its like answer -/
def zIs (N : Nat) (x r : Int32) : Prop := (r = 1 ∧ ∃ j, j < N ∧ x = nI j ∧ zD N x = some j) ∨ (r = 0 ∧ zD N x = none)
def zq2 {α : Type} (a b : Option Nat) (d : α) (f : Nat → Nat → α) : α := match a with
  | none => d
  | some x => match b with
    | none => d
    | some y => f x y
def zq3 {α : Type} (a b c : Option Nat) (d : α) (f : Nat → Nat → Nat → α) : α := match a with
  | none => d
  | some x => match b with
    | none => d
    | some y => match c with
      | none => d
      | some z => f x y z
theorem zq2_1 {α : Type} {a b : Option Nat} {d : α} {f : Nat → Nat → α} (h : a = none) : zq2 a b d f = d := by subst h; rfl
theorem zq2_2 {α : Type} {a b : Option Nat} {d : α} {f : Nat → Nat → α} (h : b = none) : zq2 a b d f = d := by subst h; cases a <;> rfl
theorem zq2_s {α : Type} {a b : Option Nat} {d : α} {f : Nat → Nat → α} {x y : Nat} (h1 : a = some x) (h2 : b = some y) : zq2 a b d f = f x y := by subst h1; subst h2; rfl
theorem zq3_1 {α : Type} {a b c : Option Nat} {d : α} {f : Nat → Nat → Nat → α} (h : a = none) : zq3 a b c d f = d := by subst h; rfl
theorem zq3_2 {α : Type} {a b c : Option Nat} {d : α} {f : Nat → Nat → Nat → α} (h : b = none) : zq3 a b c d f = d := by subst h; cases a <;> rfl
theorem zq3_3 {α : Type} {a b c : Option Nat} {d : α} {f : Nat → Nat → Nat → α} (h : c = none) : zq3 a b c d f = d := by subst h; cases a <;> cases b <;> rfl
theorem zq3_s {α : Type} {a b c : Option Nat} {d : α} {f : Nat → Nat → Nat → α} {x y z : Nat} (h1 : a = some x) (h2 : b = some y) (h3 : c = some z) : zq3 a b c d f = f x y z := by subst h1; subst h2; subst h3; rfl
/-- how many servers or clients -/
def zP (x : Int32) : Nat := if 1 ≤ x.toInt ∧ x.toInt ≤ 4 then x.toInt.toNat else 1
theorem zP_in (x : Int32) : 1 ≤ zP x ∧ zP x ≤ 4 := by
  unfold zP
  split <;> omega
theorem zP_ok {x : Int32} (h1 : ¬ x < 1) (h2 : ¬ 4 < x) : x = nI (zP x) := by
  have a1 : ¬ x.toInt < 1 := fun q => h1 (Int32.lt_iff_toInt_lt.mpr q)
  have a2 : ¬ 4 < x.toInt := fun q => h2 (Int32.lt_iff_toInt_lt.mpr q)
  unfold zP
  rw [if_pos (by omega)]
  apply Int32.toInt_inj.mp
  rw [nI_toInt (by omega)]
  omega
theorem zP_lo {x : Int32} (h : x < 1) : zP x = 1 := by
  have a1 : x.toInt < 1 := Int32.lt_iff_toInt_lt.mp h
  unfold zP
  rw [if_neg (by omega)]
theorem zP_hi {x : Int32} (h : 4 < x) : zP x = 1 := by
  have a1 : 4 < x.toInt := Int32.lt_iff_toInt_lt.mp h
  unfold zP
  rw [if_neg (by omega)]
/-- one of a write's numbers -/
def zDet (what v : Int32) (mk ct w : Nat) : Int64 := if what = 0 then v.toInt64 else if what = 1 then (nI mk).toInt64 else if what = 2 then (nI ct).toInt64 else if what = 3 then (nI w).toInt64 else -9223372036854775808
/-- what always holds of a state -/
def zG (S C : Nat) (n : Nat → Nat) (mk ct ps kn cx : Nat → Nat → Nat) : Prop :=
  (1 ≤ S ∧ S ≤ 4 ∧ 1 ≤ C ∧ C ≤ 4) ∧ (∀ k, n k ≤ 40) ∧ (∀ k w, w < n k → mk k w < S) ∧ (∀ k w, ct k w ≤ 40) ∧ (∀ k w, ps k w < 2 ^ 40) ∧ (∀ k s, kn k s < 2 ^ n k) ∧ (∀ k c, cx k c < 2 ^ n k) ∧
  (∀ k w, w < n k → ct k w = 1 + cn (fun v => decide (mk k v = mk k w)) w) ∧ (∀ k w, w < n k → (kn k (mk k w)).testBit w = true)
theorem z40 {x m : Nat} (h : x < 2 ^ m) (hm : m ≤ 40) : x < 2 ^ 40 := Nat.lt_of_lt_of_le h (Nat.pow_le_pow_right (by decide) hm)
/-! the class's cells -/
abbrev zT (cI cJ cII cJJ : ClassId) : List (ClassId × FieldType) := [(cI, .int), (cJ, .long), (cII, .array .int), (cJJ, .array .long)]
def zo (ad : Nat → Nat) (b : Nat) : Nat → Option Nat := fun i => if i < 3 then some (ad (b + i)) else none
theorem zo_at (ad : Nat → Nat) (b : Nat) {i : Nat} (h : i < 3) : zo ad b i = some (ad (b + i)) := if_pos h
def xw (ad : Nat → Nat) (cI cJ cII cJJ : ClassId) (S C : Nat) (n : Nat → Nat) (va : Nat → Nat → Int32) (mk ct ps kn cx : Nat → Nat → Nat) : va_W :=
  [(ad 0, .inr (0, [.int (nI S), .int (nI C), .ref (ad 1), .ref (ad 2), .ref (ad 3), .ref (ad 4), .ref (ad 5), .ref (ad 6), .ref (ad 7)])),
   (ad 1, .inl (cI, 3, .inl (fun k => nI (n k)))),
   (ad 2, .inl (cII, 3, .inr (.inr (.inr (.inr (zo ad 8)))))),
   (ad 3, .inl (cII, 3, .inr (.inr (.inr (.inr (zo ad 11)))))),
   (ad 4, .inl (cII, 3, .inr (.inr (.inr (.inr (zo ad 14)))))),
   (ad 5, .inl (cJJ, 3, .inr (.inr (.inr (.inr (zo ad 17)))))),
   (ad 6, .inl (cJJ, 3, .inr (.inr (.inr (.inr (zo ad 20)))))),
   (ad 7, .inl (cJJ, 3, .inr (.inr (.inr (.inr (zo ad 23)))))),
   (ad (8 + 0), .inl (cI, 40, .inl (va 0))), (ad (8 + 1), .inl (cI, 40, .inl (va 1))), (ad (8 + 2), .inl (cI, 40, .inl (va 2))),
   (ad (11 + 0), .inl (cI, 40, .inl (fun w => nI (mk 0 w)))), (ad (11 + 1), .inl (cI, 40, .inl (fun w => nI (mk 1 w)))), (ad (11 + 2), .inl (cI, 40, .inl (fun w => nI (mk 2 w)))),
   (ad (14 + 0), .inl (cI, 40, .inl (fun w => nI (ct 0 w)))), (ad (14 + 1), .inl (cI, 40, .inl (fun w => nI (ct 1 w)))), (ad (14 + 2), .inl (cI, 40, .inl (fun w => nI (ct 2 w)))),
   (ad (17 + 0), .inl (cJ, 40, .inr (.inl (fun w => lN (ps 0 w))))), (ad (17 + 1), .inl (cJ, 40, .inr (.inl (fun w => lN (ps 1 w))))), (ad (17 + 2), .inl (cJ, 40, .inr (.inl (fun w => lN (ps 2 w))))),
   (ad (20 + 0), .inl (cJ, S, .inr (.inl (fun w => lN (kn 0 w))))), (ad (20 + 1), .inl (cJ, S, .inr (.inl (fun w => lN (kn 1 w))))), (ad (20 + 2), .inl (cJ, S, .inr (.inl (fun w => lN (kn 2 w))))),
   (ad (23 + 0), .inl (cJ, C, .inr (.inl (fun w => lN (cx 0 w))))), (ad (23 + 1), .inl (cJ, C, .inr (.inl (fun w => lN (cx 1 w))))), (ad (23 + 2), .inl (cJ, C, .inr (.inl (fun w => lN (cx 2 w)))))]
theorem zupN (f : Nat → Nat) (j v : Nat) : upd (fun w => nI (f w)) j (nI v) = fun w => nI (zu f j v w) := by
  funext w
  unfold upd zu
  split <;> rfl
theorem zupL (f : Nat → Nat) (j v : Nat) : vp_updL (fun w => lN (f w)) j (lN v) = fun w => lN (zu f j v w) := by
  funext w
  unfold vp_updL zu
  split <;> rfl
section XW
variable {ad : Nat → Nat} {cI cJ cII cJJ : ClassId} {S C : Nat} {n : Nat → Nat} {va : Nat → Nat → Int32} {mk ct ps kn cx : Nat → Nat → Nat}
theorem xw_va {k : Nat} (hk : k < 3) : (xw ad cI cJ cII cJJ S C n va mk ct ps kn cx)[8 + k]? = some (ad (8 + k), .inl (cI, 40, .inl (va k))) := match k, hk with
  | 0, _ => rfl
  | 1, _ => rfl
  | 2, _ => rfl
theorem xw_mk {k : Nat} (hk : k < 3) : (xw ad cI cJ cII cJJ S C n va mk ct ps kn cx)[11 + k]? = some (ad (11 + k), .inl (cI, 40, .inl (fun w => nI (mk k w)))) := match k, hk with
  | 0, _ => rfl
  | 1, _ => rfl
  | 2, _ => rfl
theorem xw_ct {k : Nat} (hk : k < 3) : (xw ad cI cJ cII cJJ S C n va mk ct ps kn cx)[14 + k]? = some (ad (14 + k), .inl (cI, 40, .inl (fun w => nI (ct k w)))) := match k, hk with
  | 0, _ => rfl
  | 1, _ => rfl
  | 2, _ => rfl
theorem xw_ps {k : Nat} (hk : k < 3) : (xw ad cI cJ cII cJJ S C n va mk ct ps kn cx)[17 + k]? = some (ad (17 + k), .inl (cJ, 40, .inr (.inl (fun w => lN (ps k w))))) := match k, hk with
  | 0, _ => rfl
  | 1, _ => rfl
  | 2, _ => rfl
theorem xw_kn {k : Nat} (hk : k < 3) : (xw ad cI cJ cII cJJ S C n va mk ct ps kn cx)[20 + k]? = some (ad (20 + k), .inl (cJ, S, .inr (.inl (fun w => lN (kn k w))))) := match k, hk with
  | 0, _ => rfl
  | 1, _ => rfl
  | 2, _ => rfl
theorem xw_cx {k : Nat} (hk : k < 3) : (xw ad cI cJ cII cJJ S C n va mk ct ps kn cx)[23 + k]? = some (ad (23 + k), .inl (cJ, C, .inr (.inl (fun w => lN (cx k w))))) := match k, hk with
  | 0, _ => rfl
  | 1, _ => rfl
  | 2, _ => rfl
theorem xs_n {k : Nat} (hk : k < 3) (v : Nat) : (xw ad cI cJ cII cJJ S C n va mk ct ps kn cx).set 1 (ad 1, .inl (cI, 3, .inl (upd (fun k => nI (n k)) k (nI v)))) = xw ad cI cJ cII cJJ S C (zu n k v) va mk ct ps kn cx := by
  rw [zupN]
  rfl
theorem xs_va {k : Nat} (hk : k < 3) (j : Nat) (v : Int32) : (xw ad cI cJ cII cJJ S C n va mk ct ps kn cx).set (8 + k) (ad (8 + k), .inl (cI, 40, .inl (upd (va k) j v))) = xw ad cI cJ cII cJJ S C n (zV va k j v) mk ct ps kn cx := match k, hk with
  | 0, _ => rfl
  | 1, _ => rfl
  | 2, _ => rfl
theorem xs_mk {k : Nat} (hk : k < 3) (j v : Nat) : (xw ad cI cJ cII cJJ S C n va mk ct ps kn cx).set (11 + k) (ad (11 + k), .inl (cI, 40, .inl (upd (fun w => nI (mk k w)) j (nI v)))) = xw ad cI cJ cII cJJ S C n va (zU mk k j v) ct ps kn cx := by
  rw [zupN]
  exact match k, hk with
  | 0, _ => rfl
  | 1, _ => rfl
  | 2, _ => rfl
theorem xs_ct {k : Nat} (hk : k < 3) (j v : Nat) : (xw ad cI cJ cII cJJ S C n va mk ct ps kn cx).set (14 + k) (ad (14 + k), .inl (cI, 40, .inl (upd (fun w => nI (ct k w)) j (nI v)))) = xw ad cI cJ cII cJJ S C n va mk (zU ct k j v) ps kn cx := by
  rw [zupN]
  exact match k, hk with
  | 0, _ => rfl
  | 1, _ => rfl
  | 2, _ => rfl
theorem xs_ps {k : Nat} (hk : k < 3) (j v : Nat) : (xw ad cI cJ cII cJJ S C n va mk ct ps kn cx).set (17 + k) (ad (17 + k), .inl (cJ, 40, .inr (.inl (vp_updL (fun w => lN (ps k w)) j (lN v))))) = xw ad cI cJ cII cJJ S C n va mk ct (zU ps k j v) kn cx := by
  rw [zupL]
  exact match k, hk with
  | 0, _ => rfl
  | 1, _ => rfl
  | 2, _ => rfl
theorem xs_kn {k : Nat} (hk : k < 3) (j v : Nat) : (xw ad cI cJ cII cJJ S C n va mk ct ps kn cx).set (20 + k) (ad (20 + k), .inl (cJ, S, .inr (.inl (vp_updL (fun w => lN (kn k w)) j (lN v))))) = xw ad cI cJ cII cJJ S C n va mk ct ps (zU kn k j v) cx := by
  rw [zupL]
  exact match k, hk with
  | 0, _ => rfl
  | 1, _ => rfl
  | 2, _ => rfl
theorem xs_cx {k : Nat} (hk : k < 3) (j v : Nat) : (xw ad cI cJ cII cJJ S C n va mk ct ps kn cx).set (23 + k) (ad (23 + k), .inl (cJ, C, .inr (.inl (vp_updL (fun w => lN (cx k w)) j (lN v))))) = xw ad cI cJ cII cJJ S C n va mk ct ps kn (zU cx k j v) := by
  rw [zupL]
  exact match k, hk with
  | 0, _ => rfl
  | 1, _ => rfl
  | 2, _ => rfl
end XW
/-- a reading method's start -/
def xB (dC : Nat → ClassId) (dI : Nat → Nat → Nat) (ad : Nat → Nat) (cI cJ cII cJJ : ClassId) (S C : Nat) (n : Nat → Nat) (va : Nat → Nat → Int32) (mk ct ps kn cx : Nat → Nat → Nat) (U : State) : Prop := va_P (dC, dI) vwCl (xw ad cI cJ cII cJJ S C n va mk ct ps kn cx) U.heap ∧ va_K (dC, dI) vwCl (zT cI cJ cII cJJ) U
/-! the reference's cells -/
def mw (ad : Nat → Nat) (cI cJ : ClassId) (S C : Nat) (n : Nat → Nat) (va : Nat → Nat → Int32) (mk ct ps kn cx rd : Nat → Nat → Nat) : va_W :=
  [(ad 0, .inr (1, [.int (nI S), .int (nI C), .ref (ad 1), .ref (ad 2), .ref (ad 3), .ref (ad 4), .ref (ad 5), .ref (ad 6), .ref (ad 7), .ref (ad 8)])),
   (ad 1, .inl (cI, 3, .inl (fun k => nI (n k)))),
   (ad 2, .inl (cI, 120, .inl (fun j => va (j / 40) (j % 40)))),
   (ad 3, .inl (cI, 120, .inl (fun j => nI (mk (j / 40) (j % 40))))),
   (ad 4, .inl (cI, 120, .inl (fun j => nI (ct (j / 40) (j % 40))))),
   (ad 5, .inl (cJ, 120, .inr (.inl (fun j => lN (ps (j / 40) (j % 40)))))),
   (ad 6, .inl (cJ, 12, .inr (.inl (fun j => lN (kn (j % 3) (j / 3)))))),
   (ad 7, .inl (cJ, 12, .inr (.inl (fun j => lN (cx (j % 3) (j / 3)))))),
   (ad 8, .inl (cJ, 12, .inr (.inl (fun j => lN (rd (j % 3) (j / 3))))))]
theorem z40d {k w : Nat} (hw : w < 40) : (40 * k + w) / 40 = k ∧ (40 * k + w) % 40 = w := by omega
theorem z3d {k s : Nat} (hk : k < 3) : (3 * s + k) / 3 = s ∧ (3 * s + k) % 3 = k := by omega
theorem zf40 {α : Type} (f : Nat → Nat → α) {k w : Nat} (hw : w < 40) : f ((40 * k + w) / 40) ((40 * k + w) % 40) = f k w := by rw [(z40d hw).1, (z40d hw).2]
theorem zf3 {α : Type} (f : Nat → Nat → α) {k s : Nat} (hk : k < 3) : f ((3 * s + k) % 3) ((3 * s + k) / 3) = f k s := by rw [(z3d hk).1, (z3d hk).2]
theorem zs40v (f : Nat → Nat → Int32) {k w : Nat} (hw : w < 40) (v : Int32) : upd (fun j => f (j / 40) (j % 40)) (40 * k + w) v = fun j => zV f k w v (j / 40) (j % 40) := by
  funext j
  unfold upd zV
  by_cases h : j = 40 * k + w
  · subst h
    rw [if_pos rfl, (z40d hw).1, (z40d hw).2, if_pos rfl]
    simp [upd]
  · rw [if_neg h]
    by_cases h1 : j / 40 = k
    · rw [if_pos h1]
      simp only [upd]
      rw [if_neg (by omega)]
    · rw [if_neg h1]
theorem zs40n (f : Nat → Nat → Nat) {k w : Nat} (hw : w < 40) (v : Nat) : upd (fun j => nI (f (j / 40) (j % 40))) (40 * k + w) (nI v) = fun j => nI (zU f k w v (j / 40) (j % 40)) := by
  funext j
  unfold upd zU
  by_cases h : j = 40 * k + w
  · subst h
    rw [if_pos rfl, (z40d hw).1, (z40d hw).2, if_pos rfl]
    simp [zu]
  · rw [if_neg h]
    by_cases h1 : j / 40 = k
    · rw [if_pos h1]
      simp only [zu]
      rw [if_neg (by omega)]
    · rw [if_neg h1]
theorem zs40l (f : Nat → Nat → Nat) {k w : Nat} (hw : w < 40) (v : Nat) : vp_updL (fun j => lN (f (j / 40) (j % 40))) (40 * k + w) (lN v) = fun j => lN (zU f k w v (j / 40) (j % 40)) := by
  funext j
  unfold vp_updL zU
  by_cases h : j = 40 * k + w
  · subst h
    rw [if_pos rfl, (z40d hw).1, (z40d hw).2, if_pos rfl]
    simp [zu]
  · rw [if_neg h]
    by_cases h1 : j / 40 = k
    · rw [if_pos h1]
      simp only [zu]
      rw [if_neg (by omega)]
    · rw [if_neg h1]
theorem zs3l (f : Nat → Nat → Nat) {k s : Nat} (hk : k < 3) (v : Nat) : vp_updL (fun j => lN (f (j % 3) (j / 3))) (3 * s + k) (lN v) = fun j => lN (zU f k s v (j % 3) (j / 3)) := by
  funext j
  unfold vp_updL zU
  by_cases h : j = 3 * s + k
  · subst h
    rw [if_pos rfl, (z3d hk).1, (z3d hk).2, if_pos rfl]
    simp [zu]
  · rw [if_neg h]
    by_cases h1 : j % 3 = k
    · rw [if_pos h1]
      simp only [zu]
      rw [if_neg (by omega)]
    · rw [if_neg h1]
section MW
variable {ad : Nat → Nat} {cI cJ : ClassId} {S C : Nat} {n : Nat → Nat} {va : Nat → Nat → Int32} {mk ct ps kn cx rd : Nat → Nat → Nat}
theorem ms_n (k v : Nat) : (mw ad cI cJ S C n va mk ct ps kn cx rd).set 1 (ad 1, .inl (cI, 3, .inl (upd (fun k => nI (n k)) k (nI v)))) = mw ad cI cJ S C (zu n k v) va mk ct ps kn cx rd := by
  rw [zupN]
  rfl
theorem ms_va {k w : Nat} (hw : w < 40) (v : Int32) : (mw ad cI cJ S C n va mk ct ps kn cx rd).set 2 (ad 2, .inl (cI, 120, .inl (upd (fun j => va (j / 40) (j % 40)) (40 * k + w) v))) = mw ad cI cJ S C n (zV va k w v) mk ct ps kn cx rd := by
  rw [zs40v va hw]
  rfl
theorem ms_mk {k w : Nat} (hw : w < 40) (v : Nat) : (mw ad cI cJ S C n va mk ct ps kn cx rd).set 3 (ad 3, .inl (cI, 120, .inl (upd (fun j => nI (mk (j / 40) (j % 40))) (40 * k + w) (nI v)))) = mw ad cI cJ S C n va (zU mk k w v) ct ps kn cx rd := by
  rw [zs40n mk hw]
  rfl
theorem ms_ct {k w : Nat} (hw : w < 40) (v : Nat) : (mw ad cI cJ S C n va mk ct ps kn cx rd).set 4 (ad 4, .inl (cI, 120, .inl (upd (fun j => nI (ct (j / 40) (j % 40))) (40 * k + w) (nI v)))) = mw ad cI cJ S C n va mk (zU ct k w v) ps kn cx rd := by
  rw [zs40n ct hw]
  rfl
theorem ms_ps {k w : Nat} (hw : w < 40) (v : Nat) : (mw ad cI cJ S C n va mk ct ps kn cx rd).set 5 (ad 5, .inl (cJ, 120, .inr (.inl (vp_updL (fun j => lN (ps (j / 40) (j % 40))) (40 * k + w) (lN v))))) = mw ad cI cJ S C n va mk ct (zU ps k w v) kn cx rd := by
  rw [zs40l ps hw]
  rfl
theorem ms_kn {k s : Nat} (hk : k < 3) (v : Nat) : (mw ad cI cJ S C n va mk ct ps kn cx rd).set 6 (ad 6, .inl (cJ, 12, .inr (.inl (vp_updL (fun j => lN (kn (j % 3) (j / 3))) (3 * s + k) (lN v))))) = mw ad cI cJ S C n va mk ct ps (zU kn k s v) cx rd := by
  rw [zs3l kn hk]
  rfl
theorem ms_cx {k s : Nat} (hk : k < 3) (v : Nat) : (mw ad cI cJ S C n va mk ct ps kn cx rd).set 7 (ad 7, .inl (cJ, 12, .inr (.inl (vp_updL (fun j => lN (cx (j % 3) (j / 3))) (3 * s + k) (lN v))))) = mw ad cI cJ S C n va mk ct ps kn (zU cx k s v) rd := by
  rw [zs3l cx hk]
  rfl
theorem ms_rd {k s : Nat} (hk : k < 3) (v : Nat) : (mw ad cI cJ S C n va mk ct ps kn cx rd).set 8 (ad 8, .inl (cJ, 12, .inr (.inl (vp_updL (fun j => lN (rd (j % 3) (j / 3))) (3 * s + k) (lN v))))) = mw ad cI cJ S C n va mk ct ps kn cx (zU rd k s v) := by
  rw [zs3l rd hk]
  rfl
end MW
def mB (dC : Nat → ClassId) (dI : Nat → Nat → Nat) (ad : Nat → Nat) (cI cJ : ClassId) (S C : Nat) (n : Nat → Nat) (va : Nat → Nat → Int32) (mk ct ps kn cx rd : Nat → Nat → Nat) (U : State) : Prop := va_P (dC, dI) vwCl (mw ad cI cJ S C n va mk ct ps kn cx rd) U.heap ∧ va_K (dC, dI) vwCl [(cI, .int), (cJ, .long)] U
theorem xB_blind {av : List Value} {dC : Nat → ClassId} {dI : Nat → Nat → Nat} {ad : Nat → Nat} {cI cJ cII cJJ : ClassId} {S C : Nat} {n : Nat → Nat} {va : Nat → Nat → Int32} {mk ct ps kn cx : Nat → Nat → Nat} : FrameBlind (va_Pc av (xB dC dI ad cI cJ cII cJJ S C n va mk ct ps kn cx)) := fun a U g k q => by
  obtain ⟨q0, qP, qK⟩ := q
  exact ⟨q0, qP, va_K.moved (u := U) (U := U.calling g k a) (Vm.Alike.refl U.vm) qK⟩
theorem mB_blind {av : List Value} {dC : Nat → ClassId} {dI : Nat → Nat → Nat} {ad : Nat → Nat} {cI cJ : ClassId} {S C : Nat} {n : Nat → Nat} {va : Nat → Nat → Int32} {mk ct ps kn cx rd : Nat → Nat → Nat} : FrameBlind (va_Pc av (mB dC dI ad cI cJ S C n va mk ct ps kn cx rd)) := fun a U g k q => by
  obtain ⟨q0, qP, qK⟩ := q
  exact ⟨q0, qP, va_K.moved (u := U) (U := U.calling g k a) (Vm.Alike.refl U.vm) qK⟩
theorem zB_blind {av : List Value} : FrameBlind (va_Pc av (fun _ => True)) := fun _ _ _ _ q => q
theorem xB_at {dC : Nat → ClassId} {dI : Nat → Nat → Nat} {ad : Nat → Nat} {cI cJ cII cJJ : ClassId} {S C : Nat} {n : Nat → Nat} {va : Nat → Nat → Int32} {mk ct ps kn cx : Nat → Nat → Nat} {s U : State} {H : Heap} (hP : va_P (dC, dI) vwCl (xw ad cI cJ cII cJJ S C n va mk ct ps kn cx) H) (hK : va_K (dC, dI) vwCl (zT cI cJ cII cJJ) s) (hU : U.heap = H) (hW : s.WarmedH U.vm) : xB dC dI ad cI cJ cII cJJ S C n va mk ct ps kn cx U := ⟨by rw [hU]; exact hP, va_K.moved hW.alike hK⟩
theorem mB_at {dC : Nat → ClassId} {dI : Nat → Nat → Nat} {ad : Nat → Nat} {cI cJ : ClassId} {S C : Nat} {n : Nat → Nat} {va : Nat → Nat → Int32} {mk ct ps kn cx rd : Nat → Nat → Nat} {s U : State} {H : Heap} (hP : va_P (dC, dI) vwCl (mw ad cI cJ S C n va mk ct ps kn cx rd) H) (hK : va_K (dC, dI) vwCl [(cI, .int), (cJ, .long)] s) (hU : U.heap = H) (hW : s.WarmedH U.vm) : mB dC dI ad cI cJ S C n va mk ct ps kn cx rd U := ⟨by rw [hU]; exact hP, va_K.moved hW.alike hK⟩
end
section
theorem zRep_t {ps : Nat → Nat} {set i : Nat} (h : set.testBit i = true) : zRep ps set (i + 1) = zRep ps set i ||| ps i := by
  show (if set.testBit i then _ else _) = _
  rw [h]
  rfl
theorem zRep_f {ps : Nat → Nat} {set i : Nat} (h : set.testBit i = false) : zRep ps set (i + 1) = zRep ps set i := by
  show (if set.testBit i then _ else _) = _
  rw [h]
  rfl
theorem zNew_l (set r : Nat) : lN set &&& (lN r ^^^ (-1)) = lN (set &&& (r ^^^ 18446744073709551615)) := by
  show lN set &&& (lN r ^^^ lN 18446744073709551615) = _
  rw [zb_xor, zb_and]
theorem zNew_le (n : Nat) (ps : Nat → Nat) (set : Nat) : zNew n ps set ≤ set := Nat.and_le_left
theorem zIn_hit {hit : Nat → Bool} {i : Int32} {n w seen : Nat} (hw : w < n) (h : hit w = true) (hs : nI seen = i) : zIn hit i (n - w) w seen = .inl w := by
  obtain ⟨d, hd⟩ : ∃ d, n - w = d + 1 := ⟨n - w - 1, by omega⟩
  rw [hd]
  show (if hit w then (if nI seen = i then _ else _) else _) = _
  rw [h, if_pos rfl, if_pos hs]
theorem zIn_go {hit : Nat → Bool} {i : Int32} {n w seen : Nat} (hw : w < n) (h : hit w = true) (hs : ¬ nI seen = i) : zIn hit i (n - w) w seen = zIn hit i (n - (w + 1)) (w + 1) (seen + 1) := by
  obtain ⟨d, hd⟩ : ∃ d, n - w = d + 1 := ⟨n - w - 1, by omega⟩
  rw [hd, show n - (w + 1) = d by omega]
  show (if hit w then (if nI seen = i then _ else _) else _) = _
  rw [h, if_pos rfl, if_neg hs]
theorem zIn_skip {hit : Nat → Bool} {i : Int32} {n w seen : Nat} (hw : w < n) (h : hit w = false) : zIn hit i (n - w) w seen = zIn hit i (n - (w + 1)) (w + 1) seen := by
  obtain ⟨d, hd⟩ : ∃ d, n - w = d + 1 := ⟨n - w - 1, by omega⟩
  rw [hd, show n - (w + 1) = d by omega]
  show (if hit w then _ else _) = _
  rw [h]
  rfl
theorem zOut_found {hit : Nat → Nat → Bool} {n S s seen w : Nat} {i : Int32} (hs : s < S) (h : zIn (hit s) i n 0 seen = .inl w) : zOut hit n i (S - s) s seen = some w := by
  obtain ⟨d, hd⟩ : ∃ d, S - s = d + 1 := ⟨S - s - 1, by omega⟩
  rw [hd]
  show (match zIn (hit s) i n 0 seen with | .inl w => some w | .inr seen' => zOut hit n i d (s + 1) seen') = _
  rw [h]
theorem zOut_next {hit : Nat → Nat → Bool} {n S s seen seen' : Nat} {i : Int32} (hs : s < S) (h : zIn (hit s) i n 0 seen = .inr seen') : zOut hit n i (S - s) s seen = zOut hit n i (S - (s + 1)) (s + 1) seen' := by
  obtain ⟨d, hd⟩ : ∃ d, S - s = d + 1 := ⟨S - s - 1, by omega⟩
  rw [hd, show S - (s + 1) = d by omega]
  show (match zIn (hit s) i n 0 seen with | .inl w => some w | .inr seen' => zOut hit n i d (s + 1) seen') = _
  rw [h]
theorem zHit_t {mk : Nat → Nat} {set s w : Nat} (h1 : mk w = s) (h2 : set.testBit w = true) : zHit mk set s w = true := by simp [zHit, h1, h2]
theorem zHit_n {mk : Nat → Nat} {set s w : Nat} (h1 : ¬ mk w = s) : zHit mk set s w = false := by simp [zHit, h1]
theorem zHit_b {mk : Nat → Nat} {set s w : Nat} (h2 : set.testBit w = false) : zHit mk set s w = false := by simp [zHit, h2]
theorem zVec_t {ct : Nat → Nat} {hit : Nat → Bool} {i : Nat} (h : hit i = true) : zVec ct hit (i + 1) = if zVec ct hit i < ct i then ct i else zVec ct hit i := by
  show (if hit i then _ else _) = _
  rw [h]
  rfl
theorem zVec_f {ct : Nat → Nat} {hit : Nat → Bool} {i : Nat} (h : hit i = false) : zVec ct hit (i + 1) = zVec ct hit i := by
  show (if hit i then _ else _) = _
  rw [h]
  rfl
theorem zmaxI {a b : Nat} (ha : a < 2 ^ 31) (hb : b < 2 ^ 31) : (if nI a < nI b then nI b else nI a) = nI (if a < b then b else a) := by
  by_cases h : a < b
  · rw [if_pos h, if_pos ((nI_ltI ha hb).mpr h)]
  · rw [if_neg h, if_neg (fun q => h ((nI_ltI ha hb).mp q))]
theorem zsw {x : Int32} (h0 : ¬ x = 0) (h1 : ¬ x = 1) (h2 : ¬ x = 2) (h3 : ¬ x = 3) : x.toInt < 0 ∨ 3 < x.toInt := by
  have a0 : ¬ x.toInt = 0 := fun q => h0 (Int32.toInt_inj.mp q)
  have a1 : ¬ x.toInt = 1 := fun q => h1 (Int32.toInt_inj.mp q)
  have a2 : ¬ x.toInt = 2 := fun q => h2 (Int32.toInt_inj.mp q)
  have a3 : ¬ x.toInt = 3 := fun q => h3 (Int32.toInt_inj.mp q)
  omega
theorem zSize64 {x : Nat} (h : x < 2 ^ 40) : cn (fun i => x.testBit i) 64 = zSize x :=
  cn_tail (by decide) (fun i h1 _ => Nat.testBit_lt_two_pow (Nat.lt_of_lt_of_le h (Nat.pow_le_pow_right (by decide) h1)))
theorem bc_bounds {x : Nat} (h : x < 2 ^ 64) : bc_a x < 2 ^ 64 ∧ bc_b x < 2 ^ 64 ∧ bc_b x + bc_b x / 16 < 2 ^ 64 := by
  obtain ⟨a1, a2, a3, -⟩ := bc_steps h
  have hl := bc_dl_lt 8 x
  have b1 : bc_a x < 2 ^ 64 := by
    unfold bc_a
    omega
  have k2 : ∀ b, b < 256 → bc_s2 (bc_s1 b) ≤ 128 := by decide +kernel
  have b2 : bc_b x < 2 ^ 64 := by
    rw [a3]
    exact bc_lt8 (by rw [List.length_map, bc_dl_len]) (fun b hb => by
      obtain ⟨c, hc, rfl⟩ := List.mem_map.mp hb
      exact (bc_b2 c (hl c hc)).1)
  refine ⟨b1, b2, ?_⟩
  have : bc_b x < 2 ^ 63 + 2 ^ 62 := by
    rw [a3]
    generalize hq : bc_dl 8 x = q at hl
    have hlen : q.length = 8 := by rw [← hq, bc_dl_len]
    match q, hlen with
    | [b0, b1, b2, b3, b4, b5, b6, b7], _ =>
      have q7 := k2 b7 (hl b7 (by simp))
      have r : bc_ev ([b0, b1, b2, b3, b4, b5, b6].map (fun b => bc_s2 (bc_s1 b))) < 256 ^ 7 := bc_lt _ (fun b hb => by
        obtain ⟨c, hc, rfl⟩ := List.mem_map.mp hb
        exact (bc_b2 c (hl c (by simp only [List.mem_cons, List.not_mem_nil, or_false] at hc ⊢; omega))).1)
      simp only [List.map_cons, List.map_nil, bc_ev] at r ⊢
      omega
  omega
/-- what the methods answer -/
def zO (o : Option Nat) (f : Nat → Int64) : Int64 := match o with
  | none => -9223372036854775808
  | some w => f w
def aGet (S C : Nat) (n : Nat → Nat) (ps kn : Nat → Nat → Nat) (x1 x2 x3 : Int32) : Int32 := zq3 (zD S x1) (zD C x2) (zD 3 x3) (-1) (fun s _ k => nI (zSize (zNew (n k) (ps k) (kn k s))))
def uGet (S C : Nat) (kn cx : Nat → Nat → Nat) (x1 x2 x3 : Int32) : Nat → Nat → Nat := zq3 (zD S x1) (zD C x2) (zD 3 x3) cx (fun s c k => zU cx k c (kn k s))
def vGet (S C : Nat) (n : Nat → Nat) (ps kn rd : Nat → Nat → Nat) (x1 x2 x3 : Int32) : Nat → Nat → Nat := zq3 (zD S x1) (zD C x2) (zD 3 x3) rd (fun s c k => zU rd k c (zNew (n k) (ps k) (kn k s)))
def aRead (S C : Nat) (n : Nat → Nat) (va : Nat → Nat → Int32) (mk ps cx : Nat → Nat → Nat) (x1 x2 x3 : Int32) : Int64 := zq2 (zD C x1) (zD 3 x2) (-9223372036854775808) (fun c k => zO (zAt S (n k) (mk k) (zNew (n k) (ps k) (cx k c)) x3) (fun w => (va k w).toInt64))
def aRead2 (S C : Nat) (n : Nat → Nat) (va : Nat → Nat → Int32) (mk rd : Nat → Nat → Nat) (x1 x2 x3 : Int32) : Int64 := zq2 (zD C x1) (zD 3 x2) (-9223372036854775808) (fun c k => zO (zAt S (n k) (mk k) (rd k c) x3) (fun w => (va k w).toInt64))
def aPut (S C : Nat) (n : Nat → Nat) (x1 x2 x3 : Int32) : Int32 := zq3 (zD S x1) (zD C x2) (zD 3 x3) (-1) (fun _ _ k => if n k < 40 then nI (n k) else -1)
abbrev zPT : Type := (Nat → Nat) × (Nat → Nat → Int32) × (Nat → Nat → Nat) × (Nat → Nat → Nat) × (Nat → Nat → Nat) × (Nat → Nat → Nat)
def uPut (S C : Nat) (n : Nat → Nat) (va : Nat → Nat → Int32) (mk ct ps kn cx : Nat → Nat → Nat) (x1 x2 x3 x4 : Int32) : zPT := zq3 (zD S x1) (zD C x2) (zD 3 x3) (n, va, mk, ct, ps, kn) (fun s c k => if n k < 40 then
  (zu n k (n k + 1), zV va k (n k) x4, zU mk k (n k) s, zU ct k (n k) (1 + cn (fun v => decide (mk k v = s)) (n k)), zU ps k (n k) (cx k c), zU kn k s (kn k s ||| (cx k c ||| 1 * 2 ^ n k))) else (n, va, mk, ct, ps, kn))
def aSync (S : Nat) (x1 x2 x3 : Int32) : Int32 := zq3 (zD S x1) (zD S x2) (zD 3 x3) 0 (fun a b _ => if a = b then 0 else 1)
def uSync (S : Nat) (kn : Nat → Nat → Nat) (x1 x2 x3 : Int32) : Nat → Nat → Nat := zq3 (zD S x1) (zD S x2) (zD 3 x3) kn (fun a b k => if a = b then kn else zU (zU kn k a (kn k a ||| kn k b)) k b (kn k a ||| kn k b))
def aForget (C : Nat) (x1 x2 : Int32) : Int32 := zq2 (zD C x1) (zD 3 x2) 0 (fun _ _ => 1)
def uForget (C : Nat) (cx : Nat → Nat → Nat) (x1 x2 : Int32) : Nat → Nat → Nat := zq2 (zD C x1) (zD 3 x2) cx (fun c k => zU cx k c 0)
def aSibs (S : Nat) (n : Nat → Nat) (ps kn : Nat → Nat → Nat) (x1 x2 : Int32) : Int32 := zq2 (zD S x1) (zD 3 x2) (-1) (fun s k => nI (zSize (zNew (n k) (ps k) (kn k s))))
def aSib (S : Nat) (n : Nat → Nat) (va : Nat → Nat → Int32) (mk ct ps kn : Nat → Nat → Nat) (x1 x2 x3 x4 : Int32) : Int64 := zq2 (zD S x1) (zD 3 x2) (-9223372036854775808) (fun s k => zO (zAt S (n k) (mk k) (zNew (n k) (ps k) (kn k s)) x3) (fun w => zDet x4 (va k w) (mk k w) (ct k w) w))
def aKnown (S : Nat) (n : Nat → Nat) (mk ct kn : Nat → Nat → Nat) (x1 x2 x3 : Int32) : Int32 := zq3 (zD S x1) (zD 3 x2) (zD S x3) (-1) (fun s k o => nI (zVec (ct k) (zHit (mk k) (kn k s) o) (n k)))
def aCtx (S C : Nat) (n : Nat → Nat) (mk ct cx : Nat → Nat → Nat) (x1 x2 x3 : Int32) : Int32 := zq3 (zD C x1) (zD 3 x2) (zD S x3) (-1) (fun c k o => nI (zVec (ct k) (zHit (mk k) (cx k c) o) (n k)))
def zB01 (b : Bool) : Int32 := if b then 1 else 0
def aSees (C : Nat) (n : Nat → Nat) (cx : Nat → Nat → Nat) (x1 x2 x3 : Int32) : Int32 := zq2 (zD C x1) (zD 3 x2) 0 (fun c k => match zD (n k) x3 with
  | none => 0
  | some w => zB01 ((cx k c).testBit w))
def aSame (S : Nat) (kn : Nat → Nat → Nat) (x1 x2 x3 : Int32) : Int32 := zq3 (zD S x1) (zD S x2) (zD 3 x3) 0 (fun a b k => if kn k a = kn k b then 1 else 0)
def aWeight (S : Nat) (n : Nat → Nat) (mk ct ps kn : Nat → Nat → Nat) (x1 x2 : Int32) : Int32 := zq2 (zD S x1) (zD 3 x2) (-1) (fun s k => nI (cn (fun o => decide (0 < zVec (ct k) (zHit (mk k) (kn k s) o) (n k))) S + zSize (zNew (n k) (ps k) (kn k s))))
theorem cn_t {f : Nat → Bool} {i : Nat} (h : f i = true) : cn f (i + 1) = cn f i + 1 := by
  show cn f i + (if f i then 1 else 0) = _
  rw [h]
  rfl
theorem cn_f {f : Nat → Bool} {i : Nat} (h : f i = false) : cn f (i + 1) = cn f i := by
  show cn f i + (if f i then 1 else 0) = _
  rw [h]
  rfl
end
section
set_option maxHeartbeats 4000000 in
set_option maxRecDepth 100000 in
/-- 1 .. 4, of another number 1 -/
theorem c_X0_allowedParties (l : Launch) (x : Int32) : Met l yX0_allowedParties wsX0_allowedParties ({ frames := 0, cells := 0, slots := 0, locals := 0 }) (va_Pc [.int x] (fun _ => True)) (vp_Si (fun r => r = nI (zP x))) 0 0 (fun _ => False) := by
  refine Met.ofW (cc := cX0_allowedParties) (maxL := 1) (ret := (some .int)) (by decide) rfl ?_
  intro p e s m args below meth c s₁ B hml hv
  obtain ⟨rfl, -⟩ := hv
  have hx := B.exec
  have hb := B.bytes
  have hr := B.returns
  have hts := atoms_spec (ws := wsX0_allowedParties) B.pre
  have hown : s.vm.findClass RX0 = some m.cls := findClass_of_methodNamed B.named
  have hlocks := B.notSynchronized
  have hl := lv_entry ([.int x]) (n := 1) (Nat.le_of_ble_eq_true rfl)
  rw [lg_entry_eq]
  generalize (lg_sl ([.int x]) ++ List.replicate (1 - (lg_sl ([.int x])).length) Slot.unset).toArray = ls at hl ⊢
  have hl : lv_has ls 1 [(0, .int x)] := hl
  refine lv_iload_n hx hb dX0_allowedParties_0 rfl (lv_at hl 0 rfl) ?_
  refine lv_iconst (v := nI 1) hx hb dX0_allowedParties_1 (by decide) ?_
  refine lv_icmp_lt (tgt := 14) hx hb dX0_allowedParties_2 (by decide) (fun c2 => ?_) (fun c2 => ?_)
  ·
    refine lv_iconst (v := nI 1) hx hb dX0_allowedParties_14 (by decide) ?_
    exact W.iret (v := nI 1) hx hb hr (fun t ht hW => ⟨_, rfl, (by first | exact zP_ok c2 c7 | exact (congrArg nI (zP_lo c2)).symm | exact (congrArg nI (zP_hi c7)).symm), ht⟩) (fun q h => by cases h) dX0_allowedParties_15
  ·
    refine lv_iload_n hx hb dX0_allowedParties_5 rfl (lv_at hl 0 rfl) ?_
    refine lv_iconst (v := nI 4) hx hb dX0_allowedParties_6 (by decide) ?_
    refine lv_icmp_gt (tgt := 14) hx hb dX0_allowedParties_7 (by decide) (fun c7 => ?_) (fun c7 => ?_)
    ·
      refine lv_iconst (v := nI 1) hx hb dX0_allowedParties_14 (by decide) ?_
      exact W.iret (v := nI 1) hx hb hr (fun t ht hW => ⟨_, rfl, (by first | exact zP_ok c2 c7 | exact (congrArg nI (zP_lo c2)).symm | exact (congrArg nI (zP_hi c7)).symm), ht⟩) (fun q h => by cases h) dX0_allowedParties_15
    ·
      refine lv_iload_n hx hb dX0_allowedParties_10 rfl (lv_at hl 0 rfl) ?_
      refine lv_goto (tgt := 15) hx hb dX0_allowedParties_11 (by decide) ?_
      exact W.iret (v := x) hx hb hr (fun t ht hW => ⟨_, rfl, (by first | exact zP_ok c2 c7 | exact (congrArg nI (zP_lo c2)).symm | exact (congrArg nI (zP_hi c7)).symm), ht⟩) (fun q h => by cases h) dX0_allowedParties_15
set_option maxHeartbeats 4000000 in
set_option maxRecDepth 100000 in
/-- is there such a one -/
theorem c_X0_isServer (l : Launch) (dC : Nat → ClassId) (dI : Nat → Nat → Nat) (ad : Nat → Nat) (cI cJ cII cJJ : ClassId) (S C : Nat) (n : Nat → Nat) (va : Nat → Nat → Int32) (mk ct ps kn cx : Nat → Nat → Nat) (hS : S ≤ 4) (x : Int32) : Met l yX0_isServer wsX0_isServer ({ frames := 0, cells := 0, slots := 0, locals := 0 }) (va_Pc [.ref (ad 0), .int x] (xB dC dI ad cI cJ cII cJJ S C n va mk ct ps kn cx)) (vp_Si (zIs S x)) 0 0 (fun _ => False) := by
  refine Met.ofW (cc := cX0_isServer) (maxL := 2) (ret := (some .boolean)) (by decide) rfl ?_
  intro p e s m args below meth c s₁ B hml hv
  obtain ⟨rfl, hP, hK⟩ := hv
  have hx := B.exec
  have hb := B.bytes
  have hr := B.returns
  have hts := atoms_spec (ws := wsX0_isServer) B.pre
  have hown : s.vm.findClass RX0 = some m.cls := findClass_of_methodNamed B.named
  have hlocks := B.notSynchronized
  have hin0 : ∀ w ∈ wsX00, w ∈ wsX0_isServer := fun _ h => List.mem_cons_of_mem _ (List.mem_append_right _ h)
  have hl := lv_entry ([.ref (ad 0), .int x]) (n := 2) (Nat.le_of_ble_eq_true rfl)
  rw [lg_entry_eq]
  generalize (lg_sl ([.ref (ad 0), .int x]) ++ List.replicate (2 - (lg_sl ([.ref (ad 0), .int x])).length) Slot.unset).toArray = ls at hl ⊢
  have hl : lv_has ls 2 [(0, .ref (ad 0)), (1, .int x)] := hl
  refine lv_iload_n hx hb dX0_isServer_0 rfl (lv_at hl 1 rfl) ?_
  refine lv_if_lt (tgt := 16) hx hb dX0_isServer_1 (by decide) (fun c1 => ?_) (fun c1 => ?_)
  ·
    refine lv_iconst (v := nI 0) hx hb dX0_isServer_16 (by decide) ?_
    exact W.zret (v := nI 0) hx hb hr (by first | rfl | decide) (fun t ht hW => ⟨_, rfl, (by first | exact Or.inl ⟨rfl, zD_in (by omega) c1 c9⟩ | exact Or.inr ⟨rfl, zD_neg c1⟩ | exact Or.inr ⟨rfl, zD_big (by omega) c9⟩), ht⟩) (fun q h => by cases h) dX0_isServer_17
  ·
    refine lv_iload_n hx hb dX0_isServer_4 rfl (lv_at hl 1 rfl) ?_
    refine lv_aload_n hx hb dX0_isServer_5 rfl (lv_at hl 0 rfl) ?_
    refine va_get (D := (dC, dI)) (ci := 0) (v := .int (nI S)) (C := RX0) (T := TX0) (N := 9) hx hb hts hin0 hown hK hP 0 rfl rfl 0 (by decide) (hts (.fieldLink RX0 15 "DottedSiblings" "servers" "I") (by decide +kernel)) (fun _ h9 => h9) rfl dX0_isServer_6 ?_
    refine lv_icmp_ge (tgt := 16) hx hb dX0_isServer_9 (by decide) (fun c9 => ?_) (fun c9 => ?_)
    ·
      refine lv_iconst (v := nI 0) hx hb dX0_isServer_16 (by decide) ?_
      exact W.zret (v := nI 0) hx hb hr (by first | rfl | decide) (fun t ht hW => ⟨_, rfl, (by first | exact Or.inl ⟨rfl, zD_in (by omega) c1 c9⟩ | exact Or.inr ⟨rfl, zD_neg c1⟩ | exact Or.inr ⟨rfl, zD_big (by omega) c9⟩), ht⟩) (fun q h => by cases h) dX0_isServer_17
    ·
      refine lv_iconst (v := nI 1) hx hb dX0_isServer_12 (by decide) ?_
      refine lv_goto (tgt := 17) hx hb dX0_isServer_13 (by decide) ?_
      exact W.zret (v := nI 1) hx hb hr (by first | rfl | decide) (fun t ht hW => ⟨_, rfl, (by first | exact Or.inl ⟨rfl, zD_in (by omega) c1 c9⟩ | exact Or.inr ⟨rfl, zD_neg c1⟩ | exact Or.inr ⟨rfl, zD_big (by omega) c9⟩), ht⟩) (fun q h => by cases h) dX0_isServer_17
set_option maxHeartbeats 4000000 in
set_option maxRecDepth 100000 in
/-- is there such a one -/
theorem c_X0_isClient (l : Launch) (dC : Nat → ClassId) (dI : Nat → Nat → Nat) (ad : Nat → Nat) (cI cJ cII cJJ : ClassId) (S C : Nat) (n : Nat → Nat) (va : Nat → Nat → Int32) (mk ct ps kn cx : Nat → Nat → Nat) (hC : C ≤ 4) (x : Int32) : Met l yX0_isClient wsX0_isClient ({ frames := 0, cells := 0, slots := 0, locals := 0 }) (va_Pc [.ref (ad 0), .int x] (xB dC dI ad cI cJ cII cJJ S C n va mk ct ps kn cx)) (vp_Si (zIs C x)) 0 0 (fun _ => False) := by
  refine Met.ofW (cc := cX0_isClient) (maxL := 2) (ret := (some .boolean)) (by decide) rfl ?_
  intro p e s m args below meth c s₁ B hml hv
  obtain ⟨rfl, hP, hK⟩ := hv
  have hx := B.exec
  have hb := B.bytes
  have hr := B.returns
  have hts := atoms_spec (ws := wsX0_isClient) B.pre
  have hown : s.vm.findClass RX0 = some m.cls := findClass_of_methodNamed B.named
  have hlocks := B.notSynchronized
  have hin0 : ∀ w ∈ wsX00, w ∈ wsX0_isClient := fun _ h => List.mem_cons_of_mem _ (List.mem_append_right _ h)
  have hl := lv_entry ([.ref (ad 0), .int x]) (n := 2) (Nat.le_of_ble_eq_true rfl)
  rw [lg_entry_eq]
  generalize (lg_sl ([.ref (ad 0), .int x]) ++ List.replicate (2 - (lg_sl ([.ref (ad 0), .int x])).length) Slot.unset).toArray = ls at hl ⊢
  have hl : lv_has ls 2 [(0, .ref (ad 0)), (1, .int x)] := hl
  refine lv_iload_n hx hb dX0_isClient_0 rfl (lv_at hl 1 rfl) ?_
  refine lv_if_lt (tgt := 16) hx hb dX0_isClient_1 (by decide) (fun c1 => ?_) (fun c1 => ?_)
  ·
    refine lv_iconst (v := nI 0) hx hb dX0_isClient_16 (by decide) ?_
    exact W.zret (v := nI 0) hx hb hr (by first | rfl | decide) (fun t ht hW => ⟨_, rfl, (by first | exact Or.inl ⟨rfl, zD_in (by omega) c1 c9⟩ | exact Or.inr ⟨rfl, zD_neg c1⟩ | exact Or.inr ⟨rfl, zD_big (by omega) c9⟩), ht⟩) (fun q h => by cases h) dX0_isClient_17
  ·
    refine lv_iload_n hx hb dX0_isClient_4 rfl (lv_at hl 1 rfl) ?_
    refine lv_aload_n hx hb dX0_isClient_5 rfl (lv_at hl 0 rfl) ?_
    refine va_get (D := (dC, dI)) (ci := 0) (v := .int (nI C)) (C := RX0) (T := TX0) (N := 9) hx hb hts hin0 hown hK hP 0 rfl rfl 1 (by decide) (hts (.fieldLink RX0 19 "DottedSiblings" "clients" "I") (by decide +kernel)) (fun _ h9 => h9) rfl dX0_isClient_6 ?_
    refine lv_icmp_ge (tgt := 16) hx hb dX0_isClient_9 (by decide) (fun c9 => ?_) (fun c9 => ?_)
    ·
      refine lv_iconst (v := nI 0) hx hb dX0_isClient_16 (by decide) ?_
      exact W.zret (v := nI 0) hx hb hr (by first | rfl | decide) (fun t ht hW => ⟨_, rfl, (by first | exact Or.inl ⟨rfl, zD_in (by omega) c1 c9⟩ | exact Or.inr ⟨rfl, zD_neg c1⟩ | exact Or.inr ⟨rfl, zD_big (by omega) c9⟩), ht⟩) (fun q h => by cases h) dX0_isClient_17
    ·
      refine lv_iconst (v := nI 1) hx hb dX0_isClient_12 (by decide) ?_
      refine lv_goto (tgt := 17) hx hb dX0_isClient_13 (by decide) ?_
      exact W.zret (v := nI 1) hx hb hr (by first | rfl | decide) (fun t ht hW => ⟨_, rfl, (by first | exact Or.inl ⟨rfl, zD_in (by omega) c1 c9⟩ | exact Or.inr ⟨rfl, zD_neg c1⟩ | exact Or.inr ⟨rfl, zD_big (by omega) c9⟩), ht⟩) (fun q h => by cases h) dX0_isClient_17
set_option maxHeartbeats 4000000 in
set_option maxRecDepth 100000 in
/-- is there such a key -/
theorem c_X0_isKey (l : Launch) (x : Int32) : Met l yX0_isKey wsX0_isKey ({ frames := 0, cells := 0, slots := 0, locals := 0 }) (va_Pc [.int x] (fun _ => True)) (vp_Si (zIs 3 x)) 0 0 (fun _ => False) := by
  refine Met.ofW (cc := cX0_isKey) (maxL := 1) (ret := (some .boolean)) (by decide) rfl ?_
  intro p e s m args below meth c s₁ B hml hv
  obtain ⟨rfl, -⟩ := hv
  have hx := B.exec
  have hb := B.bytes
  have hr := B.returns
  have hts := atoms_spec (ws := wsX0_isKey) B.pre
  have hown : s.vm.findClass RX0 = some m.cls := findClass_of_methodNamed B.named
  have hlocks := B.notSynchronized
  have hl := lv_entry ([.int x]) (n := 1) (Nat.le_of_ble_eq_true rfl)
  rw [lg_entry_eq]
  generalize (lg_sl ([.int x]) ++ List.replicate (1 - (lg_sl ([.int x])).length) Slot.unset).toArray = ls at hl ⊢
  have hl : lv_has ls 1 [(0, .int x)] := hl
  refine lv_iload_n hx hb dX0_isKey_0 rfl (lv_at hl 0 rfl) ?_
  refine lv_if_lt (tgt := 13) hx hb dX0_isKey_1 (by decide) (fun c1 => ?_) (fun c1 => ?_)
  ·
    refine lv_iconst (v := nI 0) hx hb dX0_isKey_13 (by decide) ?_
    exact W.zret (v := nI 0) hx hb hr (by first | rfl | decide) (fun t ht hW => ⟨_, rfl, (by first | exact Or.inl ⟨rfl, zD_in (by omega) c1 c6⟩ | exact Or.inr ⟨rfl, zD_neg c1⟩ | exact Or.inr ⟨rfl, zD_big (by omega) c6⟩), ht⟩) (fun q h => by cases h) dX0_isKey_14
  ·
    refine lv_iload_n hx hb dX0_isKey_4 rfl (lv_at hl 0 rfl) ?_
    refine lv_iconst (v := nI 3) hx hb dX0_isKey_5 (by decide) ?_
    refine lv_icmp_ge (tgt := 13) hx hb dX0_isKey_6 (by decide) (fun c6 => ?_) (fun c6 => ?_)
    ·
      refine lv_iconst (v := nI 0) hx hb dX0_isKey_13 (by decide) ?_
      exact W.zret (v := nI 0) hx hb hr (by first | rfl | decide) (fun t ht hW => ⟨_, rfl, (by first | exact Or.inl ⟨rfl, zD_in (by omega) c1 c6⟩ | exact Or.inr ⟨rfl, zD_neg c1⟩ | exact Or.inr ⟨rfl, zD_big (by omega) c6⟩), ht⟩) (fun q h => by cases h) dX0_isKey_14
    ·
      refine lv_iconst (v := nI 1) hx hb dX0_isKey_9 (by decide) ?_
      refine lv_goto (tgt := 14) hx hb dX0_isKey_10 (by decide) ?_
      exact W.zret (v := nI 1) hx hb hr (by first | rfl | decide) (fun t ht hW => ⟨_, rfl, (by first | exact Or.inl ⟨rfl, zD_in (by omega) c1 c6⟩ | exact Or.inr ⟨rfl, zD_neg c1⟩ | exact Or.inr ⟨rfl, zD_big (by omega) c6⟩), ht⟩) (fun q h => by cases h) dX0_isKey_14
set_option maxHeartbeats 4000000 in
set_option maxRecDepth 100000 in
/-- a bit of a set -/
theorem c_X0_has (l : Launch) (a w : Nat) (ha : a < 2 ^ 64) (hw : w < 64) : Met l yX0_has wsX0_has ({ frames := 0, cells := 0, slots := 0, locals := 0 }) (va_Pc [.long (lN a), .int (nI w)] (fun _ => True)) (vp_Si (fun r => (r = 1 ∧ a.testBit w = true) ∨ (r = 0 ∧ a.testBit w = false))) 0 0 (fun _ => False) := by
  refine Met.ofW (cc := cX0_has) (maxL := 3) (ret := (some .boolean)) (by decide) rfl ?_
  intro p e s m args below meth c s₁ B hml hv
  obtain ⟨rfl, -⟩ := hv
  have hx := B.exec
  have hb := B.bytes
  have hr := B.returns
  have hts := atoms_spec (ws := wsX0_has) B.pre
  have hown : s.vm.findClass RX0 = some m.cls := findClass_of_methodNamed B.named
  have hlocks := B.notSynchronized
  have hl := lv_entry ([.long (lN a), .int (nI w)]) (n := 3) (Nat.le_of_ble_eq_true rfl)
  rw [lg_entry_eq]
  generalize (lg_sl ([.long (lN a), .int (nI w)]) ++ List.replicate (3 - (lg_sl ([.long (lN a), .int (nI w)])).length) Slot.unset).toArray = ls at hl ⊢
  have hl : lv_has ls 3 [(0, .long (lN a)), (2, .int (nI w))] := hl
  refine lv_lload_n hx hb dX0_has_0 rfl (lv_at hl 0 rfl) ?_
  refine lv_iload_n hx hb dX0_has_1 rfl (lv_at hl 1 rfl) ?_
  refine zr_lushr hx hb ha hw dX0_has_2 ?_
  refine lv_lconst (v := lN 1) hx hb dX0_has_3 (by decide) ?_
  refine zr_land1 hx hb dX0_has_4 ?_
  refine lv_lconst (v := lN 0) hx hb dX0_has_5 (by decide) ?_
  refine W.lcmp hx hb dX0_has_6 ?_
  have ht' := Nat.testBit_eq_decide_div_mod_eq (x := a) (i := w)
  rcases Nat.mod_two_eq_zero_or_one (a / 2 ^ w) with h | h
  ·
    rw [h] at ht' ⊢
    refine lv_if_eq (tgt := 14) hx hb dX0_has_7 (by decide) (fun _ => ?_) (fun q => absurd (by decide) q)
    refine lv_iconst (v := nI 0) hx hb dX0_has_14 (by decide) ?_
    exact W.zret (v := nI 0) hx hb hr (by first | rfl | decide) (fun t ht hW => ⟨_, rfl, (by first | exact Or.inl ⟨rfl, by rw [ht']; rfl⟩ | exact Or.inr ⟨rfl, by rw [ht']; rfl⟩), ht⟩) (fun q h => by cases h) dX0_has_15
  ·
    rw [h] at ht' ⊢
    refine lv_if_eq (tgt := 14) hx hb dX0_has_7 (by decide) (fun q => absurd q (by decide)) (fun _ => ?_)
    refine lv_iconst (v := nI 1) hx hb dX0_has_10 (by decide) ?_
    refine lv_goto (tgt := 15) hx hb dX0_has_11 (by decide) ?_
    exact W.zret (v := nI 1) hx hb hr (by first | rfl | decide) (fun t ht hW => ⟨_, rfl, (by first | exact Or.inl ⟨rfl, by rw [ht']; rfl⟩ | exact Or.inr ⟨rfl, by rw [ht']; rfl⟩), ht⟩) (fun q h => by cases h) dX0_has_15
set_option maxHeartbeats 4000000 in
set_option maxRecDepth 100000 in
/-- the greatest of a set -/
theorem c_X0_greatestOf (l : Launch) (dC : Nat → ClassId) (dI : Nat → Nat → Nat) (ad : Nat → Nat) (cI cJ cII cJJ : ClassId) (S C : Nat) (n : Nat → Nat) (va : Nat → Nat → Int32) (mk ct ps kn cx : Nat → Nat → Nat) (k set : Nat) (hk : k < 3) (hset : set < 2 ^ 63) (hn : n k ≤ 40) : Met l yX0_greatestOf wsX0_greatestOf ({ frames := 1, cells := 0, slots := 0, locals := 22 }) (va_Pc [.ref (ad 0), .int (nI k), .long (lN set)] (xB dC dI ad cI cJ cII cJJ S C n va mk ct ps kn cx)) (vp_Sl (fun r => r = lN (zNew (n k) (ps k) set))) 0 0 (fun _ => False) := by
  refine Met.ofW (cc := cX0_greatestOf) (maxL := 7) (ret := (some .long)) (by decide) rfl ?_
  intro p e s m args below meth c s₁ B hml hv
  obtain ⟨rfl, hP, hK⟩ := hv
  have hx := B.exec
  have hb := B.bytes
  have hr := B.returns
  have hts := atoms_spec (ws := wsX0_greatestOf) B.pre
  have hown : s.vm.findClass RX0 = some m.cls := findClass_of_methodNamed B.named
  have hlocks := B.notSynchronized
  have hin0 : ∀ w ∈ wsX00, w ∈ wsX0_greatestOf := fun _ h => List.mem_cons_of_mem _ (List.mem_append_right _ h)
  have hl := lv_entry ([.ref (ad 0), .int (nI k), .long (lN set)]) (n := 7) (Nat.le_of_ble_eq_true rfl)
  rw [lg_entry_eq]
  generalize (lg_sl ([.ref (ad 0), .int (nI k), .long (lN set)]) ++ List.replicate (7 - (lg_sl ([.ref (ad 0), .int (nI k), .long (lN set)])).length) Slot.unset).toArray = ls at hl ⊢
  have hl : lv_has ls 7 [(0, .ref (ad 0)), (1, .int (nI k)), (2, .long (lN set))] := hl
  refine lv_lconst (v := lN 0) hx hb dX0_greatestOf_0 (by decide) ?_
  refine lv_lstore (lv' := [(4, .long (lN 0)), (0, .ref (ad 0)), (1, .int (nI k)), (2, .long (lN set))]) hx hb dX0_greatestOf_1 hl (by decide) rfl (fun ls hl => ?_)
  refine lv_iconst (v := nI 0) hx hb dX0_greatestOf_3 (by decide) ?_
  refine lv_istore (lv' := [(6, .int (nI 0)), (4, .long (lN 0)), (0, .ref (ad 0)), (1, .int (nI k)), (2, .long (lN set))]) hx hb dX0_greatestOf_4 hl (by decide) rfl (fun ls hl => ?_)
  refine zr_loop (pc := 6) (fun d ls => ∃ i, i ≤ n k ∧ d = n k - i ∧ lv_has ls 7 [(0, .ref (ad 0)), (1, .int (nI k)), (2, .long (lN set)), (4, .long (lN (zRep (ps k) set i))), (6, .int (nI i))]) ?_ _ _ ⟨0, Nat.zero_le _, rfl, lv_sub hl [2, 3, 4, 1, 0] rfl⟩
  rintro d ls ⟨i, hi, rfl, hl⟩ ih6
  refine lv_iload hx hb dX0_greatestOf_6 (lv_at hl 4 rfl) ?_
  refine lv_aload_n hx hb dX0_greatestOf_8 rfl (lv_at hl 0 rfl) ?_
  refine va_get (D := (dC, dI)) (ci := 0) (v := .ref (ad 1)) (C := RX0) (T := TX0) (N := 9) hx hb hts hin0 hown hK hP 0 rfl rfl 2 (by decide) (hts (.fieldLink RX0 22 "DottedSiblings" "written" "[I") (by decide +kernel)) (fun _ h9 => h9) rfl dX0_greatestOf_9 ?_
  refine lv_iload_n hx hb dX0_greatestOf_12 rfl (lv_at hl 1 rfl) ?_
  refine zr_iald (v := nI (n k)) hx hb hK hP 1 0 rfl rfl (by omega) (by omega) rfl dX0_greatestOf_13 ?_
  refine zr_ige (tgt := 46) hx hb (by omega) (by omega) dX0_greatestOf_14 (by decide) (fun c14 => ?_) (fun c14 => ?_)
  ·
    refine lv_lload_n hx hb dX0_greatestOf_46 rfl (lv_at hl 2 rfl) ?_
    refine lv_lload hx hb dX0_greatestOf_47 (lv_at hl 3 rfl) ?_
    refine lv_ldc2 (v := (-1)) hx hb hown (hts (.constantLong RX0 83 (-1)) (by decide +kernel)) dX0_greatestOf_49 ?_
    refine lv_lxor hx hb dX0_greatestOf_52 ?_
    refine lv_land hx hb dX0_greatestOf_53 ?_
    exact W.lret (v := (lN set) &&& ((lN (zRep (ps k) set i)) ^^^ (-1))) hx hb hr (fun t ht hW => ⟨_, rfl, (by first | exact (by rw [show i = n k by omega]; exact zNew_l _ _)), ht⟩) (fun q h => by cases h) dX0_greatestOf_54
  ·
    refine lv_lload_n hx hb dX0_greatestOf_17 rfl (lv_at hl 2 rfl) ?_
    refine lv_iload hx hb dX0_greatestOf_18 (lv_at hl 4 rfl) ?_
    refine vp_callSi (W.runS (As := [.long (lN set), .int (nI i)]) (rest := []) ⟨hx, hb, hml, hown, hts⟩ (c_X0_has l set i (by omega) (by omega)) (va_cwS 2 hts gX0_greatestOf_X0_has rfl rfl rfl (by decide +kernel) ⟨Nat.le_of_ble_eq_true rfl, Nat.le_of_ble_eq_true rfl⟩) ⟨zB_blind, fun U hU hW => ⟨rfl, trivial⟩⟩ rfl rfl hl.1 rfl (lv_room (Nat.le_of_ble_eq_true rfl)) dX0_greatestOf_20 ⟨Nat.le_of_ble_eq_true rfl, Nat.le_of_ble_eq_true rfl⟩) (fun r hq => ?_)
    rcases hq with ⟨rfl, c20⟩ | ⟨rfl, c20⟩
    ·
      refine lv_if_eq (tgt := 40) hx hb dX0_greatestOf_23 (by decide) (fun q => absurd q (by decide)) (fun _ => ?_)
      refine lv_lload hx hb dX0_greatestOf_26 (lv_at hl 3 rfl) ?_
      refine lv_aload_n hx hb dX0_greatestOf_28 rfl (lv_at hl 0 rfl) ?_
      refine va_get (D := (dC, dI)) (ci := 0) (v := .ref (ad 5)) (C := RX0) (T := TX0) (N := 9) hx hb hts hin0 hown hK hP 0 rfl rfl 6 (by decide) (hts (.fieldLink RX0 39 "DottedSiblings" "pasts" "[[J") (by decide +kernel)) (fun _ h9 => h9) rfl dX0_greatestOf_29 ?_
      refine lv_iload_n hx hb dX0_greatestOf_32 rfl (lv_at hl 1 rfl) ?_
      refine zr_aald (r := ad (17 + k)) hx hb hK hP 5 3 rfl rfl (by omega) (by decide) (zo_at ad 17 (by omega)) dX0_greatestOf_33 ?_
      refine lv_iload hx hb dX0_greatestOf_34 (lv_at hl 4 rfl) ?_
      refine zr_lald (v := lN (ps k i)) hx hb hK hP (17 + k) 1 (xw_ps (by omega)) rfl (by omega) (by omega) rfl dX0_greatestOf_36 ?_
      refine zr_lor hx hb dX0_greatestOf_37 ?_
      refine lv_lstore (lv' := [(4, .long (lN ((zRep (ps k) set i) ||| (ps k i)))), (0, .ref (ad 0)), (1, .int (nI k)), (2, .long (lN set)), (6, .int (nI i))]) hx hb dX0_greatestOf_38 hl (by decide) rfl (fun ls hl => ?_)
      refine lv_iinc (v := nI (i + 1)) (lv' := [(6, .int (nI (i + 1))), (4, .long (lN ((zRep (ps k) set i) ||| (ps k i)))), (0, .ref (ad 0)), (1, .int (nI k)), (2, .long (lN set))]) hx hb dX0_greatestOf_40 hl (k := 4) rfl (by rw [← nI_1]; rfl) (by decide) rfl (fun ls hl => ?_)
      refine lv_goto (tgt := 6) hx hb dX0_greatestOf_43 (by decide) ?_
      exact ih6 _ _ (by omega) ⟨i + 1, by omega, rfl, by first | (rw [zRep_t c20]; exact lv_sub hl [2, 3, 4, 1, 0] rfl) | (rw [zRep_f c20]; exact lv_sub hl [2, 3, 4, 1, 0] rfl)⟩
    ·
      refine lv_if_eq (tgt := 40) hx hb dX0_greatestOf_23 (by decide) (fun _ => ?_) (fun q => absurd q (by decide))
      refine lv_iinc (v := nI (i + 1)) (lv' := [(6, .int (nI (i + 1))), (0, .ref (ad 0)), (1, .int (nI k)), (2, .long (lN set)), (4, .long (lN (zRep (ps k) set i)))]) hx hb dX0_greatestOf_40 hl (k := 4) rfl (by rw [← nI_1]; rfl) (by decide) rfl (fun ls hl => ?_)
      refine lv_goto (tgt := 6) hx hb dX0_greatestOf_43 (by decide) ?_
      exact ih6 _ _ (by omega) ⟨i + 1, by omega, rfl, by first | (rw [zRep_t c20]; exact lv_sub hl [1, 2, 3, 4, 0] rfl) | (rw [zRep_f c20]; exact lv_sub hl [1, 2, 3, 4, 0] rfl)⟩
set_option maxHeartbeats 4000000 in
set_option maxRecDepth 100000 in
/-- the i-th sibling of a set -/
theorem c_X0_siblingAt (l : Launch) (dC : Nat → ClassId) (dI : Nat → Nat → Nat) (ad : Nat → Nat) (cI cJ cII cJJ : ClassId) (S C : Nat) (n : Nat → Nat) (va : Nat → Nat → Int32) (mk ct ps kn cx : Nat → Nat → Nat) (k set : Nat) (x : Int32) (hk : k < 3) (hset : set < 2 ^ 63) (hn : n k ≤ 40) (hS : S ≤ 4) (hmk : ∀ w, w < n k → mk k w < S) : Met l yX0_siblingAt wsX0_siblingAt ({ frames := 2, cells := 0, slots := 0, locals := 48 }) (va_Pc [.ref (ad 0), .int (nI k), .long (lN set), .int x] (xB dC dI ad cI cJ cII cJJ S C n va mk ct ps kn cx)) (vp_Si (fun r => r = zW (zAt S (n k) (mk k) (zNew (n k) (ps k) set) x))) 0 0 (fun _ => False) := by
  refine Met.ofW (cc := cX0_siblingAt) (maxL := 10) (ret := (some .int)) (by decide) rfl ?_
  intro p e s m args below meth c s₁ B hml hv
  obtain ⟨rfl, hP, hK⟩ := hv
  have hx := B.exec
  have hb := B.bytes
  have hr := B.returns
  have hts := atoms_spec (ws := wsX0_siblingAt) B.pre
  have hown : s.vm.findClass RX0 = some m.cls := findClass_of_methodNamed B.named
  have hlocks := B.notSynchronized
  have hin0 : ∀ w ∈ wsX00, w ∈ wsX0_siblingAt := fun _ h => List.mem_cons_of_mem _ (List.mem_append_right _ h)
  have hl := lv_entry ([.ref (ad 0), .int (nI k), .long (lN set), .int x]) (n := 10) (Nat.le_of_ble_eq_true rfl)
  rw [lg_entry_eq]
  generalize (lg_sl ([.ref (ad 0), .int (nI k), .long (lN set), .int x]) ++ List.replicate (10 - (lg_sl ([.ref (ad 0), .int (nI k), .long (lN set), .int x])).length) Slot.unset).toArray = ls at hl ⊢
  have hl : lv_has ls 10 [(0, .ref (ad 0)), (1, .int (nI k)), (2, .long (lN set)), (4, .int x)] := hl
  refine lv_aload_n hx hb dX0_siblingAt_0 rfl (lv_at hl 0 rfl) ?_
  refine lv_iload_n hx hb dX0_siblingAt_1 rfl (lv_at hl 1 rfl) ?_
  refine lv_lload_n hx hb dX0_siblingAt_2 rfl (lv_at hl 2 rfl) ?_
  refine vp_callSl (W.runV (As := [.int (nI k), .long (lN set)]) (rest := []) ⟨hx, hb, hml, hown, hts⟩ (c_X0_greatestOf l dC dI ad cI cJ cII cJJ S C n va mk ct ps kn cx k set (by omega) (by omega) hn) (cwV 2 hts gX0_siblingAt_X0_greatestOf rfl rfl rfl (by decide +kernel) ⟨Nat.le_of_ble_eq_true rfl, Nat.le_of_ble_eq_true rfl⟩) ⟨xB_blind, va_recv hK hP (ci := 0) (q0 := 0) rfl rfl, fun U hU hW => ⟨rfl, xB_at hP hK hU hW⟩⟩ rfl rfl hl.1 rfl (lv_room (Nat.le_of_ble_eq_true rfl)) dX0_siblingAt_3 ⟨Nat.le_of_ble_eq_true rfl, Nat.le_of_ble_eq_true rfl⟩) (fun r hq => ?_)
  subst hq
  refine lv_lstore (lv' := [(5, .long (lN (zNew (n k) (ps k) set))), (0, .ref (ad 0)), (1, .int (nI k)), (2, .long (lN set)), (4, .int x)]) hx hb dX0_siblingAt_6 hl (by decide) rfl (fun ls hl => ?_)
  refine lv_iconst (v := nI 0) hx hb dX0_siblingAt_8 (by decide) ?_
  refine lv_istore (lv' := [(7, .int (nI 0)), (5, .long (lN (zNew (n k) (ps k) set))), (0, .ref (ad 0)), (1, .int (nI k)), (2, .long (lN set)), (4, .int x)]) hx hb dX0_siblingAt_9 hl (by decide) rfl (fun ls hl => ?_)
  refine lv_iconst (v := nI 0) hx hb dX0_siblingAt_11 (by decide) ?_
  refine lv_istore (lv' := [(8, .int (nI 0)), (7, .int (nI 0)), (5, .long (lN (zNew (n k) (ps k) set))), (0, .ref (ad 0)), (1, .int (nI k)), (2, .long (lN set)), (4, .int x)]) hx hb dX0_siblingAt_12 hl (by decide) rfl (fun ls hl => ?_)
  refine zr_loop (pc := 14) (fun d ls => ∃ s9 seen, s9 ≤ S ∧ seen ≤ 40 * s9 ∧ zOut (zHit (mk k) (zNew (n k) (ps k) set)) (n k) x (S - s9) s9 seen = zOut (zHit (mk k) (zNew (n k) (ps k) set)) (n k) x S 0 0 ∧ d = S - s9 ∧ lv_has ls 10 [(0, .ref (ad 0)), (1, .int (nI k)), (4, .int x), (5, .long (lN (zNew (n k) (ps k) set))), (7, .int (nI seen)), (8, .int (nI s9))]) ?_ _ _ ⟨0, 0, Nat.zero_le _, Nat.zero_le _, rfl, rfl, lv_sub hl [3, 4, 6, 2, 1, 0] rfl⟩
  rintro d ls ⟨s9, seen, hs9, hseen, he, rfl, hl⟩ ih14
  refine lv_iload hx hb dX0_siblingAt_14 (lv_at hl 5 rfl) ?_
  refine lv_aload_n hx hb dX0_siblingAt_16 rfl (lv_at hl 0 rfl) ?_
  refine va_get (D := (dC, dI)) (ci := 0) (v := .int (nI S)) (C := RX0) (T := TX0) (N := 9) hx hb hts hin0 hown hK hP 0 rfl rfl 0 (by decide) (hts (.fieldLink RX0 15 "DottedSiblings" "servers" "I") (by decide +kernel)) (fun _ h9 => h9) rfl dX0_siblingAt_17 ?_
  refine zr_ige (tgt := 86) hx hb (by omega) (by omega) dX0_siblingAt_20 (by decide) (fun c20 => ?_) (fun c20 => ?_)
  ·
    refine lv_iconst (v := (-1)) hx hb dX0_siblingAt_86 (by decide) ?_
    exact W.iret (v := (-1)) hx hb hr (fun t ht hW => ⟨_, rfl, (by first | exact (by unfold zAt; rw [← he, show S - s9 = 0 by omega]; rfl)), ht⟩) (fun q h => by cases h) dX0_siblingAt_87
  ·
    refine lv_iconst (v := nI 0) hx hb dX0_siblingAt_23 (by decide) ?_
    refine lv_istore (lv' := [(9, .int (nI 0)), (0, .ref (ad 0)), (1, .int (nI k)), (4, .int x), (5, .long (lN (zNew (n k) (ps k) set))), (7, .int (nI seen)), (8, .int (nI s9))]) hx hb dX0_siblingAt_24 hl (by decide) rfl (fun ls hl => ?_)
    refine zr_loop (pc := 26) (fun d ls => ∃ w seen2, w ≤ n k ∧ seen2 ≤ seen + w ∧ zIn ((zHit (mk k) (zNew (n k) (ps k) set)) s9) x (n k - w) w seen2 = zIn ((zHit (mk k) (zNew (n k) (ps k) set)) s9) x (n k) 0 seen ∧ d = n k - w ∧ lv_has ls 10 [(0, .ref (ad 0)), (1, .int (nI k)), (4, .int x), (5, .long (lN (zNew (n k) (ps k) set))), (7, .int (nI seen2)), (8, .int (nI s9)), (9, .int (nI w))]) ?_ _ _ ⟨0, seen, Nat.zero_le _, Nat.le_refl _, rfl, rfl, lv_sub hl [1, 2, 3, 4, 5, 6, 0] rfl⟩
    rintro d ls ⟨w, seen2, hw, hseen2, he2, rfl, hl⟩ ih26
    refine lv_iload hx hb dX0_siblingAt_26 (lv_at hl 6 rfl) ?_
    refine lv_aload_n hx hb dX0_siblingAt_28 rfl (lv_at hl 0 rfl) ?_
    refine va_get (D := (dC, dI)) (ci := 0) (v := .ref (ad 1)) (C := RX0) (T := TX0) (N := 9) hx hb hts hin0 hown hK hP 0 rfl rfl 2 (by decide) (hts (.fieldLink RX0 22 "DottedSiblings" "written" "[I") (by decide +kernel)) (fun _ h9 => h9) rfl dX0_siblingAt_29 ?_
    refine lv_iload_n hx hb dX0_siblingAt_32 rfl (lv_at hl 1 rfl) ?_
    refine zr_iald (v := nI (n k)) hx hb hK hP 1 0 rfl rfl (by omega) (by omega) rfl dX0_siblingAt_33 ?_
    refine zr_ige (tgt := 80) hx hb (by omega) (by omega) dX0_siblingAt_34 (by decide) (fun c34 => ?_) (fun c34 => ?_)
    ·
      refine lv_iinc (v := nI (s9 + 1)) (lv' := [(8, .int (nI (s9 + 1))), (0, .ref (ad 0)), (1, .int (nI k)), (4, .int x), (5, .long (lN (zNew (n k) (ps k) set))), (7, .int (nI seen2)), (9, .int (nI w))]) hx hb dX0_siblingAt_80 hl (k := 5) rfl (by rw [← nI_1]; rfl) (by decide) rfl (fun ls hl => ?_)
      refine lv_goto (tgt := 14) hx hb dX0_siblingAt_83 (by decide) ?_
      exact ih14 _ _ (by omega) ⟨s9 + 1, seen2, by omega, by omega, (zOut_next (by omega) (by rw [← he2, show n k - w = 0 by omega]; rfl)).symm.trans he, rfl, lv_sub hl [1, 2, 3, 4, 5, 0] rfl⟩
    ·
      have hm9 := hmk w (by omega)
      have hz9 := zNew_le (n k) (ps k) set
      refine lv_aload_n hx hb dX0_siblingAt_37 rfl (lv_at hl 0 rfl) ?_
      refine va_get (D := (dC, dI)) (ci := 0) (v := .ref (ad 3)) (C := RX0) (T := TX0) (N := 9) hx hb hts hin0 hown hK hP 0 rfl rfl 4 (by decide) (hts (.fieldLink RX0 31 "DottedSiblings" "makers" "[[I") (by decide +kernel)) (fun _ h9 => h9) rfl dX0_siblingAt_38 ?_
      refine lv_iload_n hx hb dX0_siblingAt_41 rfl (lv_at hl 1 rfl) ?_
      refine zr_aald (r := ad (11 + k)) hx hb hK hP 3 2 rfl rfl (by omega) (by decide) (zo_at ad 11 (by omega)) dX0_siblingAt_42 ?_
      refine lv_iload hx hb dX0_siblingAt_43 (lv_at hl 6 rfl) ?_
      refine zr_iald (v := nI (mk k w)) hx hb hK hP (11 + k) 0 (xw_mk (by omega)) rfl (by omega) (by omega) rfl dX0_siblingAt_45 ?_
      refine lv_iload hx hb dX0_siblingAt_46 (lv_at hl 5 rfl) ?_
      refine zr_ine (tgt := 74) hx hb (by omega) (by omega) dX0_siblingAt_48 (by decide) (fun c48 => ?_) (fun c48 => ?_)
      ·
        refine lv_iinc (v := nI (w + 1)) (lv' := [(9, .int (nI (w + 1))), (0, .ref (ad 0)), (1, .int (nI k)), (4, .int x), (5, .long (lN (zNew (n k) (ps k) set))), (7, .int (nI seen2)), (8, .int (nI s9))]) hx hb dX0_siblingAt_74 hl (k := 6) rfl (by rw [← nI_1]; rfl) (by decide) rfl (fun ls hl => ?_)
        refine lv_goto (tgt := 26) hx hb dX0_siblingAt_77 (by decide) ?_
        first | exact ih26 _ _ (by omega) ⟨w + 1, seen2 + 1, by omega, by omega, (zIn_go (by omega) (zHit_t c48 c55) c65).symm.trans he2, rfl, lv_sub hl [1, 2, 3, 4, 5, 6, 0] rfl⟩ | exact ih26 _ _ (by omega) ⟨w + 1, seen2, by omega, by omega, (zIn_skip (by omega) (zHit_n c48)).symm.trans he2, rfl, lv_sub hl [1, 2, 3, 4, 5, 6, 0] rfl⟩ | exact ih26 _ _ (by omega) ⟨w + 1, seen2, by omega, by omega, (zIn_skip (by omega) (zHit_b c55)).symm.trans he2, rfl, lv_sub hl [1, 2, 3, 4, 5, 6, 0] rfl⟩
      ·
        refine lv_lload hx hb dX0_siblingAt_51 (lv_at hl 3 rfl) ?_
        refine lv_iload hx hb dX0_siblingAt_53 (lv_at hl 6 rfl) ?_
        refine vp_callSi (W.runS (As := [.long (lN (zNew (n k) (ps k) set)), .int (nI w)]) (rest := []) ⟨hx, hb, hml, hown, hts⟩ (c_X0_has l (zNew (n k) (ps k) set) w (by omega) (by omega)) (va_cwS 2 hts gX0_siblingAt_X0_has rfl rfl rfl (by decide +kernel) ⟨Nat.le_of_ble_eq_true rfl, Nat.le_of_ble_eq_true rfl⟩) ⟨zB_blind, fun U hU hW => ⟨rfl, trivial⟩⟩ rfl rfl hl.1 rfl (lv_room (Nat.le_of_ble_eq_true rfl)) dX0_siblingAt_55 ⟨Nat.le_of_ble_eq_true rfl, Nat.le_of_ble_eq_true rfl⟩) (fun r hq => ?_)
        rcases hq with ⟨rfl, c55⟩ | ⟨rfl, c55⟩
        ·
          refine lv_if_eq (tgt := 74) hx hb dX0_siblingAt_58 (by decide) (fun q => absurd q (by decide)) (fun _ => ?_)
          refine lv_iload hx hb dX0_siblingAt_61 (lv_at hl 4 rfl) ?_
          refine lv_iload hx hb dX0_siblingAt_63 (lv_at hl 2 rfl) ?_
          refine lv_icmp_ne (tgt := 71) hx hb dX0_siblingAt_65 (by decide) (fun c65 => ?_) (fun c65 => ?_)
          ·
            refine lv_iinc (v := nI (seen2 + 1)) (lv' := [(7, .int (nI (seen2 + 1))), (0, .ref (ad 0)), (1, .int (nI k)), (4, .int x), (5, .long (lN (zNew (n k) (ps k) set))), (8, .int (nI s9)), (9, .int (nI w))]) hx hb dX0_siblingAt_71 hl (k := 4) rfl (by rw [← nI_1]; rfl) (by decide) rfl (fun ls hl => ?_)
            refine lv_iinc (v := nI (w + 1)) (lv' := [(9, .int (nI (w + 1))), (7, .int (nI (seen2 + 1))), (0, .ref (ad 0)), (1, .int (nI k)), (4, .int x), (5, .long (lN (zNew (n k) (ps k) set))), (8, .int (nI s9))]) hx hb dX0_siblingAt_74 hl (k := 6) rfl (by rw [← nI_1]; rfl) (by decide) rfl (fun ls hl => ?_)
            refine lv_goto (tgt := 26) hx hb dX0_siblingAt_77 (by decide) ?_
            first | exact ih26 _ _ (by omega) ⟨w + 1, seen2 + 1, by omega, by omega, (zIn_go (by omega) (zHit_t c48 c55) c65).symm.trans he2, rfl, lv_sub hl [2, 3, 4, 5, 1, 6, 0] rfl⟩ | exact ih26 _ _ (by omega) ⟨w + 1, seen2, by omega, by omega, (zIn_skip (by omega) (zHit_n c48)).symm.trans he2, rfl, lv_sub hl [2, 3, 4, 5, 1, 6, 0] rfl⟩ | exact ih26 _ _ (by omega) ⟨w + 1, seen2, by omega, by omega, (zIn_skip (by omega) (zHit_b c55)).symm.trans he2, rfl, lv_sub hl [2, 3, 4, 5, 1, 6, 0] rfl⟩
          ·
            refine lv_iload hx hb dX0_siblingAt_68 (lv_at hl 6 rfl) ?_
            exact W.iret (v := nI w) hx hb hr (fun t ht hW => ⟨_, rfl, (by first | exact (by unfold zAt; rw [← he, zOut_found (by omega) (by rw [← he2, zIn_hit (by omega) (zHit_t c48 c55) c65])]; rfl)), ht⟩) (fun q h => by cases h) dX0_siblingAt_70
        ·
          refine lv_if_eq (tgt := 74) hx hb dX0_siblingAt_58 (by decide) (fun _ => ?_) (fun q => absurd q (by decide))
          refine lv_iinc (v := nI (w + 1)) (lv' := [(9, .int (nI (w + 1))), (0, .ref (ad 0)), (1, .int (nI k)), (4, .int x), (5, .long (lN (zNew (n k) (ps k) set))), (7, .int (nI seen2)), (8, .int (nI s9))]) hx hb dX0_siblingAt_74 hl (k := 6) rfl (by rw [← nI_1]; rfl) (by decide) rfl (fun ls hl => ?_)
          refine lv_goto (tgt := 26) hx hb dX0_siblingAt_77 (by decide) ?_
          first | exact ih26 _ _ (by omega) ⟨w + 1, seen2 + 1, by omega, by omega, (zIn_go (by omega) (zHit_t c48 c55) c65).symm.trans he2, rfl, lv_sub hl [1, 2, 3, 4, 5, 6, 0] rfl⟩ | exact ih26 _ _ (by omega) ⟨w + 1, seen2, by omega, by omega, (zIn_skip (by omega) (zHit_n c48)).symm.trans he2, rfl, lv_sub hl [1, 2, 3, 4, 5, 6, 0] rfl⟩ | exact ih26 _ _ (by omega) ⟨w + 1, seen2, by omega, by omega, (zIn_skip (by omega) (zHit_b c55)).symm.trans he2, rfl, lv_sub hl [1, 2, 3, 4, 5, 6, 0] rfl⟩
set_option maxHeartbeats 4000000 in
set_option maxRecDepth 100000 in
/-- one of a write's numbers -/
theorem c_X0_detailOf (l : Launch) (dC : Nat → ClassId) (dI : Nat → Nat → Nat) (ad : Nat → Nat) (cI cJ cII cJJ : ClassId) (S C : Nat) (n : Nat → Nat) (va : Nat → Nat → Int32) (mk ct ps kn cx : Nat → Nat → Nat) (k w : Nat) (x : Int32) (hk : k < 3) (hw : w < 40) : Met l yX0_detailOf wsX0_detailOf ({ frames := 0, cells := 0, slots := 0, locals := 0 }) (va_Pc [.ref (ad 0), .int (nI k), .int (nI w), .int x] (xB dC dI ad cI cJ cII cJJ S C n va mk ct ps kn cx)) (vp_Sl (fun r => r = zDet x (va k w) (mk k w) (ct k w) w)) 0 0 (fun _ => False) := by
  refine Met.ofW (cc := cX0_detailOf) (maxL := 4) (ret := (some .long)) (by decide) rfl ?_
  intro p e s m args below meth c s₁ B hml hv
  obtain ⟨rfl, hP, hK⟩ := hv
  have hx := B.exec
  have hb := B.bytes
  have hr := B.returns
  have hts := atoms_spec (ws := wsX0_detailOf) B.pre
  have hown : s.vm.findClass RX0 = some m.cls := findClass_of_methodNamed B.named
  have hlocks := B.notSynchronized
  have hin0 : ∀ w ∈ wsX00, w ∈ wsX0_detailOf := fun _ h => List.mem_cons_of_mem _ (List.mem_append_right _ h)
  have hl := lv_entry ([.ref (ad 0), .int (nI k), .int (nI w), .int x]) (n := 4) (Nat.le_of_ble_eq_true rfl)
  rw [lg_entry_eq]
  generalize (lg_sl ([.ref (ad 0), .int (nI k), .int (nI w), .int x]) ++ List.replicate (4 - (lg_sl ([.ref (ad 0), .int (nI k), .int (nI w), .int x])).length) Slot.unset).toArray = ls at hl ⊢
  have hl : lv_has ls 4 [(0, .ref (ad 0)), (1, .int (nI k)), (2, .int (nI w)), (3, .int x)] := hl
  refine lv_iload_n hx hb dX0_detailOf_0 rfl (lv_at hl 3 rfl) ?_
  by_cases q0 : x = 0
  ·
    subst q0
    refine lv_tableIn (tgt := 32) hx hb dX0_detailOf_1 (by decide) (by decide) rfl (by decide) ?_
    refine lv_aload_n hx hb dX0_detailOf_32 rfl (lv_at hl 0 rfl) ?_
    refine va_get (D := (dC, dI)) (ci := 0) (v := .ref (ad 2)) (C := RX0) (T := TX0) (N := 9) hx hb hts hin0 hown hK hP 0 rfl rfl 3 (by decide) (hts (.fieldLink RX0 28 "DottedSiblings" "values" "[[I") (by decide +kernel)) (fun _ h9 => h9) rfl dX0_detailOf_33 ?_
    refine lv_iload_n hx hb dX0_detailOf_36 rfl (lv_at hl 1 rfl) ?_
    refine zr_aald (r := ad (8 + k)) hx hb hK hP 2 2 rfl rfl (by omega) (by decide) (zo_at ad 8 (by omega)) dX0_detailOf_37 ?_
    refine lv_iload_n hx hb dX0_detailOf_38 rfl (lv_at hl 2 rfl) ?_
    refine zr_iald (v := va k w) hx hb hK hP (8 + k) 0 (xw_va (by omega)) rfl (by omega) (by omega) rfl dX0_detailOf_39 ?_
    refine lv_i2l hx hb dX0_detailOf_40 rfl ?_
    exact W.lret (v := (va k w).toInt64) hx hb hr (fun t ht hW => ⟨_, rfl, (by first | rfl | exact (by unfold zDet; rw [if_neg q0, if_neg q1, if_neg q2, if_neg q3])), ht⟩) (fun q h => by cases h) dX0_detailOf_41
  ·
    by_cases q1 : x = 1
    ·
      subst q1
      refine lv_tableIn (tgt := 42) hx hb dX0_detailOf_1 (by decide) (by decide) rfl (by decide) ?_
      refine lv_aload_n hx hb dX0_detailOf_42 rfl (lv_at hl 0 rfl) ?_
      refine va_get (D := (dC, dI)) (ci := 0) (v := .ref (ad 3)) (C := RX0) (T := TX0) (N := 9) hx hb hts hin0 hown hK hP 0 rfl rfl 4 (by decide) (hts (.fieldLink RX0 31 "DottedSiblings" "makers" "[[I") (by decide +kernel)) (fun _ h9 => h9) rfl dX0_detailOf_43 ?_
      refine lv_iload_n hx hb dX0_detailOf_46 rfl (lv_at hl 1 rfl) ?_
      refine zr_aald (r := ad (11 + k)) hx hb hK hP 3 2 rfl rfl (by omega) (by decide) (zo_at ad 11 (by omega)) dX0_detailOf_47 ?_
      refine lv_iload_n hx hb dX0_detailOf_48 rfl (lv_at hl 2 rfl) ?_
      refine zr_iald (v := nI (mk k w)) hx hb hK hP (11 + k) 0 (xw_mk (by omega)) rfl (by omega) (by omega) rfl dX0_detailOf_49 ?_
      refine lv_i2l hx hb dX0_detailOf_50 rfl ?_
      exact W.lret (v := (nI (mk k w)).toInt64) hx hb hr (fun t ht hW => ⟨_, rfl, (by first | rfl | exact (by unfold zDet; rw [if_neg q0, if_neg q1, if_neg q2, if_neg q3])), ht⟩) (fun q h => by cases h) dX0_detailOf_51
    ·
      by_cases q2 : x = 2
      ·
        subst q2
        refine lv_tableIn (tgt := 52) hx hb dX0_detailOf_1 (by decide) (by decide) rfl (by decide) ?_
        refine lv_aload_n hx hb dX0_detailOf_52 rfl (lv_at hl 0 rfl) ?_
        refine va_get (D := (dC, dI)) (ci := 0) (v := .ref (ad 4)) (C := RX0) (T := TX0) (N := 9) hx hb hts hin0 hown hK hP 0 rfl rfl 5 (by decide) (hts (.fieldLink RX0 34 "DottedSiblings" "counters" "[[I") (by decide +kernel)) (fun _ h9 => h9) rfl dX0_detailOf_53 ?_
        refine lv_iload_n hx hb dX0_detailOf_56 rfl (lv_at hl 1 rfl) ?_
        refine zr_aald (r := ad (14 + k)) hx hb hK hP 4 2 rfl rfl (by omega) (by decide) (zo_at ad 14 (by omega)) dX0_detailOf_57 ?_
        refine lv_iload_n hx hb dX0_detailOf_58 rfl (lv_at hl 2 rfl) ?_
        refine zr_iald (v := nI (ct k w)) hx hb hK hP (14 + k) 0 (xw_ct (by omega)) rfl (by omega) (by omega) rfl dX0_detailOf_59 ?_
        refine lv_i2l hx hb dX0_detailOf_60 rfl ?_
        exact W.lret (v := (nI (ct k w)).toInt64) hx hb hr (fun t ht hW => ⟨_, rfl, (by first | rfl | exact (by unfold zDet; rw [if_neg q0, if_neg q1, if_neg q2, if_neg q3])), ht⟩) (fun q h => by cases h) dX0_detailOf_61
      ·
        by_cases q3 : x = 3
        ·
          subst q3
          refine lv_tableIn (tgt := 62) hx hb dX0_detailOf_1 (by decide) (by decide) rfl (by decide) ?_
          refine lv_iload_n hx hb dX0_detailOf_62 rfl (lv_at hl 2 rfl) ?_
          refine lv_i2l hx hb dX0_detailOf_63 rfl ?_
          exact W.lret (v := (nI w).toInt64) hx hb hr (fun t ht hW => ⟨_, rfl, (by first | rfl | exact (by unfold zDet; rw [if_neg q0, if_neg q1, if_neg q2, if_neg q3])), ht⟩) (fun q h => by cases h) dX0_detailOf_64
        ·
          refine lv_tableOut (tgt := 65) hx hb dX0_detailOf_1 (zsw q0 q1 q2 q3) (by decide) ?_
          refine lv_ldc2 (v := (-9223372036854775808)) hx hb hown (hts (.constantLong RX0 66 (-9223372036854775808)) (by decide +kernel)) dX0_detailOf_65 ?_
          exact W.lret (v := (-9223372036854775808)) hx hb hr (fun t ht hW => ⟨_, rfl, (by first | rfl | exact (by unfold zDet; rw [if_neg q0, if_neg q1, if_neg q2, if_neg q3])), ht⟩) (fun q h => by cases h) dX0_detailOf_68
set_option maxHeartbeats 4000000 in
set_option maxRecDepth 100000 in
/-- what the vector of a set has for a server -/
theorem c_X0_vectorAt (l : Launch) (dC : Nat → ClassId) (dI : Nat → Nat → Nat) (ad : Nat → Nat) (cI cJ cII cJJ : ClassId) (S C : Nat) (n : Nat → Nat) (va : Nat → Nat → Int32) (mk ct ps kn cx : Nat → Nat → Nat) (k set o : Nat) (hk : k < 3) (hset : set < 2 ^ 63) (ho : o < 4) (hn : n k ≤ 40) (hmk : ∀ w, w < n k → mk k w < 4) (hct : ∀ w, ct k w ≤ 40) : Met l yX0_vectorAt wsX0_vectorAt ({ frames := 1, cells := 0, slots := 0, locals := 22 }) (va_Pc [.ref (ad 0), .int (nI k), .long (lN set), .int (nI o)] (xB dC dI ad cI cJ cII cJJ S C n va mk ct ps kn cx)) (vp_Si (fun r => r = nI (zVec (ct k) (zHit (mk k) set o) (n k)))) 0 0 (fun _ => False) := by
  refine Met.ofW (cc := cX0_vectorAt) (maxL := 7) (ret := (some .int)) (by decide) rfl ?_
  intro p e s m args below meth c s₁ B hml hv
  obtain ⟨rfl, hP, hK⟩ := hv
  have hx := B.exec
  have hb := B.bytes
  have hr := B.returns
  have hts := atoms_spec (ws := wsX0_vectorAt) B.pre
  have hown : s.vm.findClass RX0 = some m.cls := findClass_of_methodNamed B.named
  have hlocks := B.notSynchronized
  have hin0 : ∀ w ∈ wsX00, w ∈ wsX0_vectorAt := fun _ h => List.mem_cons_of_mem _ (List.mem_append_right _ h)
  have hl := lv_entry ([.ref (ad 0), .int (nI k), .long (lN set), .int (nI o)]) (n := 7) (Nat.le_of_ble_eq_true rfl)
  rw [lg_entry_eq]
  generalize (lg_sl ([.ref (ad 0), .int (nI k), .long (lN set), .int (nI o)]) ++ List.replicate (7 - (lg_sl ([.ref (ad 0), .int (nI k), .long (lN set), .int (nI o)])).length) Slot.unset).toArray = ls at hl ⊢
  have hl : lv_has ls 7 [(0, .ref (ad 0)), (1, .int (nI k)), (2, .long (lN set)), (4, .int (nI o))] := hl
  refine lv_iconst (v := nI 0) hx hb dX0_vectorAt_0 (by decide) ?_
  refine lv_istore (lv' := [(5, .int (nI 0)), (0, .ref (ad 0)), (1, .int (nI k)), (2, .long (lN set)), (4, .int (nI o))]) hx hb dX0_vectorAt_1 hl (by decide) rfl (fun ls hl => ?_)
  refine lv_iconst (v := nI 0) hx hb dX0_vectorAt_3 (by decide) ?_
  refine lv_istore (lv' := [(6, .int (nI 0)), (5, .int (nI 0)), (0, .ref (ad 0)), (1, .int (nI k)), (2, .long (lN set)), (4, .int (nI o))]) hx hb dX0_vectorAt_4 hl (by decide) rfl (fun ls hl => ?_)
  refine zr_loop (pc := 6) (fun d ls => ∃ i, i ≤ n k ∧ d = n k - i ∧ lv_has ls 7 [(0, .ref (ad 0)), (1, .int (nI k)), (2, .long (lN set)), (4, .int (nI o)), (5, .int (nI (zVec (ct k) (zHit (mk k) set o) i))), (6, .int (nI i))]) ?_ _ _ ⟨0, Nat.zero_le _, rfl, lv_sub hl [2, 3, 4, 5, 1, 0] rfl⟩
  rintro d ls ⟨i, hi, rfl, hl⟩ ih6
  have hz9 := zVec_le (hit := zHit (mk k) set o) hct i
  have hc9 := hct i
  refine lv_iload hx hb dX0_vectorAt_6 (lv_at hl 5 rfl) ?_
  refine lv_aload_n hx hb dX0_vectorAt_8 rfl (lv_at hl 0 rfl) ?_
  refine va_get (D := (dC, dI)) (ci := 0) (v := .ref (ad 1)) (C := RX0) (T := TX0) (N := 9) hx hb hts hin0 hown hK hP 0 rfl rfl 2 (by decide) (hts (.fieldLink RX0 22 "DottedSiblings" "written" "[I") (by decide +kernel)) (fun _ h9 => h9) rfl dX0_vectorAt_9 ?_
  refine lv_iload_n hx hb dX0_vectorAt_12 rfl (lv_at hl 1 rfl) ?_
  refine zr_iald (v := nI (n k)) hx hb hK hP 1 0 rfl rfl (by omega) (by omega) rfl dX0_vectorAt_13 ?_
  refine zr_ige (tgt := 62) hx hb (by omega) (by omega) dX0_vectorAt_14 (by decide) (fun c14 => ?_) (fun c14 => ?_)
  ·
    refine lv_iload hx hb dX0_vectorAt_62 (lv_at hl 4 rfl) ?_
    exact W.iret (v := nI (zVec (ct k) (zHit (mk k) set o) i)) hx hb hr (fun t ht hW => ⟨_, rfl, (by first | exact (by rw [show i = n k by omega])), ht⟩) (fun q h => by cases h) dX0_vectorAt_64
  ·
    have hm9 := hmk i (by omega)
    refine lv_aload_n hx hb dX0_vectorAt_17 rfl (lv_at hl 0 rfl) ?_
    refine va_get (D := (dC, dI)) (ci := 0) (v := .ref (ad 3)) (C := RX0) (T := TX0) (N := 9) hx hb hts hin0 hown hK hP 0 rfl rfl 4 (by decide) (hts (.fieldLink RX0 31 "DottedSiblings" "makers" "[[I") (by decide +kernel)) (fun _ h9 => h9) rfl dX0_vectorAt_18 ?_
    refine lv_iload_n hx hb dX0_vectorAt_21 rfl (lv_at hl 1 rfl) ?_
    refine zr_aald (r := ad (11 + k)) hx hb hK hP 3 2 rfl rfl (by omega) (by decide) (zo_at ad 11 (by omega)) dX0_vectorAt_22 ?_
    refine lv_iload hx hb dX0_vectorAt_23 (lv_at hl 5 rfl) ?_
    refine zr_iald (v := nI (mk k i)) hx hb hK hP (11 + k) 0 (xw_mk (by omega)) rfl (by omega) (by omega) rfl dX0_vectorAt_25 ?_
    refine lv_iload hx hb dX0_vectorAt_26 (lv_at hl 3 rfl) ?_
    refine zr_ine (tgt := 56) hx hb (by omega) (by omega) dX0_vectorAt_28 (by decide) (fun c28 => ?_) (fun c28 => ?_)
    ·
      refine lv_iinc (v := nI (i + 1)) (lv' := [(6, .int (nI (i + 1))), (0, .ref (ad 0)), (1, .int (nI k)), (2, .long (lN set)), (4, .int (nI o)), (5, .int (nI (zVec (ct k) (zHit (mk k) set o) i)))]) hx hb dX0_vectorAt_56 hl (k := 5) rfl (by rw [← nI_1]; rfl) (by decide) rfl (fun ls hl => ?_)
      refine lv_goto (tgt := 6) hx hb dX0_vectorAt_59 (by decide) ?_
      exact ih6 _ _ (by omega) ⟨i + 1, by omega, rfl, by first | (rw [zVec_t (zHit_t c28 c34)]; exact lv_sub hl [1, 2, 3, 4, 5, 0] rfl) | (rw [zVec_f (zHit_n c28)]; exact lv_sub hl [1, 2, 3, 4, 5, 0] rfl) | (rw [zVec_f (zHit_b c34)]; exact lv_sub hl [1, 2, 3, 4, 5, 0] rfl)⟩
    ·
      refine lv_lload_n hx hb dX0_vectorAt_31 rfl (lv_at hl 2 rfl) ?_
      refine lv_iload hx hb dX0_vectorAt_32 (lv_at hl 5 rfl) ?_
      refine vp_callSi (W.runS (As := [.long (lN set), .int (nI i)]) (rest := []) ⟨hx, hb, hml, hown, hts⟩ (c_X0_has l set i (by omega) (by omega)) (va_cwS 2 hts gX0_vectorAt_X0_has rfl rfl rfl (by decide +kernel) ⟨Nat.le_of_ble_eq_true rfl, Nat.le_of_ble_eq_true rfl⟩) ⟨zB_blind, fun U hU hW => ⟨rfl, trivial⟩⟩ rfl rfl hl.1 rfl (lv_room (Nat.le_of_ble_eq_true rfl)) dX0_vectorAt_34 ⟨Nat.le_of_ble_eq_true rfl, Nat.le_of_ble_eq_true rfl⟩) (fun r hq => ?_)
      rcases hq with ⟨rfl, c34⟩ | ⟨rfl, c34⟩
      ·
        refine lv_if_eq (tgt := 56) hx hb dX0_vectorAt_37 (by decide) (fun q => absurd q (by decide)) (fun _ => ?_)
        refine lv_iload hx hb dX0_vectorAt_40 (lv_at hl 4 rfl) ?_
        refine lv_aload_n hx hb dX0_vectorAt_42 rfl (lv_at hl 0 rfl) ?_
        refine va_get (D := (dC, dI)) (ci := 0) (v := .ref (ad 4)) (C := RX0) (T := TX0) (N := 9) hx hb hts hin0 hown hK hP 0 rfl rfl 5 (by decide) (hts (.fieldLink RX0 34 "DottedSiblings" "counters" "[[I") (by decide +kernel)) (fun _ h9 => h9) rfl dX0_vectorAt_43 ?_
        refine lv_iload_n hx hb dX0_vectorAt_46 rfl (lv_at hl 1 rfl) ?_
        refine zr_aald (r := ad (14 + k)) hx hb hK hP 4 2 rfl rfl (by omega) (by decide) (zo_at ad 14 (by omega)) dX0_vectorAt_47 ?_
        refine lv_iload hx hb dX0_vectorAt_48 (lv_at hl 5 rfl) ?_
        refine zr_iald (v := nI (ct k i)) hx hb hK hP (14 + k) 0 (xw_ct (by omega)) rfl (by omega) (by omega) rfl dX0_vectorAt_50 ?_
        refine va_mmax hx hb (hml.trans hl.1.symm) hown (hts (.methodLink RX0 85 Lib.Math.max.name) (by decide +kernel)) (hts (.static Lib.Math.max.name) (by decide +kernel)) (hts (.initialized "java/lang/Math") (by decide +kernel)) (hts (.code Lib.Math.max.name Lib.Math.max.code 2 (some .int)) (by decide +kernel)) (Nat.le_of_ble_eq_true rfl) (Nat.le_of_ble_eq_true rfl) (Nat.zero_le _) (Nat.zero_le _) dX0_vectorAt_51 ?_
        rw [zmaxI (by omega) (by omega)]
        refine lv_istore (lv' := [(5, .int (nI (if (zVec (ct k) (zHit (mk k) set o) i) < (ct k i) then (ct k i) else (zVec (ct k) (zHit (mk k) set o) i)))), (0, .ref (ad 0)), (1, .int (nI k)), (2, .long (lN set)), (4, .int (nI o)), (6, .int (nI i))]) hx hb dX0_vectorAt_54 hl (by decide) rfl (fun ls hl => ?_)
        refine lv_iinc (v := nI (i + 1)) (lv' := [(6, .int (nI (i + 1))), (5, .int (nI (if (zVec (ct k) (zHit (mk k) set o) i) < (ct k i) then (ct k i) else (zVec (ct k) (zHit (mk k) set o) i)))), (0, .ref (ad 0)), (1, .int (nI k)), (2, .long (lN set)), (4, .int (nI o))]) hx hb dX0_vectorAt_56 hl (k := 5) rfl (by rw [← nI_1]; rfl) (by decide) rfl (fun ls hl => ?_)
        refine lv_goto (tgt := 6) hx hb dX0_vectorAt_59 (by decide) ?_
        exact ih6 _ _ (by omega) ⟨i + 1, by omega, rfl, by first | (rw [zVec_t (zHit_t c28 c34)]; exact lv_sub hl [2, 3, 4, 5, 1, 0] rfl) | (rw [zVec_f (zHit_n c28)]; exact lv_sub hl [2, 3, 4, 5, 1, 0] rfl) | (rw [zVec_f (zHit_b c34)]; exact lv_sub hl [2, 3, 4, 5, 1, 0] rfl)⟩
      ·
        refine lv_if_eq (tgt := 56) hx hb dX0_vectorAt_37 (by decide) (fun _ => ?_) (fun q => absurd q (by decide))
        refine lv_iinc (v := nI (i + 1)) (lv' := [(6, .int (nI (i + 1))), (0, .ref (ad 0)), (1, .int (nI k)), (2, .long (lN set)), (4, .int (nI o)), (5, .int (nI (zVec (ct k) (zHit (mk k) set o) i)))]) hx hb dX0_vectorAt_56 hl (k := 5) rfl (by rw [← nI_1]; rfl) (by decide) rfl (fun ls hl => ?_)
        refine lv_goto (tgt := 6) hx hb dX0_vectorAt_59 (by decide) ?_
        exact ih6 _ _ (by omega) ⟨i + 1, by omega, rfl, by first | (rw [zVec_t (zHit_t c28 c34)]; exact lv_sub hl [1, 2, 3, 4, 5, 0] rfl) | (rw [zVec_f (zHit_n c28)]; exact lv_sub hl [1, 2, 3, 4, 5, 0] rfl) | (rw [zVec_f (zHit_b c34)]; exact lv_sub hl [1, 2, 3, 4, 5, 0] rfl)⟩
end
section
theorem znm1 {w : Nat} (h : w < 2 ^ 31) : ¬ nI w = -1 := fun q => by
  have := congrArg Int32.toInt q
  rw [nI_toInt h] at this
  have e : ((-1 : Int32)).toInt = -1 := by decide
  rw [e] at this
  omega
theorem zl_inj {x y : Nat} (hx : x < 2 ^ 64) (hy : y < 2 ^ 64) (h : lN x = lN y) : x = y := by
  rw [← zb_tn hx, ← zb_tn hy, h]
section ZQ
variable {p : Program} {l : Launch} {e : Env} {R : Room} {s : State} {m : MethodId} {args : Array Value} {below : List Frame} {meth : Method} {c : Code} {H : Heap} {locs : List Loc} {cells slots : Nat} {Q : State → Prop}
variable {cc : ByteArray} {pc : Nat} {ls : Array Slot} {rest : List Value}
theorem zr_leq (hexec : p.tables.exec = Jvm.exec) (hb : c.code = cc) {x y : Nat} {off : Int} {tgt : Nat} (hx : x < 2 ^ 64) (hy : y < 2 ^ 64) (d0 : decode cc pc = .ok (.lcmp, 1)) (d1 : decode cc (pc + 1) = .ok (.ifCond .ne off, 3)) (ht : ((pc + 1 : Nat) : Int) + off = (tgt : Int))
    (kt : ¬ x = y → W p l e R s m args below meth c H locs cells slots Q (F0 m tgt ls rest)) (kf : x = y → W p l e R s m args below meth c H locs cells slots Q (F0 m (pc + 1 + 3) ls rest)) : W p l e R s m args below meth c H locs cells slots Q (F0 m pc ls (.long (lN y) :: .long (lN x) :: rest)) := by
  refine W.lcmp hexec hb d0 ?_
  by_cases h : x = y
  · subst h
    exact lv_if_ne hexec hb d1 ht (fun q => absurd (by simp [lg_cmp]) q) (fun _ => kf rfl)
  · have hne : ¬ lN x = lN y := fun q => h (zl_inj hx hy q)
    refine lv_if_ne hexec hb d1 ht (fun _ => kt h) (fun q => absurd q ?_)
    unfold lg_cmp
    repeat' split
    all_goals first
      | decide
      | exact absurd (by assumption) hne
theorem zr_land (hexec : p.tables.exec = Jvm.exec) (hb : c.code = cc) {x y : Nat} (hdg : decode cc pc = .ok (.land, 1))
    (kk : W p l e R s m args below meth c H locs cells slots Q (F0 m (pc + 1) ls (.long (lN (x &&& y)) :: rest))) : W p l e R s m args below meth c H locs cells slots Q (F0 m pc ls (.long (lN y) :: .long (lN x) :: rest)) := by
  refine lv_land hexec hb hdg ?_
  rw [zb_and]
  exact kk
theorem zr_ladd (hexec : p.tables.exec = Jvm.exec) (hb : c.code = cc) {x y : Nat} (hdg : decode cc pc = .ok (.ladd, 1))
    (kk : W p l e R s m args below meth c H locs cells slots Q (F0 m (pc + 1) ls (.long (lN (x + y)) :: rest))) : W p l e R s m args below meth c H locs cells slots Q (F0 m pc ls (.long (lN y) :: .long (lN x) :: rest)) := by
  refine lv_ladd hexec hb hdg ?_
  rw [lN_add]
  exact kk
theorem zr_lsub (hexec : p.tables.exec = Jvm.exec) (hb : c.code = cc) {x y : Nat} (h : y ≤ x) (hdg : decode cc pc = .ok (.lsub, 1))
    (kk : W p l e R s m args below meth c H locs cells slots Q (F0 m (pc + 1) ls (.long (lN (x - y)) :: rest))) : W p l e R s m args below meth c H locs cells slots Q (F0 m pc ls (.long (lN y) :: .long (lN x) :: rest)) := by
  refine lv_lsub hexec hb hdg ?_
  rw [lN_sub h]
  exact kk
theorem znand (a b : Nat) : nI a &&& nI b = nI (a &&& b) := by
  apply Int32.toBitVec_inj.1
  show BitVec.ofNat 32 a &&& BitVec.ofNat 32 b = BitVec.ofNat 32 (a &&& b)
  apply BitVec.eq_of_getLsbD_eq
  intro i hi
  simp [hi]
theorem zr_iand (hexec : p.tables.exec = Jvm.exec) (hb : c.code = cc) {x y : Nat} (hdg : decode cc pc = .ok (.iand, 1))
    (kk : W p l e R s m args below meth c H locs cells slots Q (F0 m (pc + 1) ls (.int (nI (x &&& y)) :: rest))) : W p l e R s m args below meth c H locs cells slots Q (F0 m pc ls (.int (nI y) :: .int (nI x) :: rest)) := by
  refine lv_iand hexec hb hdg ?_
  rw [znand]
  exact kk
end ZQ
end
section
set_option maxHeartbeats 4000000 in
set_option maxRecDepth 100000 in
/-- Long.bitCount -/
theorem c_J13_bitCount_95d88 (l : Launch) (x : Nat) (hx64 : x < 2 ^ 64) : Met l yJ13_bitCount_95d88 wsJ13_bitCount_95d88 ({ frames := 0, cells := 0, slots := 0, locals := 0 }) (va_Pc [.long (lN x)] (fun _ => True)) (vp_Si (fun r => r = nI (cn (fun i => x.testBit i) 64))) 0 0 (fun _ => False) := by
  refine Met.ofW (cc := cJ13_bitCount_95d88) (maxL := 2) (ret := (some .int)) (by decide) rfl ?_
  intro p e s m args below meth c s₁ B hml hv
  obtain ⟨rfl, -⟩ := hv
  have hx := B.exec
  have hb := B.bytes
  have hr := B.returns
  have hts := atoms_spec (ws := wsJ13_bitCount_95d88) B.pre
  have hown : s.vm.findClass RJ13 = some m.cls := findClass_of_methodNamed B.named
  have hlocks := B.notSynchronized
  have hl := lv_entry ([.long (lN x)]) (n := 2) (Nat.le_of_ble_eq_true rfl)
  rw [lg_entry_eq]
  generalize (lg_sl ([.long (lN x)]) ++ List.replicate (2 - (lg_sl ([.long (lN x)])).length) Slot.unset).toArray = ls at hl ⊢
  have hl : lv_has ls 2 [(0, .long (lN x))] := hl
  obtain ⟨k1, -, -, -⟩ := bc_steps hx64
  obtain ⟨k2, k3, k4⟩ := bc_bounds hx64
  obtain ⟨k5, k6, k7, k8, k9⟩ := bc_count hx64
  refine lv_lload_n hx hb dJ13_bitCount_95d88_0 rfl (lv_at hl 0 rfl) ?_
  refine lv_lload_n hx hb dJ13_bitCount_95d88_1 rfl (lv_at hl 0 rfl) ?_
  refine lv_iconst (v := nI 1) hx hb dJ13_bitCount_95d88_2 (by decide) ?_
  refine zr_lushr hx hb hx64 (by decide) dJ13_bitCount_95d88_3 ?_
  refine lv_ldc2 (v := lN 6148914691236517205) hx hb hown (hts (.constantLong RJ13 314 (6148914691236517205)) (by decide +kernel)) dJ13_bitCount_95d88_4 ?_
  refine zr_land hx hb dJ13_bitCount_95d88_7 ?_
  refine zr_lsub hx hb k1 dJ13_bitCount_95d88_8 ?_
  refine lv_lstore_n (lv' := [(0, .long (lN (bc_a x)))]) hx hb dJ13_bitCount_95d88_9 rfl hl (by decide) rfl (fun ls hl => ?_)
  refine lv_lload_n hx hb dJ13_bitCount_95d88_10 rfl (lv_at hl 0 rfl) ?_
  refine lv_ldc2 (v := lN 3689348814741910323) hx hb hown (hts (.constantLong RJ13 316 (3689348814741910323)) (by decide +kernel)) dJ13_bitCount_95d88_11 ?_
  refine zr_land hx hb dJ13_bitCount_95d88_14 ?_
  refine lv_lload_n hx hb dJ13_bitCount_95d88_15 rfl (lv_at hl 0 rfl) ?_
  refine lv_iconst (v := nI 2) hx hb dJ13_bitCount_95d88_16 (by decide) ?_
  refine zr_lushr hx hb k2 (by decide) dJ13_bitCount_95d88_17 ?_
  refine lv_ldc2 (v := lN 3689348814741910323) hx hb hown (hts (.constantLong RJ13 316 (3689348814741910323)) (by decide +kernel)) dJ13_bitCount_95d88_18 ?_
  refine zr_land hx hb dJ13_bitCount_95d88_21 ?_
  refine zr_ladd hx hb dJ13_bitCount_95d88_22 ?_
  refine lv_lstore_n (lv' := [(0, .long (lN (bc_b x)))]) hx hb dJ13_bitCount_95d88_23 rfl hl (by decide) rfl (fun ls hl => ?_)
  refine lv_lload_n hx hb dJ13_bitCount_95d88_24 rfl (lv_at hl 0 rfl) ?_
  refine lv_lload_n hx hb dJ13_bitCount_95d88_25 rfl (lv_at hl 0 rfl) ?_
  refine lv_iconst (v := nI 4) hx hb dJ13_bitCount_95d88_26 (by decide) ?_
  refine zr_lushr hx hb k3 (by decide) dJ13_bitCount_95d88_27 ?_
  refine zr_ladd hx hb dJ13_bitCount_95d88_28 ?_
  refine lv_ldc2 (v := lN 1085102592571150095) hx hb hown (hts (.constantLong RJ13 318 (1085102592571150095)) (by decide +kernel)) dJ13_bitCount_95d88_29 ?_
  refine zr_land hx hb dJ13_bitCount_95d88_32 ?_
  refine lv_lstore_n (lv' := [(0, .long (lN (bc_d x)))]) hx hb dJ13_bitCount_95d88_33 rfl hl (by decide) rfl (fun ls hl => ?_)
  refine lv_lload_n hx hb dJ13_bitCount_95d88_34 rfl (lv_at hl 0 rfl) ?_
  refine lv_lload_n hx hb dJ13_bitCount_95d88_35 rfl (lv_at hl 0 rfl) ?_
  refine lv_bipush (v := nI 8) hx hb dJ13_bitCount_95d88_36 (by decide) ?_
  refine zr_lushr hx hb k9 (by decide) dJ13_bitCount_95d88_38 ?_
  refine zr_ladd hx hb dJ13_bitCount_95d88_39 ?_
  refine lv_lstore_n (lv' := [(0, .long (lN (bc_f x)))]) hx hb dJ13_bitCount_95d88_40 rfl hl (by decide) rfl (fun ls hl => ?_)
  refine lv_lload_n hx hb dJ13_bitCount_95d88_41 rfl (lv_at hl 0 rfl) ?_
  refine lv_lload_n hx hb dJ13_bitCount_95d88_42 rfl (lv_at hl 0 rfl) ?_
  refine lv_bipush (v := nI 16) hx hb dJ13_bitCount_95d88_43 (by decide) ?_
  refine zr_lushr hx hb k8 (by decide) dJ13_bitCount_95d88_45 ?_
  refine zr_ladd hx hb dJ13_bitCount_95d88_46 ?_
  refine lv_lstore_n (lv' := [(0, .long (lN (bc_g x)))]) hx hb dJ13_bitCount_95d88_47 rfl hl (by decide) rfl (fun ls hl => ?_)
  refine lv_lload_n hx hb dJ13_bitCount_95d88_48 rfl (lv_at hl 0 rfl) ?_
  refine lv_lload_n hx hb dJ13_bitCount_95d88_49 rfl (lv_at hl 0 rfl) ?_
  refine lv_bipush (v := nI 32) hx hb dJ13_bitCount_95d88_50 (by decide) ?_
  refine zr_lushr hx hb k7 (by decide) dJ13_bitCount_95d88_52 ?_
  refine zr_ladd hx hb dJ13_bitCount_95d88_53 ?_
  refine lv_lstore_n (lv' := [(0, .long (lN (bc_h x)))]) hx hb dJ13_bitCount_95d88_54 rfl hl (by decide) rfl (fun ls hl => ?_)
  refine lv_lload_n hx hb dJ13_bitCount_95d88_55 rfl (lv_at hl 0 rfl) ?_
  refine lv_l2i hx hb dJ13_bitCount_95d88_56 (lN_i _) ?_
  refine lv_bipush (v := nI 127) hx hb dJ13_bitCount_95d88_57 (by decide) ?_
  refine zr_iand hx hb dJ13_bitCount_95d88_59 ?_
  exact W.iret (v := nI (bc_h x &&& 127)) hx hb hr (fun t ht hW => ⟨_, rfl, congrArg nI ((Nat.and_two_pow_sub_one_eq_mod (bc_h x) 7).trans k5), ht⟩) (fun q h => by cases h) dJ13_bitCount_95d88_60
set_option maxHeartbeats 4000000 in
set_option maxRecDepth 100000 in
/-- read -/
theorem c_X0_read (l : Launch) (dC : Nat → ClassId) (dI : Nat → Nat → Nat) (ad : Nat → Nat) (cI cJ cII cJJ : ClassId) (S C : Nat) (n : Nat → Nat) (va : Nat → Nat → Int32) (mk ct ps kn cx : Nat → Nat → Nat) (hG : zG S C n mk ct ps kn cx) (x1 x2 x3 : Int32) : Met l yX0_read wsX0_read ({ frames := 3, cells := 0, slots := 0, locals := 77 }) (va_Pc [.ref (ad 0), .int x1, .int x2, .int x3] (xB dC dI ad cI cJ cII cJJ S C n va mk ct ps kn cx)) (vp_Sl (fun r => r = aRead S C n va mk ps cx x1 x2 x3)) 0 0 (fun _ => False) := by
  refine Met.ofW (cc := cX0_read) (maxL := 5) (ret := (some .long)) (by decide) rfl ?_
  intro p e s m args below meth c s₁ B hml hv
  obtain ⟨rfl, hP, hK⟩ := hv
  have hx := B.exec
  have hb := B.bytes
  have hr := B.returns
  have hts := atoms_spec (ws := wsX0_read) B.pre
  have hown : s.vm.findClass RX0 = some m.cls := findClass_of_methodNamed B.named
  have hlocks := B.notSynchronized
  have hin0 : ∀ w ∈ wsX00, w ∈ wsX0_read := fun _ h => List.mem_cons_of_mem _ (List.mem_append_right _ h)
  have hl := lv_entry ([.ref (ad 0), .int x1, .int x2, .int x3]) (n := 5) (Nat.le_of_ble_eq_true rfl)
  rw [lg_entry_eq]
  generalize (lg_sl ([.ref (ad 0), .int x1, .int x2, .int x3]) ++ List.replicate (5 - (lg_sl ([.ref (ad 0), .int x1, .int x2, .int x3])).length) Slot.unset).toArray = ls at hl ⊢
  have hl : lv_has ls 5 [(0, .ref (ad 0)), (1, .int x1), (2, .int x2), (3, .int x3)] := hl
  obtain ⟨⟨hS1, hS4, hC1, hC4⟩, hn, hmk, hct, hps, hkn, hcx, hcn, hkw⟩ := hG
  refine lv_aload_n hx hb dX0_read_0 rfl (lv_at hl 0 rfl) ?_
  refine lv_iload_n hx hb dX0_read_1 rfl (lv_at hl 1 rfl) ?_
  refine vp_callSi (W.runV (As := [.int x1]) (rest := []) ⟨hx, hb, hml, hown, hts⟩ (c_X0_isClient l dC dI ad cI cJ cII cJJ S C n va mk ct ps kn cx (by omega) x1) (cwV 1 hts gX0_read_X0_isClient rfl rfl rfl (by decide +kernel) ⟨Nat.le_of_ble_eq_true rfl, Nat.le_of_ble_eq_true rfl⟩) ⟨xB_blind, va_recv hK hP (ci := 0) (q0 := 0) rfl rfl, fun U hU hW => ⟨rfl, xB_at hP hK hU hW⟩⟩ rfl rfl hl.1 rfl (lv_room (Nat.le_of_ble_eq_true rfl)) dX0_read_2 ⟨Nat.le_of_ble_eq_true rfl, Nat.le_of_ble_eq_true rfl⟩) (fun r hq => ?_)
  rcases hq with ⟨rfl, cl, hcl, rfl, hdx1⟩ | ⟨rfl, hdx1⟩
  ·
    refine lv_if_eq (tgt := 15) hx hb dX0_read_5 (by decide) (fun q => absurd q (by decide)) (fun _ => ?_)
    refine lv_iload_n hx hb dX0_read_8 rfl (lv_at hl 2 rfl) ?_
    refine vp_callSi (W.runS (As := [.int x2]) (rest := []) ⟨hx, hb, hml, hown, hts⟩ (c_X0_isKey l x2) (va_cwS 1 hts gX0_read_X0_isKey rfl rfl rfl (by decide +kernel) ⟨Nat.le_of_ble_eq_true rfl, Nat.le_of_ble_eq_true rfl⟩) ⟨zB_blind, fun U hU hW => ⟨rfl, trivial⟩⟩ rfl rfl hl.1 rfl (lv_room (Nat.le_of_ble_eq_true rfl)) dX0_read_9 ⟨Nat.le_of_ble_eq_true rfl, Nat.le_of_ble_eq_true rfl⟩) (fun r hq => ?_)
    rcases hq with ⟨rfl, ky, hky, rfl, hdx2⟩ | ⟨rfl, hdx2⟩
    ·
      refine lv_if_ne (tgt := 19) hx hb dX0_read_12 (by decide) (fun _ => ?_) (fun q => absurd q (by decide))
      refine lv_aload_n hx hb dX0_read_19 rfl (lv_at hl 0 rfl) ?_
      refine lv_iload_n hx hb dX0_read_20 rfl (lv_at hl 2 rfl) ?_
      refine lv_aload_n hx hb dX0_read_21 rfl (lv_at hl 0 rfl) ?_
      refine va_get (D := (dC, dI)) (ci := 0) (v := .ref (ad 7)) (C := RX0) (T := TX0) (N := 9) hx hb hts hin0 hown hK hP 0 rfl rfl 8 (by decide) (hts (.fieldLink RX0 45 "DottedSiblings" "contextSets" "[[J") (by decide +kernel)) (fun _ h9 => h9) rfl dX0_read_22 ?_
      refine lv_iload_n hx hb dX0_read_25 rfl (lv_at hl 2 rfl) ?_
      refine zr_aald (r := ad (23 + ky)) hx hb hK hP 7 3 rfl rfl (by omega) (by decide) (zo_at ad 23 (by omega)) dX0_read_26 ?_
      refine lv_iload_n hx hb dX0_read_27 rfl (lv_at hl 1 rfl) ?_
      refine zr_lald (v := lN (cx ky cl)) hx hb hK hP (23 + ky) 1 (xw_cx (by omega)) rfl (by omega) (by omega) rfl dX0_read_28 ?_
      refine lv_iload_n hx hb dX0_read_29 rfl (lv_at hl 3 rfl) ?_
      refine vp_callSi (W.runV (As := [.int (nI ky), .long (lN (cx ky cl)), .int x3]) (rest := []) ⟨hx, hb, hml, hown, hts⟩ (c_X0_siblingAt l dC dI ad cI cJ cII cJJ S C n va mk ct ps kn cx ky (cx ky cl) x3 (by omega) (Nat.lt_trans (z40 (hcx _ _) (hn _)) (by decide)) (hn _) (by omega) (hmk _)) (cwV 3 hts gX0_read_X0_siblingAt rfl rfl rfl (by decide +kernel) ⟨Nat.le_of_ble_eq_true rfl, Nat.le_of_ble_eq_true rfl⟩) ⟨xB_blind, va_recv hK hP (ci := 0) (q0 := 0) rfl rfl, fun U hU hW => ⟨rfl, xB_at hP hK hU hW⟩⟩ rfl rfl hl.1 rfl (lv_room (Nat.le_of_ble_eq_true rfl)) dX0_read_30 ⟨Nat.le_of_ble_eq_true rfl, Nat.le_of_ble_eq_true rfl⟩) (fun r hq => ?_)
      rcases hz : zAt S (n ky) (mk ky) (zNew (n ky) (ps ky) (cx ky cl)) x3 with _ | wr
      ·
        have hq : r = -1 := by rw [hq, hz]; rfl
        subst hq
        refine lv_istore (lv' := [(4, .int (-1)), (0, .ref (ad 0)), (1, .int (nI cl)), (2, .int (nI ky)), (3, .int x3)]) hx hb dX0_read_33 hl (by decide) rfl (fun ls hl => ?_)
        refine lv_iload hx hb dX0_read_35 (lv_at hl 0 rfl) ?_
        refine lv_iconst (v := (-1)) hx hb dX0_read_37 (by decide) ?_
        refine lv_icmp_ne (tgt := 47) hx hb dX0_read_38 (by decide) (fun q => absurd rfl q) (fun _ => ?_)
        refine lv_ldc2 (v := (-9223372036854775808)) hx hb hown (hts (.constantLong RX0 66 (-9223372036854775808)) (by decide +kernel)) dX0_read_41 ?_
        refine lv_goto (tgt := 57) hx hb dX0_read_44 (by decide) ?_
        exact W.lret (v := (-9223372036854775808)) hx hb hr (fun t ht hW => ⟨_, rfl, (by first | exact (zq2_1 hdx1).symm | exact (zq2_2 hdx2).symm | exact (by unfold aRead; rw [zq2_s hdx1 hdx2, hz]; first | done | rfl)), ht⟩) (fun q h => by cases h) dX0_read_57
      ·
        have hq : r = nI wr := by rw [hq, hz]; rfl
        have hwr : wr < _ := zOut_lt _ _ _ hz
        have hn9 := hn ky
        subst hq
        refine lv_istore (lv' := [(4, .int (nI wr)), (0, .ref (ad 0)), (1, .int (nI cl)), (2, .int (nI ky)), (3, .int x3)]) hx hb dX0_read_33 hl (by decide) rfl (fun ls hl => ?_)
        refine lv_iload hx hb dX0_read_35 (lv_at hl 0 rfl) ?_
        refine lv_iconst (v := (-1)) hx hb dX0_read_37 (by decide) ?_
        refine lv_icmp_ne (tgt := 47) hx hb dX0_read_38 (by decide) (fun _ => ?_) (fun q => absurd q (znm1 (by omega)))
        refine lv_aload_n hx hb dX0_read_47 rfl (lv_at hl 1 rfl) ?_
        refine va_get (D := (dC, dI)) (ci := 0) (v := .ref (ad 2)) (C := RX0) (T := TX0) (N := 9) hx hb hts hin0 hown hK hP 0 rfl rfl 3 (by decide) (hts (.fieldLink RX0 28 "DottedSiblings" "values" "[[I") (by decide +kernel)) (fun _ h9 => h9) rfl dX0_read_48 ?_
        refine lv_iload_n hx hb dX0_read_51 rfl (lv_at hl 3 rfl) ?_
        refine zr_aald (r := ad (8 + ky)) hx hb hK hP 2 2 rfl rfl (by omega) (by decide) (zo_at ad 8 (by omega)) dX0_read_52 ?_
        refine lv_iload hx hb dX0_read_53 (lv_at hl 0 rfl) ?_
        refine zr_iald (v := va ky wr) hx hb hK hP (8 + ky) 0 (xw_va (by omega)) rfl (by omega) (by omega) rfl dX0_read_55 ?_
        refine lv_i2l hx hb dX0_read_56 rfl ?_
        exact W.lret (v := (va ky wr).toInt64) hx hb hr (fun t ht hW => ⟨_, rfl, (by first | exact (zq2_1 hdx1).symm | exact (zq2_2 hdx2).symm | exact (by unfold aRead; rw [zq2_s hdx1 hdx2, hz]; first | done | rfl)), ht⟩) (fun q h => by cases h) dX0_read_57
    ·
      refine lv_if_ne (tgt := 19) hx hb dX0_read_12 (by decide) (fun q => absurd q (by decide)) (fun _ => ?_)
      refine lv_ldc2 (v := (-9223372036854775808)) hx hb hown (hts (.constantLong RX0 66 (-9223372036854775808)) (by decide +kernel)) dX0_read_15 ?_
      exact W.lret (v := (-9223372036854775808)) hx hb hr (fun t ht hW => ⟨_, rfl, (by first | exact (zq2_1 hdx1).symm | exact (zq2_2 hdx2).symm | exact (by unfold aRead; rw [zq2_s hdx1 hdx2, hz]; first | done | rfl)), ht⟩) (fun q h => by cases h) dX0_read_18
  ·
    refine lv_if_eq (tgt := 15) hx hb dX0_read_5 (by decide) (fun _ => ?_) (fun q => absurd q (by decide))
    refine lv_ldc2 (v := (-9223372036854775808)) hx hb hown (hts (.constantLong RX0 66 (-9223372036854775808)) (by decide +kernel)) dX0_read_15 ?_
    exact W.lret (v := (-9223372036854775808)) hx hb hr (fun t ht hW => ⟨_, rfl, (by first | exact (zq2_1 hdx1).symm | exact (zq2_2 hdx2).symm | exact (by unfold aRead; rw [zq2_s hdx1 hdx2, hz]; first | done | rfl)), ht⟩) (fun q h => by cases h) dX0_read_18
set_option maxHeartbeats 4000000 in
set_option maxRecDepth 100000 in
/-- siblings -/
theorem c_X0_siblings (l : Launch) (dC : Nat → ClassId) (dI : Nat → Nat → Nat) (ad : Nat → Nat) (cI cJ cII cJJ : ClassId) (S C : Nat) (n : Nat → Nat) (va : Nat → Nat → Int32) (mk ct ps kn cx : Nat → Nat → Nat) (hG : zG S C n mk ct ps kn cx) (x1 x2 : Int32) : Met l yX0_siblings wsX0_siblings ({ frames := 2, cells := 0, slots := 0, locals := 48 }) (va_Pc [.ref (ad 0), .int x1, .int x2] (xB dC dI ad cI cJ cII cJJ S C n va mk ct ps kn cx)) (vp_Si (fun r => r = aSibs S n ps kn x1 x2)) 0 0 (fun _ => False) := by
  refine Met.ofW (cc := cX0_siblings) (maxL := 3) (ret := (some .int)) (by decide) rfl ?_
  intro p e s m args below meth c s₁ B hml hv
  obtain ⟨rfl, hP, hK⟩ := hv
  have hx := B.exec
  have hb := B.bytes
  have hr := B.returns
  have hts := atoms_spec (ws := wsX0_siblings) B.pre
  have hown : s.vm.findClass RX0 = some m.cls := findClass_of_methodNamed B.named
  have hlocks := B.notSynchronized
  have hin0 : ∀ w ∈ wsX00, w ∈ wsX0_siblings := fun _ h => List.mem_cons_of_mem _ (List.mem_append_right _ h)
  have hl := lv_entry ([.ref (ad 0), .int x1, .int x2]) (n := 3) (Nat.le_of_ble_eq_true rfl)
  rw [lg_entry_eq]
  generalize (lg_sl ([.ref (ad 0), .int x1, .int x2]) ++ List.replicate (3 - (lg_sl ([.ref (ad 0), .int x1, .int x2])).length) Slot.unset).toArray = ls at hl ⊢
  have hl : lv_has ls 3 [(0, .ref (ad 0)), (1, .int x1), (2, .int x2)] := hl
  obtain ⟨⟨hS1, hS4, hC1, hC4⟩, hn, hmk, hct, hps, hkn, hcx, hcn, hkw⟩ := hG
  refine lv_aload_n hx hb dX0_siblings_0 rfl (lv_at hl 0 rfl) ?_
  refine lv_iload_n hx hb dX0_siblings_1 rfl (lv_at hl 1 rfl) ?_
  refine vp_callSi (W.runV (As := [.int x1]) (rest := []) ⟨hx, hb, hml, hown, hts⟩ (c_X0_isServer l dC dI ad cI cJ cII cJJ S C n va mk ct ps kn cx (by omega) x1) (cwV 1 hts gX0_siblings_X0_isServer rfl rfl rfl (by decide +kernel) ⟨Nat.le_of_ble_eq_true rfl, Nat.le_of_ble_eq_true rfl⟩) ⟨xB_blind, va_recv hK hP (ci := 0) (q0 := 0) rfl rfl, fun U hU hW => ⟨rfl, xB_at hP hK hU hW⟩⟩ rfl rfl hl.1 rfl (lv_room (Nat.le_of_ble_eq_true rfl)) dX0_siblings_2 ⟨Nat.le_of_ble_eq_true rfl, Nat.le_of_ble_eq_true rfl⟩) (fun r hq => ?_)
  rcases hq with ⟨rfl, sv, hsv, rfl, hdx1⟩ | ⟨rfl, hdx1⟩
  ·
    refine lv_if_eq (tgt := 15) hx hb dX0_siblings_5 (by decide) (fun q => absurd q (by decide)) (fun _ => ?_)
    refine lv_iload_n hx hb dX0_siblings_8 rfl (lv_at hl 2 rfl) ?_
    refine vp_callSi (W.runS (As := [.int x2]) (rest := []) ⟨hx, hb, hml, hown, hts⟩ (c_X0_isKey l x2) (va_cwS 1 hts gX0_siblings_X0_isKey rfl rfl rfl (by decide +kernel) ⟨Nat.le_of_ble_eq_true rfl, Nat.le_of_ble_eq_true rfl⟩) ⟨zB_blind, fun U hU hW => ⟨rfl, trivial⟩⟩ rfl rfl hl.1 rfl (lv_room (Nat.le_of_ble_eq_true rfl)) dX0_siblings_9 ⟨Nat.le_of_ble_eq_true rfl, Nat.le_of_ble_eq_true rfl⟩) (fun r hq => ?_)
    rcases hq with ⟨rfl, ky, hky, rfl, hdx2⟩ | ⟨rfl, hdx2⟩
    ·
      refine lv_if_ne (tgt := 17) hx hb dX0_siblings_12 (by decide) (fun _ => ?_) (fun q => absurd q (by decide))
      refine lv_aload_n hx hb dX0_siblings_17 rfl (lv_at hl 0 rfl) ?_
      refine lv_iload_n hx hb dX0_siblings_18 rfl (lv_at hl 2 rfl) ?_
      refine lv_aload_n hx hb dX0_siblings_19 rfl (lv_at hl 0 rfl) ?_
      refine va_get (D := (dC, dI)) (ci := 0) (v := .ref (ad 6)) (C := RX0) (T := TX0) (N := 9) hx hb hts hin0 hown hK hP 0 rfl rfl 7 (by decide) (hts (.fieldLink RX0 42 "DottedSiblings" "knownSets" "[[J") (by decide +kernel)) (fun _ h9 => h9) rfl dX0_siblings_20 ?_
      refine lv_iload_n hx hb dX0_siblings_23 rfl (lv_at hl 2 rfl) ?_
      refine zr_aald (r := ad (20 + ky)) hx hb hK hP 6 3 rfl rfl (by omega) (by decide) (zo_at ad 20 (by omega)) dX0_siblings_24 ?_
      refine lv_iload_n hx hb dX0_siblings_25 rfl (lv_at hl 1 rfl) ?_
      refine zr_lald (v := lN (kn ky sv)) hx hb hK hP (20 + ky) 1 (xw_kn (by omega)) rfl (by omega) (by omega) rfl dX0_siblings_26 ?_
      refine vp_callSl (W.runV (As := [.int (nI ky), .long (lN (kn ky sv))]) (rest := []) ⟨hx, hb, hml, hown, hts⟩ (c_X0_greatestOf l dC dI ad cI cJ cII cJJ S C n va mk ct ps kn cx ky (kn ky sv) (by omega) (Nat.lt_trans (z40 (hkn _ _) (hn _)) (by decide)) (hn _)) (cwV 2 hts gX0_siblings_X0_greatestOf rfl rfl rfl (by decide +kernel) ⟨Nat.le_of_ble_eq_true rfl, Nat.le_of_ble_eq_true rfl⟩) ⟨xB_blind, va_recv hK hP (ci := 0) (q0 := 0) rfl rfl, fun U hU hW => ⟨rfl, xB_at hP hK hU hW⟩⟩ rfl rfl hl.1 rfl (lv_room (Nat.le_of_ble_eq_true rfl)) dX0_siblings_27 ⟨Nat.le_of_ble_eq_true rfl, Nat.le_of_ble_eq_true rfl⟩) (fun r hq => ?_)
      subst hq
      refine vp_callSi (W.runS (As := [.long (lN (zNew (n ky) (ps ky) (kn ky sv)))]) (rest := []) ⟨hx, hb, hml, hown, hts⟩ (c_J13_bitCount_95d88 l (zNew (n ky) (ps ky) (kn ky sv)) (Nat.lt_trans (Nat.lt_of_le_of_lt (zNew_le _ _ _) (z40 (hkn _ _) (hn _))) (by decide))) (va_cwS 1 hts gX0_siblings_J13_bitCount_95d88 rfl rfl rfl (by decide +kernel) ⟨Nat.le_of_ble_eq_true rfl, Nat.le_of_ble_eq_true rfl⟩) ⟨zB_blind, fun U hU hW => ⟨rfl, trivial⟩⟩ rfl rfl hl.1 rfl (lv_room (Nat.le_of_ble_eq_true rfl)) dX0_siblings_30 ⟨Nat.le_of_ble_eq_true rfl, Nat.le_of_ble_eq_true rfl⟩) (fun r hq => ?_)
      have hq := hq.trans (congrArg nI (zSize64 (Nat.lt_of_le_of_lt (zNew_le _ _ _) (z40 (hkn _ _) (hn _)))))
      subst hq
      exact W.iret (v := nI (zSize (zNew (n ky) (ps ky) (kn ky sv)))) hx hb hr (fun t ht hW => ⟨_, rfl, (by first | exact (zq2_1 hdx1).symm | exact (zq2_2 hdx2).symm | exact (by unfold aSibs; rw [zq2_s hdx1 hdx2]; first | done | rfl)), ht⟩) (fun q h => by cases h) dX0_siblings_33
    ·
      refine lv_if_ne (tgt := 17) hx hb dX0_siblings_12 (by decide) (fun q => absurd q (by decide)) (fun _ => ?_)
      refine lv_iconst (v := (-1)) hx hb dX0_siblings_15 (by decide) ?_
      exact W.iret (v := (-1)) hx hb hr (fun t ht hW => ⟨_, rfl, (by first | exact (zq2_1 hdx1).symm | exact (zq2_2 hdx2).symm | exact (by unfold aSibs; rw [zq2_s hdx1 hdx2]; first | done | rfl)), ht⟩) (fun q h => by cases h) dX0_siblings_16
  ·
    refine lv_if_eq (tgt := 15) hx hb dX0_siblings_5 (by decide) (fun _ => ?_) (fun q => absurd q (by decide))
    refine lv_iconst (v := (-1)) hx hb dX0_siblings_15 (by decide) ?_
    exact W.iret (v := (-1)) hx hb hr (fun t ht hW => ⟨_, rfl, (by first | exact (zq2_1 hdx1).symm | exact (zq2_2 hdx2).symm | exact (by unfold aSibs; rw [zq2_s hdx1 hdx2]; first | done | rfl)), ht⟩) (fun q h => by cases h) dX0_siblings_16
set_option maxHeartbeats 4000000 in
set_option maxRecDepth 100000 in
/-- sibling -/
theorem c_X0_sibling (l : Launch) (dC : Nat → ClassId) (dI : Nat → Nat → Nat) (ad : Nat → Nat) (cI cJ cII cJJ : ClassId) (S C : Nat) (n : Nat → Nat) (va : Nat → Nat → Int32) (mk ct ps kn cx : Nat → Nat → Nat) (hG : zG S C n mk ct ps kn cx) (x1 x2 x3 x4 : Int32) : Met l yX0_sibling wsX0_sibling ({ frames := 3, cells := 0, slots := 0, locals := 77 }) (va_Pc [.ref (ad 0), .int x1, .int x2, .int x3, .int x4] (xB dC dI ad cI cJ cII cJJ S C n va mk ct ps kn cx)) (vp_Sl (fun r => r = aSib S n va mk ct ps kn x1 x2 x3 x4)) 0 0 (fun _ => False) := by
  refine Met.ofW (cc := cX0_sibling) (maxL := 6) (ret := (some .long)) (by decide) rfl ?_
  intro p e s m args below meth c s₁ B hml hv
  obtain ⟨rfl, hP, hK⟩ := hv
  have hx := B.exec
  have hb := B.bytes
  have hr := B.returns
  have hts := atoms_spec (ws := wsX0_sibling) B.pre
  have hown : s.vm.findClass RX0 = some m.cls := findClass_of_methodNamed B.named
  have hlocks := B.notSynchronized
  have hin0 : ∀ w ∈ wsX00, w ∈ wsX0_sibling := fun _ h => List.mem_cons_of_mem _ (List.mem_append_right _ h)
  have hl := lv_entry ([.ref (ad 0), .int x1, .int x2, .int x3, .int x4]) (n := 6) (Nat.le_of_ble_eq_true rfl)
  rw [lg_entry_eq]
  generalize (lg_sl ([.ref (ad 0), .int x1, .int x2, .int x3, .int x4]) ++ List.replicate (6 - (lg_sl ([.ref (ad 0), .int x1, .int x2, .int x3, .int x4])).length) Slot.unset).toArray = ls at hl ⊢
  have hl : lv_has ls 6 [(0, .ref (ad 0)), (1, .int x1), (2, .int x2), (3, .int x3), (4, .int x4)] := hl
  obtain ⟨⟨hS1, hS4, hC1, hC4⟩, hn, hmk, hct, hps, hkn, hcx, hcn, hkw⟩ := hG
  refine lv_aload_n hx hb dX0_sibling_0 rfl (lv_at hl 0 rfl) ?_
  refine lv_iload_n hx hb dX0_sibling_1 rfl (lv_at hl 1 rfl) ?_
  refine vp_callSi (W.runV (As := [.int x1]) (rest := []) ⟨hx, hb, hml, hown, hts⟩ (c_X0_isServer l dC dI ad cI cJ cII cJJ S C n va mk ct ps kn cx (by omega) x1) (cwV 1 hts gX0_sibling_X0_isServer rfl rfl rfl (by decide +kernel) ⟨Nat.le_of_ble_eq_true rfl, Nat.le_of_ble_eq_true rfl⟩) ⟨xB_blind, va_recv hK hP (ci := 0) (q0 := 0) rfl rfl, fun U hU hW => ⟨rfl, xB_at hP hK hU hW⟩⟩ rfl rfl hl.1 rfl (lv_room (Nat.le_of_ble_eq_true rfl)) dX0_sibling_2 ⟨Nat.le_of_ble_eq_true rfl, Nat.le_of_ble_eq_true rfl⟩) (fun r hq => ?_)
  rcases hq with ⟨rfl, sv, hsv, rfl, hdx1⟩ | ⟨rfl, hdx1⟩
  ·
    refine lv_if_eq (tgt := 15) hx hb dX0_sibling_5 (by decide) (fun q => absurd q (by decide)) (fun _ => ?_)
    refine lv_iload_n hx hb dX0_sibling_8 rfl (lv_at hl 2 rfl) ?_
    refine vp_callSi (W.runS (As := [.int x2]) (rest := []) ⟨hx, hb, hml, hown, hts⟩ (c_X0_isKey l x2) (va_cwS 1 hts gX0_sibling_X0_isKey rfl rfl rfl (by decide +kernel) ⟨Nat.le_of_ble_eq_true rfl, Nat.le_of_ble_eq_true rfl⟩) ⟨zB_blind, fun U hU hW => ⟨rfl, trivial⟩⟩ rfl rfl hl.1 rfl (lv_room (Nat.le_of_ble_eq_true rfl)) dX0_sibling_9 ⟨Nat.le_of_ble_eq_true rfl, Nat.le_of_ble_eq_true rfl⟩) (fun r hq => ?_)
    rcases hq with ⟨rfl, ky, hky, rfl, hdx2⟩ | ⟨rfl, hdx2⟩
    ·
      refine lv_if_ne (tgt := 19) hx hb dX0_sibling_12 (by decide) (fun _ => ?_) (fun q => absurd q (by decide))
      refine lv_aload_n hx hb dX0_sibling_19 rfl (lv_at hl 0 rfl) ?_
      refine lv_iload_n hx hb dX0_sibling_20 rfl (lv_at hl 2 rfl) ?_
      refine lv_aload_n hx hb dX0_sibling_21 rfl (lv_at hl 0 rfl) ?_
      refine va_get (D := (dC, dI)) (ci := 0) (v := .ref (ad 6)) (C := RX0) (T := TX0) (N := 9) hx hb hts hin0 hown hK hP 0 rfl rfl 7 (by decide) (hts (.fieldLink RX0 42 "DottedSiblings" "knownSets" "[[J") (by decide +kernel)) (fun _ h9 => h9) rfl dX0_sibling_22 ?_
      refine lv_iload_n hx hb dX0_sibling_25 rfl (lv_at hl 2 rfl) ?_
      refine zr_aald (r := ad (20 + ky)) hx hb hK hP 6 3 rfl rfl (by omega) (by decide) (zo_at ad 20 (by omega)) dX0_sibling_26 ?_
      refine lv_iload_n hx hb dX0_sibling_27 rfl (lv_at hl 1 rfl) ?_
      refine zr_lald (v := lN (kn ky sv)) hx hb hK hP (20 + ky) 1 (xw_kn (by omega)) rfl (by omega) (by omega) rfl dX0_sibling_28 ?_
      refine lv_iload_n hx hb dX0_sibling_29 rfl (lv_at hl 3 rfl) ?_
      refine vp_callSi (W.runV (As := [.int (nI ky), .long (lN (kn ky sv)), .int x3]) (rest := []) ⟨hx, hb, hml, hown, hts⟩ (c_X0_siblingAt l dC dI ad cI cJ cII cJJ S C n va mk ct ps kn cx ky (kn ky sv) x3 (by omega) (Nat.lt_trans (z40 (hkn _ _) (hn _)) (by decide)) (hn _) (by omega) (hmk _)) (cwV 3 hts gX0_sibling_X0_siblingAt rfl rfl rfl (by decide +kernel) ⟨Nat.le_of_ble_eq_true rfl, Nat.le_of_ble_eq_true rfl⟩) ⟨xB_blind, va_recv hK hP (ci := 0) (q0 := 0) rfl rfl, fun U hU hW => ⟨rfl, xB_at hP hK hU hW⟩⟩ rfl rfl hl.1 rfl (lv_room (Nat.le_of_ble_eq_true rfl)) dX0_sibling_30 ⟨Nat.le_of_ble_eq_true rfl, Nat.le_of_ble_eq_true rfl⟩) (fun r hq => ?_)
      rcases hz : zAt S (n ky) (mk ky) (zNew (n ky) (ps ky) (kn ky sv)) x3 with _ | wr
      ·
        have hq : r = -1 := by rw [hq, hz]; rfl
        subst hq
        refine lv_istore (lv' := [(5, .int (-1)), (0, .ref (ad 0)), (1, .int (nI sv)), (2, .int (nI ky)), (3, .int x3), (4, .int x4)]) hx hb dX0_sibling_33 hl (by decide) rfl (fun ls hl => ?_)
        refine lv_iload hx hb dX0_sibling_35 (lv_at hl 0 rfl) ?_
        refine lv_iconst (v := (-1)) hx hb dX0_sibling_37 (by decide) ?_
        refine lv_icmp_ne (tgt := 47) hx hb dX0_sibling_38 (by decide) (fun q => absurd rfl q) (fun _ => ?_)
        refine lv_ldc2 (v := (-9223372036854775808)) hx hb hown (hts (.constantLong RX0 66 (-9223372036854775808)) (by decide +kernel)) dX0_sibling_41 ?_
        refine lv_goto (tgt := 56) hx hb dX0_sibling_44 (by decide) ?_
        exact W.lret (v := (-9223372036854775808)) hx hb hr (fun t ht hW => ⟨_, rfl, (by first | exact (zq2_1 hdx1).symm | exact (zq2_2 hdx2).symm | exact (by unfold aSib; rw [zq2_s hdx1 hdx2, hz]; first | done | rfl)), ht⟩) (fun q h => by cases h) dX0_sibling_56
      ·
        have hq : r = nI wr := by rw [hq, hz]; rfl
        have hwr : wr < _ := zOut_lt _ _ _ hz
        have hn9 := hn ky
        subst hq
        refine lv_istore (lv' := [(5, .int (nI wr)), (0, .ref (ad 0)), (1, .int (nI sv)), (2, .int (nI ky)), (3, .int x3), (4, .int x4)]) hx hb dX0_sibling_33 hl (by decide) rfl (fun ls hl => ?_)
        refine lv_iload hx hb dX0_sibling_35 (lv_at hl 0 rfl) ?_
        refine lv_iconst (v := (-1)) hx hb dX0_sibling_37 (by decide) ?_
        refine lv_icmp_ne (tgt := 47) hx hb dX0_sibling_38 (by decide) (fun _ => ?_) (fun q => absurd q (znm1 (by omega)))
        refine lv_aload_n hx hb dX0_sibling_47 rfl (lv_at hl 1 rfl) ?_
        refine lv_iload_n hx hb dX0_sibling_48 rfl (lv_at hl 3 rfl) ?_
        refine lv_iload hx hb dX0_sibling_49 (lv_at hl 0 rfl) ?_
        refine lv_iload hx hb dX0_sibling_51 (lv_at hl 5 rfl) ?_
        refine vp_callSl (W.runV (As := [.int (nI ky), .int (nI wr), .int x4]) (rest := []) ⟨hx, hb, hml, hown, hts⟩ (c_X0_detailOf l dC dI ad cI cJ cII cJJ S C n va mk ct ps kn cx ky wr x4 (by omega) (by omega)) (cwV 3 hts gX0_sibling_X0_detailOf rfl rfl rfl (by decide +kernel) ⟨Nat.le_of_ble_eq_true rfl, Nat.le_of_ble_eq_true rfl⟩) ⟨xB_blind, va_recv hK hP (ci := 0) (q0 := 0) rfl rfl, fun U hU hW => ⟨rfl, xB_at hP hK hU hW⟩⟩ rfl rfl hl.1 rfl (lv_room (Nat.le_of_ble_eq_true rfl)) dX0_sibling_53 ⟨Nat.le_of_ble_eq_true rfl, Nat.le_of_ble_eq_true rfl⟩) (fun r hq => ?_)
        subst hq
        exact W.lret (v := zDet x4 (va ky wr) (mk ky wr) (ct ky wr) wr) hx hb hr (fun t ht hW => ⟨_, rfl, (by first | exact (zq2_1 hdx1).symm | exact (zq2_2 hdx2).symm | exact (by unfold aSib; rw [zq2_s hdx1 hdx2, hz]; first | done | rfl)), ht⟩) (fun q h => by cases h) dX0_sibling_56
    ·
      refine lv_if_ne (tgt := 19) hx hb dX0_sibling_12 (by decide) (fun q => absurd q (by decide)) (fun _ => ?_)
      refine lv_ldc2 (v := (-9223372036854775808)) hx hb hown (hts (.constantLong RX0 66 (-9223372036854775808)) (by decide +kernel)) dX0_sibling_15 ?_
      exact W.lret (v := (-9223372036854775808)) hx hb hr (fun t ht hW => ⟨_, rfl, (by first | exact (zq2_1 hdx1).symm | exact (zq2_2 hdx2).symm | exact (by unfold aSib; rw [zq2_s hdx1 hdx2, hz]; first | done | rfl)), ht⟩) (fun q h => by cases h) dX0_sibling_18
  ·
    refine lv_if_eq (tgt := 15) hx hb dX0_sibling_5 (by decide) (fun _ => ?_) (fun q => absurd q (by decide))
    refine lv_ldc2 (v := (-9223372036854775808)) hx hb hown (hts (.constantLong RX0 66 (-9223372036854775808)) (by decide +kernel)) dX0_sibling_15 ?_
    exact W.lret (v := (-9223372036854775808)) hx hb hr (fun t ht hW => ⟨_, rfl, (by first | exact (zq2_1 hdx1).symm | exact (zq2_2 hdx2).symm | exact (by unfold aSib; rw [zq2_s hdx1 hdx2, hz]; first | done | rfl)), ht⟩) (fun q h => by cases h) dX0_sibling_18
set_option maxHeartbeats 4000000 in
set_option maxRecDepth 100000 in
/-- known -/
theorem c_X0_known (l : Launch) (dC : Nat → ClassId) (dI : Nat → Nat → Nat) (ad : Nat → Nat) (cI cJ cII cJJ : ClassId) (S C : Nat) (n : Nat → Nat) (va : Nat → Nat → Int32) (mk ct ps kn cx : Nat → Nat → Nat) (hG : zG S C n mk ct ps kn cx) (x1 x2 x3 : Int32) : Met l yX0_known wsX0_known ({ frames := 2, cells := 0, slots := 0, locals := 48 }) (va_Pc [.ref (ad 0), .int x1, .int x2, .int x3] (xB dC dI ad cI cJ cII cJJ S C n va mk ct ps kn cx)) (vp_Si (fun r => r = aKnown S n mk ct kn x1 x2 x3)) 0 0 (fun _ => False) := by
  refine Met.ofW (cc := cX0_known) (maxL := 4) (ret := (some .int)) (by decide) rfl ?_
  intro p e s m args below meth c s₁ B hml hv
  obtain ⟨rfl, hP, hK⟩ := hv
  have hx := B.exec
  have hb := B.bytes
  have hr := B.returns
  have hts := atoms_spec (ws := wsX0_known) B.pre
  have hown : s.vm.findClass RX0 = some m.cls := findClass_of_methodNamed B.named
  have hlocks := B.notSynchronized
  have hin0 : ∀ w ∈ wsX00, w ∈ wsX0_known := fun _ h => List.mem_cons_of_mem _ (List.mem_append_right _ h)
  have hl := lv_entry ([.ref (ad 0), .int x1, .int x2, .int x3]) (n := 4) (Nat.le_of_ble_eq_true rfl)
  rw [lg_entry_eq]
  generalize (lg_sl ([.ref (ad 0), .int x1, .int x2, .int x3]) ++ List.replicate (4 - (lg_sl ([.ref (ad 0), .int x1, .int x2, .int x3])).length) Slot.unset).toArray = ls at hl ⊢
  have hl : lv_has ls 4 [(0, .ref (ad 0)), (1, .int x1), (2, .int x2), (3, .int x3)] := hl
  obtain ⟨⟨hS1, hS4, hC1, hC4⟩, hn, hmk, hct, hps, hkn, hcx, hcn, hkw⟩ := hG
  refine lv_aload_n hx hb dX0_known_0 rfl (lv_at hl 0 rfl) ?_
  refine lv_iload_n hx hb dX0_known_1 rfl (lv_at hl 1 rfl) ?_
  refine vp_callSi (W.runV (As := [.int x1]) (rest := []) ⟨hx, hb, hml, hown, hts⟩ (c_X0_isServer l dC dI ad cI cJ cII cJJ S C n va mk ct ps kn cx (by omega) x1) (cwV 1 hts gX0_known_X0_isServer rfl rfl rfl (by decide +kernel) ⟨Nat.le_of_ble_eq_true rfl, Nat.le_of_ble_eq_true rfl⟩) ⟨xB_blind, va_recv hK hP (ci := 0) (q0 := 0) rfl rfl, fun U hU hW => ⟨rfl, xB_at hP hK hU hW⟩⟩ rfl rfl hl.1 rfl (lv_room (Nat.le_of_ble_eq_true rfl)) dX0_known_2 ⟨Nat.le_of_ble_eq_true rfl, Nat.le_of_ble_eq_true rfl⟩) (fun r hq => ?_)
  rcases hq with ⟨rfl, sv, hsv, rfl, hdx1⟩ | ⟨rfl, hdx1⟩
  ·
    refine lv_if_eq (tgt := 23) hx hb dX0_known_5 (by decide) (fun q => absurd q (by decide)) (fun _ => ?_)
    refine lv_iload_n hx hb dX0_known_8 rfl (lv_at hl 2 rfl) ?_
    refine vp_callSi (W.runS (As := [.int x2]) (rest := []) ⟨hx, hb, hml, hown, hts⟩ (c_X0_isKey l x2) (va_cwS 1 hts gX0_known_X0_isKey rfl rfl rfl (by decide +kernel) ⟨Nat.le_of_ble_eq_true rfl, Nat.le_of_ble_eq_true rfl⟩) ⟨zB_blind, fun U hU hW => ⟨rfl, trivial⟩⟩ rfl rfl hl.1 rfl (lv_room (Nat.le_of_ble_eq_true rfl)) dX0_known_9 ⟨Nat.le_of_ble_eq_true rfl, Nat.le_of_ble_eq_true rfl⟩) (fun r hq => ?_)
    rcases hq with ⟨rfl, ky, hky, rfl, hdx2⟩ | ⟨rfl, hdx2⟩
    ·
      refine lv_if_eq (tgt := 23) hx hb dX0_known_12 (by decide) (fun q => absurd q (by decide)) (fun _ => ?_)
      refine lv_aload_n hx hb dX0_known_15 rfl (lv_at hl 0 rfl) ?_
      refine lv_iload_n hx hb dX0_known_16 rfl (lv_at hl 3 rfl) ?_
      refine vp_callSi (W.runV (As := [.int x3]) (rest := []) ⟨hx, hb, hml, hown, hts⟩ (c_X0_isServer l dC dI ad cI cJ cII cJJ S C n va mk ct ps kn cx (by omega) x3) (cwV 1 hts gX0_known_X0_isServer rfl rfl rfl (by decide +kernel) ⟨Nat.le_of_ble_eq_true rfl, Nat.le_of_ble_eq_true rfl⟩) ⟨xB_blind, va_recv hK hP (ci := 0) (q0 := 0) rfl rfl, fun U hU hW => ⟨rfl, xB_at hP hK hU hW⟩⟩ rfl rfl hl.1 rfl (lv_room (Nat.le_of_ble_eq_true rfl)) dX0_known_17 ⟨Nat.le_of_ble_eq_true rfl, Nat.le_of_ble_eq_true rfl⟩) (fun r hq => ?_)
      rcases hq with ⟨rfl, ov, hov, rfl, hdx3⟩ | ⟨rfl, hdx3⟩
      ·
        refine lv_if_ne (tgt := 25) hx hb dX0_known_20 (by decide) (fun _ => ?_) (fun q => absurd q (by decide))
        refine lv_aload_n hx hb dX0_known_25 rfl (lv_at hl 0 rfl) ?_
        refine lv_iload_n hx hb dX0_known_26 rfl (lv_at hl 2 rfl) ?_
        refine lv_aload_n hx hb dX0_known_27 rfl (lv_at hl 0 rfl) ?_
        refine va_get (D := (dC, dI)) (ci := 0) (v := .ref (ad 6)) (C := RX0) (T := TX0) (N := 9) hx hb hts hin0 hown hK hP 0 rfl rfl 7 (by decide) (hts (.fieldLink RX0 42 "DottedSiblings" "knownSets" "[[J") (by decide +kernel)) (fun _ h9 => h9) rfl dX0_known_28 ?_
        refine lv_iload_n hx hb dX0_known_31 rfl (lv_at hl 2 rfl) ?_
        refine zr_aald (r := ad (20 + ky)) hx hb hK hP 6 3 rfl rfl (by omega) (by decide) (zo_at ad 20 (by omega)) dX0_known_32 ?_
        refine lv_iload_n hx hb dX0_known_33 rfl (lv_at hl 1 rfl) ?_
        refine zr_lald (v := lN (kn ky sv)) hx hb hK hP (20 + ky) 1 (xw_kn (by omega)) rfl (by omega) (by omega) rfl dX0_known_34 ?_
        refine lv_iload_n hx hb dX0_known_35 rfl (lv_at hl 3 rfl) ?_
        refine vp_callSi (W.runV (As := [.int (nI ky), .long (lN (kn ky sv)), .int (nI ov)]) (rest := []) ⟨hx, hb, hml, hown, hts⟩ (c_X0_vectorAt l dC dI ad cI cJ cII cJJ S C n va mk ct ps kn cx ky (kn ky sv) ov (by omega) (Nat.lt_trans (z40 (hkn _ _) (hn _)) (by decide)) (by omega) (hn _) (fun w h => Nat.lt_of_lt_of_le (hmk _ w h) hS4) (hct _)) (cwV 3 hts gX0_known_X0_vectorAt rfl rfl rfl (by decide +kernel) ⟨Nat.le_of_ble_eq_true rfl, Nat.le_of_ble_eq_true rfl⟩) ⟨xB_blind, va_recv hK hP (ci := 0) (q0 := 0) rfl rfl, fun U hU hW => ⟨rfl, xB_at hP hK hU hW⟩⟩ rfl rfl hl.1 rfl (lv_room (Nat.le_of_ble_eq_true rfl)) dX0_known_36 ⟨Nat.le_of_ble_eq_true rfl, Nat.le_of_ble_eq_true rfl⟩) (fun r hq => ?_)
        subst hq
        exact W.iret (v := nI (zVec (ct ky) (zHit (mk ky) (kn ky sv) ov) (n ky))) hx hb hr (fun t ht hW => ⟨_, rfl, (by first | exact (zq3_1 hdx1).symm | exact (zq3_2 hdx2).symm | exact (zq3_3 hdx3).symm | exact (by unfold aKnown; rw [zq3_s hdx1 hdx2 hdx3]; first | done | rfl)), ht⟩) (fun q h => by cases h) dX0_known_39
      ·
        refine lv_if_ne (tgt := 25) hx hb dX0_known_20 (by decide) (fun q => absurd q (by decide)) (fun _ => ?_)
        refine lv_iconst (v := (-1)) hx hb dX0_known_23 (by decide) ?_
        exact W.iret (v := (-1)) hx hb hr (fun t ht hW => ⟨_, rfl, (by first | exact (zq3_1 hdx1).symm | exact (zq3_2 hdx2).symm | exact (zq3_3 hdx3).symm | exact (by unfold aKnown; rw [zq3_s hdx1 hdx2 hdx3]; first | done | rfl)), ht⟩) (fun q h => by cases h) dX0_known_24
    ·
      refine lv_if_eq (tgt := 23) hx hb dX0_known_12 (by decide) (fun _ => ?_) (fun q => absurd q (by decide))
      refine lv_iconst (v := (-1)) hx hb dX0_known_23 (by decide) ?_
      exact W.iret (v := (-1)) hx hb hr (fun t ht hW => ⟨_, rfl, (by first | exact (zq3_1 hdx1).symm | exact (zq3_2 hdx2).symm | exact (zq3_3 hdx3).symm | exact (by unfold aKnown; rw [zq3_s hdx1 hdx2 hdx3]; first | done | rfl)), ht⟩) (fun q h => by cases h) dX0_known_24
  ·
    refine lv_if_eq (tgt := 23) hx hb dX0_known_5 (by decide) (fun _ => ?_) (fun q => absurd q (by decide))
    refine lv_iconst (v := (-1)) hx hb dX0_known_23 (by decide) ?_
    exact W.iret (v := (-1)) hx hb hr (fun t ht hW => ⟨_, rfl, (by first | exact (zq3_1 hdx1).symm | exact (zq3_2 hdx2).symm | exact (zq3_3 hdx3).symm | exact (by unfold aKnown; rw [zq3_s hdx1 hdx2 hdx3]; first | done | rfl)), ht⟩) (fun q h => by cases h) dX0_known_24
set_option maxHeartbeats 4000000 in
set_option maxRecDepth 100000 in
/-- context -/
theorem c_X0_context (l : Launch) (dC : Nat → ClassId) (dI : Nat → Nat → Nat) (ad : Nat → Nat) (cI cJ cII cJJ : ClassId) (S C : Nat) (n : Nat → Nat) (va : Nat → Nat → Int32) (mk ct ps kn cx : Nat → Nat → Nat) (hG : zG S C n mk ct ps kn cx) (x1 x2 x3 : Int32) : Met l yX0_context wsX0_context ({ frames := 2, cells := 0, slots := 0, locals := 48 }) (va_Pc [.ref (ad 0), .int x1, .int x2, .int x3] (xB dC dI ad cI cJ cII cJJ S C n va mk ct ps kn cx)) (vp_Si (fun r => r = aCtx S C n mk ct cx x1 x2 x3)) 0 0 (fun _ => False) := by
  refine Met.ofW (cc := cX0_context) (maxL := 4) (ret := (some .int)) (by decide) rfl ?_
  intro p e s m args below meth c s₁ B hml hv
  obtain ⟨rfl, hP, hK⟩ := hv
  have hx := B.exec
  have hb := B.bytes
  have hr := B.returns
  have hts := atoms_spec (ws := wsX0_context) B.pre
  have hown : s.vm.findClass RX0 = some m.cls := findClass_of_methodNamed B.named
  have hlocks := B.notSynchronized
  have hin0 : ∀ w ∈ wsX00, w ∈ wsX0_context := fun _ h => List.mem_cons_of_mem _ (List.mem_append_right _ h)
  have hl := lv_entry ([.ref (ad 0), .int x1, .int x2, .int x3]) (n := 4) (Nat.le_of_ble_eq_true rfl)
  rw [lg_entry_eq]
  generalize (lg_sl ([.ref (ad 0), .int x1, .int x2, .int x3]) ++ List.replicate (4 - (lg_sl ([.ref (ad 0), .int x1, .int x2, .int x3])).length) Slot.unset).toArray = ls at hl ⊢
  have hl : lv_has ls 4 [(0, .ref (ad 0)), (1, .int x1), (2, .int x2), (3, .int x3)] := hl
  obtain ⟨⟨hS1, hS4, hC1, hC4⟩, hn, hmk, hct, hps, hkn, hcx, hcn, hkw⟩ := hG
  refine lv_aload_n hx hb dX0_context_0 rfl (lv_at hl 0 rfl) ?_
  refine lv_iload_n hx hb dX0_context_1 rfl (lv_at hl 1 rfl) ?_
  refine vp_callSi (W.runV (As := [.int x1]) (rest := []) ⟨hx, hb, hml, hown, hts⟩ (c_X0_isClient l dC dI ad cI cJ cII cJJ S C n va mk ct ps kn cx (by omega) x1) (cwV 1 hts gX0_context_X0_isClient rfl rfl rfl (by decide +kernel) ⟨Nat.le_of_ble_eq_true rfl, Nat.le_of_ble_eq_true rfl⟩) ⟨xB_blind, va_recv hK hP (ci := 0) (q0 := 0) rfl rfl, fun U hU hW => ⟨rfl, xB_at hP hK hU hW⟩⟩ rfl rfl hl.1 rfl (lv_room (Nat.le_of_ble_eq_true rfl)) dX0_context_2 ⟨Nat.le_of_ble_eq_true rfl, Nat.le_of_ble_eq_true rfl⟩) (fun r hq => ?_)
  rcases hq with ⟨rfl, cl, hcl, rfl, hdx1⟩ | ⟨rfl, hdx1⟩
  ·
    refine lv_if_eq (tgt := 23) hx hb dX0_context_5 (by decide) (fun q => absurd q (by decide)) (fun _ => ?_)
    refine lv_iload_n hx hb dX0_context_8 rfl (lv_at hl 2 rfl) ?_
    refine vp_callSi (W.runS (As := [.int x2]) (rest := []) ⟨hx, hb, hml, hown, hts⟩ (c_X0_isKey l x2) (va_cwS 1 hts gX0_context_X0_isKey rfl rfl rfl (by decide +kernel) ⟨Nat.le_of_ble_eq_true rfl, Nat.le_of_ble_eq_true rfl⟩) ⟨zB_blind, fun U hU hW => ⟨rfl, trivial⟩⟩ rfl rfl hl.1 rfl (lv_room (Nat.le_of_ble_eq_true rfl)) dX0_context_9 ⟨Nat.le_of_ble_eq_true rfl, Nat.le_of_ble_eq_true rfl⟩) (fun r hq => ?_)
    rcases hq with ⟨rfl, ky, hky, rfl, hdx2⟩ | ⟨rfl, hdx2⟩
    ·
      refine lv_if_eq (tgt := 23) hx hb dX0_context_12 (by decide) (fun q => absurd q (by decide)) (fun _ => ?_)
      refine lv_aload_n hx hb dX0_context_15 rfl (lv_at hl 0 rfl) ?_
      refine lv_iload_n hx hb dX0_context_16 rfl (lv_at hl 3 rfl) ?_
      refine vp_callSi (W.runV (As := [.int x3]) (rest := []) ⟨hx, hb, hml, hown, hts⟩ (c_X0_isServer l dC dI ad cI cJ cII cJJ S C n va mk ct ps kn cx (by omega) x3) (cwV 1 hts gX0_context_X0_isServer rfl rfl rfl (by decide +kernel) ⟨Nat.le_of_ble_eq_true rfl, Nat.le_of_ble_eq_true rfl⟩) ⟨xB_blind, va_recv hK hP (ci := 0) (q0 := 0) rfl rfl, fun U hU hW => ⟨rfl, xB_at hP hK hU hW⟩⟩ rfl rfl hl.1 rfl (lv_room (Nat.le_of_ble_eq_true rfl)) dX0_context_17 ⟨Nat.le_of_ble_eq_true rfl, Nat.le_of_ble_eq_true rfl⟩) (fun r hq => ?_)
      rcases hq with ⟨rfl, ov, hov, rfl, hdx3⟩ | ⟨rfl, hdx3⟩
      ·
        refine lv_if_ne (tgt := 25) hx hb dX0_context_20 (by decide) (fun _ => ?_) (fun q => absurd q (by decide))
        refine lv_aload_n hx hb dX0_context_25 rfl (lv_at hl 0 rfl) ?_
        refine lv_iload_n hx hb dX0_context_26 rfl (lv_at hl 2 rfl) ?_
        refine lv_aload_n hx hb dX0_context_27 rfl (lv_at hl 0 rfl) ?_
        refine va_get (D := (dC, dI)) (ci := 0) (v := .ref (ad 7)) (C := RX0) (T := TX0) (N := 9) hx hb hts hin0 hown hK hP 0 rfl rfl 8 (by decide) (hts (.fieldLink RX0 45 "DottedSiblings" "contextSets" "[[J") (by decide +kernel)) (fun _ h9 => h9) rfl dX0_context_28 ?_
        refine lv_iload_n hx hb dX0_context_31 rfl (lv_at hl 2 rfl) ?_
        refine zr_aald (r := ad (23 + ky)) hx hb hK hP 7 3 rfl rfl (by omega) (by decide) (zo_at ad 23 (by omega)) dX0_context_32 ?_
        refine lv_iload_n hx hb dX0_context_33 rfl (lv_at hl 1 rfl) ?_
        refine zr_lald (v := lN (cx ky cl)) hx hb hK hP (23 + ky) 1 (xw_cx (by omega)) rfl (by omega) (by omega) rfl dX0_context_34 ?_
        refine lv_iload_n hx hb dX0_context_35 rfl (lv_at hl 3 rfl) ?_
        refine vp_callSi (W.runV (As := [.int (nI ky), .long (lN (cx ky cl)), .int (nI ov)]) (rest := []) ⟨hx, hb, hml, hown, hts⟩ (c_X0_vectorAt l dC dI ad cI cJ cII cJJ S C n va mk ct ps kn cx ky (cx ky cl) ov (by omega) (Nat.lt_trans (z40 (hcx _ _) (hn _)) (by decide)) (by omega) (hn _) (fun w h => Nat.lt_of_lt_of_le (hmk _ w h) hS4) (hct _)) (cwV 3 hts gX0_context_X0_vectorAt rfl rfl rfl (by decide +kernel) ⟨Nat.le_of_ble_eq_true rfl, Nat.le_of_ble_eq_true rfl⟩) ⟨xB_blind, va_recv hK hP (ci := 0) (q0 := 0) rfl rfl, fun U hU hW => ⟨rfl, xB_at hP hK hU hW⟩⟩ rfl rfl hl.1 rfl (lv_room (Nat.le_of_ble_eq_true rfl)) dX0_context_36 ⟨Nat.le_of_ble_eq_true rfl, Nat.le_of_ble_eq_true rfl⟩) (fun r hq => ?_)
        subst hq
        exact W.iret (v := nI (zVec (ct ky) (zHit (mk ky) (cx ky cl) ov) (n ky))) hx hb hr (fun t ht hW => ⟨_, rfl, (by first | exact (zq3_1 hdx1).symm | exact (zq3_2 hdx2).symm | exact (zq3_3 hdx3).symm | exact (by unfold aCtx; rw [zq3_s hdx1 hdx2 hdx3]; first | done | rfl)), ht⟩) (fun q h => by cases h) dX0_context_39
      ·
        refine lv_if_ne (tgt := 25) hx hb dX0_context_20 (by decide) (fun q => absurd q (by decide)) (fun _ => ?_)
        refine lv_iconst (v := (-1)) hx hb dX0_context_23 (by decide) ?_
        exact W.iret (v := (-1)) hx hb hr (fun t ht hW => ⟨_, rfl, (by first | exact (zq3_1 hdx1).symm | exact (zq3_2 hdx2).symm | exact (zq3_3 hdx3).symm | exact (by unfold aCtx; rw [zq3_s hdx1 hdx2 hdx3]; first | done | rfl)), ht⟩) (fun q h => by cases h) dX0_context_24
    ·
      refine lv_if_eq (tgt := 23) hx hb dX0_context_12 (by decide) (fun _ => ?_) (fun q => absurd q (by decide))
      refine lv_iconst (v := (-1)) hx hb dX0_context_23 (by decide) ?_
      exact W.iret (v := (-1)) hx hb hr (fun t ht hW => ⟨_, rfl, (by first | exact (zq3_1 hdx1).symm | exact (zq3_2 hdx2).symm | exact (zq3_3 hdx3).symm | exact (by unfold aCtx; rw [zq3_s hdx1 hdx2 hdx3]; first | done | rfl)), ht⟩) (fun q h => by cases h) dX0_context_24
  ·
    refine lv_if_eq (tgt := 23) hx hb dX0_context_5 (by decide) (fun _ => ?_) (fun q => absurd q (by decide))
    refine lv_iconst (v := (-1)) hx hb dX0_context_23 (by decide) ?_
    exact W.iret (v := (-1)) hx hb hr (fun t ht hW => ⟨_, rfl, (by first | exact (zq3_1 hdx1).symm | exact (zq3_2 hdx2).symm | exact (zq3_3 hdx3).symm | exact (by unfold aCtx; rw [zq3_s hdx1 hdx2 hdx3]; first | done | rfl)), ht⟩) (fun q h => by cases h) dX0_context_24
set_option maxHeartbeats 4000000 in
set_option maxRecDepth 100000 in
/-- sees -/
theorem c_X0_sees (l : Launch) (dC : Nat → ClassId) (dI : Nat → Nat → Nat) (ad : Nat → Nat) (cI cJ cII cJJ : ClassId) (S C : Nat) (n : Nat → Nat) (va : Nat → Nat → Int32) (mk ct ps kn cx : Nat → Nat → Nat) (hG : zG S C n mk ct ps kn cx) (x1 x2 x3 : Int32) : Met l yX0_sees wsX0_sees ({ frames := 1, cells := 0, slots := 0, locals := 22 }) (va_Pc [.ref (ad 0), .int x1, .int x2, .int x3] (xB dC dI ad cI cJ cII cJJ S C n va mk ct ps kn cx)) (vp_Si (fun r => r = aSees C n cx x1 x2 x3)) 0 0 (fun _ => False) := by
  refine Met.ofW (cc := cX0_sees) (maxL := 4) (ret := (some .boolean)) (by decide) rfl ?_
  intro p e s m args below meth c s₁ B hml hv
  obtain ⟨rfl, hP, hK⟩ := hv
  have hx := B.exec
  have hb := B.bytes
  have hr := B.returns
  have hts := atoms_spec (ws := wsX0_sees) B.pre
  have hown : s.vm.findClass RX0 = some m.cls := findClass_of_methodNamed B.named
  have hlocks := B.notSynchronized
  have hin0 : ∀ w ∈ wsX00, w ∈ wsX0_sees := fun _ h => List.mem_cons_of_mem _ (List.mem_append_right _ h)
  have hl := lv_entry ([.ref (ad 0), .int x1, .int x2, .int x3]) (n := 4) (Nat.le_of_ble_eq_true rfl)
  rw [lg_entry_eq]
  generalize (lg_sl ([.ref (ad 0), .int x1, .int x2, .int x3]) ++ List.replicate (4 - (lg_sl ([.ref (ad 0), .int x1, .int x2, .int x3])).length) Slot.unset).toArray = ls at hl ⊢
  have hl : lv_has ls 4 [(0, .ref (ad 0)), (1, .int x1), (2, .int x2), (3, .int x3)] := hl
  obtain ⟨⟨hS1, hS4, hC1, hC4⟩, hn, hmk, hct, hps, hkn, hcx, hcn, hkw⟩ := hG
  refine lv_aload_n hx hb dX0_sees_0 rfl (lv_at hl 0 rfl) ?_
  refine lv_iload_n hx hb dX0_sees_1 rfl (lv_at hl 1 rfl) ?_
  refine vp_callSi (W.runV (As := [.int x1]) (rest := []) ⟨hx, hb, hml, hown, hts⟩ (c_X0_isClient l dC dI ad cI cJ cII cJJ S C n va mk ct ps kn cx (by omega) x1) (cwV 1 hts gX0_sees_X0_isClient rfl rfl rfl (by decide +kernel) ⟨Nat.le_of_ble_eq_true rfl, Nat.le_of_ble_eq_true rfl⟩) ⟨xB_blind, va_recv hK hP (ci := 0) (q0 := 0) rfl rfl, fun U hU hW => ⟨rfl, xB_at hP hK hU hW⟩⟩ rfl rfl hl.1 rfl (lv_room (Nat.le_of_ble_eq_true rfl)) dX0_sees_2 ⟨Nat.le_of_ble_eq_true rfl, Nat.le_of_ble_eq_true rfl⟩) (fun r hq => ?_)
  rcases hq with ⟨rfl, cl, hcl, rfl, hdx1⟩ | ⟨rfl, hdx1⟩
  ·
    refine lv_if_eq (tgt := 29) hx hb dX0_sees_5 (by decide) (fun q => absurd q (by decide)) (fun _ => ?_)
    refine lv_iload_n hx hb dX0_sees_8 rfl (lv_at hl 2 rfl) ?_
    refine vp_callSi (W.runS (As := [.int x2]) (rest := []) ⟨hx, hb, hml, hown, hts⟩ (c_X0_isKey l x2) (va_cwS 1 hts gX0_sees_X0_isKey rfl rfl rfl (by decide +kernel) ⟨Nat.le_of_ble_eq_true rfl, Nat.le_of_ble_eq_true rfl⟩) ⟨zB_blind, fun U hU hW => ⟨rfl, trivial⟩⟩ rfl rfl hl.1 rfl (lv_room (Nat.le_of_ble_eq_true rfl)) dX0_sees_9 ⟨Nat.le_of_ble_eq_true rfl, Nat.le_of_ble_eq_true rfl⟩) (fun r hq => ?_)
    rcases hq with ⟨rfl, ky, hky, rfl, hdx2⟩ | ⟨rfl, hdx2⟩
    ·
      refine lv_if_eq (tgt := 29) hx hb dX0_sees_12 (by decide) (fun q => absurd q (by decide)) (fun _ => ?_)
      refine lv_iload_n hx hb dX0_sees_15 rfl (lv_at hl 3 rfl) ?_
      refine lv_if_lt (tgt := 29) hx hb dX0_sees_16 (by decide) (fun c16 => ?_) (fun c16 => ?_)
      ·
        refine lv_iconst (v := nI 0) hx hb dX0_sees_29 (by decide) ?_
        exact W.zret (v := nI 0) hx hb hr (by first | rfl | decide) (fun t ht hW => ⟨_, rfl, (by first | exact (zq2_1 hdx1).symm | exact (zq2_2 hdx2).symm | exact (by unfold aSees; rw [zq2_s hdx1 hdx2, zD_neg c16]; first | done | rfl) | exact (by unfold aSees; rw [zq2_s hdx1 hdx2, zD_big (Nat.lt_of_le_of_lt (hn ky) (by decide)) (Int32.not_lt.mp c26)]; first | done | rfl) | exact (by unfold aSees; rw [zq2_s hdx1 hdx2, hdx3]; show _ = zB01 _; rw [c40]; rfl)), ht⟩) (fun q h => by cases h) dX0_sees_30
      ·
        refine lv_iload_n hx hb dX0_sees_19 rfl (lv_at hl 3 rfl) ?_
        refine lv_aload_n hx hb dX0_sees_20 rfl (lv_at hl 0 rfl) ?_
        refine va_get (D := (dC, dI)) (ci := 0) (v := .ref (ad 1)) (C := RX0) (T := TX0) (N := 9) hx hb hts hin0 hown hK hP 0 rfl rfl 2 (by decide) (hts (.fieldLink RX0 22 "DottedSiblings" "written" "[I") (by decide +kernel)) (fun _ h9 => h9) rfl dX0_sees_21 ?_
        refine lv_iload_n hx hb dX0_sees_24 rfl (lv_at hl 2 rfl) ?_
        refine zr_iald (v := nI (n ky)) hx hb hK hP 1 0 rfl rfl (by omega) (by omega) rfl dX0_sees_25 ?_
        refine lv_icmp_lt (tgt := 31) hx hb dX0_sees_26 (by decide) (fun c26 => ?_) (fun c26 => ?_)
        ·
          have hn9 := hn ky
          obtain ⟨wr, hwr, rfl, hdx3⟩ := zD_in (N := n ky) (by omega) c16 (fun q => absurd c26 (Int32.not_lt.mpr q))
          refine lv_aload_n hx hb dX0_sees_31 rfl (lv_at hl 0 rfl) ?_
          refine va_get (D := (dC, dI)) (ci := 0) (v := .ref (ad 7)) (C := RX0) (T := TX0) (N := 9) hx hb hts hin0 hown hK hP 0 rfl rfl 8 (by decide) (hts (.fieldLink RX0 45 "DottedSiblings" "contextSets" "[[J") (by decide +kernel)) (fun _ h9 => h9) rfl dX0_sees_32 ?_
          refine lv_iload_n hx hb dX0_sees_35 rfl (lv_at hl 2 rfl) ?_
          refine zr_aald (r := ad (23 + ky)) hx hb hK hP 7 3 rfl rfl (by omega) (by decide) (zo_at ad 23 (by omega)) dX0_sees_36 ?_
          refine lv_iload_n hx hb dX0_sees_37 rfl (lv_at hl 1 rfl) ?_
          refine zr_lald (v := lN (cx ky cl)) hx hb hK hP (23 + ky) 1 (xw_cx (by omega)) rfl (by omega) (by omega) rfl dX0_sees_38 ?_
          refine lv_iload_n hx hb dX0_sees_39 rfl (lv_at hl 3 rfl) ?_
          refine vp_callSi (W.runS (As := [.long (lN (cx ky cl)), .int (nI wr)]) (rest := []) ⟨hx, hb, hml, hown, hts⟩ (c_X0_has l (cx ky cl) wr (Nat.lt_trans (z40 (hcx _ _) (hn _)) (by decide)) (by omega)) (va_cwS 2 hts gX0_sees_X0_has rfl rfl rfl (by decide +kernel) ⟨Nat.le_of_ble_eq_true rfl, Nat.le_of_ble_eq_true rfl⟩) ⟨zB_blind, fun U hU hW => ⟨rfl, trivial⟩⟩ rfl rfl hl.1 rfl (lv_room (Nat.le_of_ble_eq_true rfl)) dX0_sees_40 ⟨Nat.le_of_ble_eq_true rfl, Nat.le_of_ble_eq_true rfl⟩) (fun r hq => ?_)
          rcases hq with ⟨rfl, c40⟩ | ⟨rfl, c40⟩
          ·
            exact W.zret (v := 1) hx hb hr (by first | rfl | decide) (fun t ht hW => ⟨_, rfl, (by first | exact (zq2_1 hdx1).symm | exact (zq2_2 hdx2).symm | exact (by unfold aSees; rw [zq2_s hdx1 hdx2, zD_neg c16]; first | done | rfl) | exact (by unfold aSees; rw [zq2_s hdx1 hdx2, zD_big (Nat.lt_of_le_of_lt (hn ky) (by decide)) (Int32.not_lt.mp c26)]; first | done | rfl) | exact (by unfold aSees; rw [zq2_s hdx1 hdx2, hdx3]; show _ = zB01 _; rw [c40]; rfl)), ht⟩) (fun q h => by cases h) dX0_sees_43
          ·
            exact W.zret (v := 0) hx hb hr (by first | rfl | decide) (fun t ht hW => ⟨_, rfl, (by first | exact (zq2_1 hdx1).symm | exact (zq2_2 hdx2).symm | exact (by unfold aSees; rw [zq2_s hdx1 hdx2, zD_neg c16]; first | done | rfl) | exact (by unfold aSees; rw [zq2_s hdx1 hdx2, zD_big (Nat.lt_of_le_of_lt (hn ky) (by decide)) (Int32.not_lt.mp c26)]; first | done | rfl) | exact (by unfold aSees; rw [zq2_s hdx1 hdx2, hdx3]; show _ = zB01 _; rw [c40]; rfl)), ht⟩) (fun q h => by cases h) dX0_sees_43
        ·
          refine lv_iconst (v := nI 0) hx hb dX0_sees_29 (by decide) ?_
          exact W.zret (v := nI 0) hx hb hr (by first | rfl | decide) (fun t ht hW => ⟨_, rfl, (by first | exact (zq2_1 hdx1).symm | exact (zq2_2 hdx2).symm | exact (by unfold aSees; rw [zq2_s hdx1 hdx2, zD_neg c16]; first | done | rfl) | exact (by unfold aSees; rw [zq2_s hdx1 hdx2, zD_big (Nat.lt_of_le_of_lt (hn ky) (by decide)) (Int32.not_lt.mp c26)]; first | done | rfl) | exact (by unfold aSees; rw [zq2_s hdx1 hdx2, hdx3]; show _ = zB01 _; rw [c40]; rfl)), ht⟩) (fun q h => by cases h) dX0_sees_30
    ·
      refine lv_if_eq (tgt := 29) hx hb dX0_sees_12 (by decide) (fun _ => ?_) (fun q => absurd q (by decide))
      refine lv_iconst (v := nI 0) hx hb dX0_sees_29 (by decide) ?_
      exact W.zret (v := nI 0) hx hb hr (by first | rfl | decide) (fun t ht hW => ⟨_, rfl, (by first | exact (zq2_1 hdx1).symm | exact (zq2_2 hdx2).symm | exact (by unfold aSees; rw [zq2_s hdx1 hdx2, zD_neg c16]; first | done | rfl) | exact (by unfold aSees; rw [zq2_s hdx1 hdx2, zD_big (Nat.lt_of_le_of_lt (hn ky) (by decide)) (Int32.not_lt.mp c26)]; first | done | rfl) | exact (by unfold aSees; rw [zq2_s hdx1 hdx2, hdx3]; show _ = zB01 _; rw [c40]; rfl)), ht⟩) (fun q h => by cases h) dX0_sees_30
  ·
    refine lv_if_eq (tgt := 29) hx hb dX0_sees_5 (by decide) (fun _ => ?_) (fun q => absurd q (by decide))
    refine lv_iconst (v := nI 0) hx hb dX0_sees_29 (by decide) ?_
    exact W.zret (v := nI 0) hx hb hr (by first | rfl | decide) (fun t ht hW => ⟨_, rfl, (by first | exact (zq2_1 hdx1).symm | exact (zq2_2 hdx2).symm | exact (by unfold aSees; rw [zq2_s hdx1 hdx2, zD_neg c16]; first | done | rfl) | exact (by unfold aSees; rw [zq2_s hdx1 hdx2, zD_big (Nat.lt_of_le_of_lt (hn ky) (by decide)) (Int32.not_lt.mp c26)]; first | done | rfl) | exact (by unfold aSees; rw [zq2_s hdx1 hdx2, hdx3]; show _ = zB01 _; rw [c40]; rfl)), ht⟩) (fun q h => by cases h) dX0_sees_30
set_option maxHeartbeats 4000000 in
set_option maxRecDepth 100000 in
/-- same -/
theorem c_X0_same (l : Launch) (dC : Nat → ClassId) (dI : Nat → Nat → Nat) (ad : Nat → Nat) (cI cJ cII cJJ : ClassId) (S C : Nat) (n : Nat → Nat) (va : Nat → Nat → Int32) (mk ct ps kn cx : Nat → Nat → Nat) (hG : zG S C n mk ct ps kn cx) (x1 x2 x3 : Int32) : Met l yX0_same wsX0_same ({ frames := 1, cells := 0, slots := 0, locals := 21 }) (va_Pc [.ref (ad 0), .int x1, .int x2, .int x3] (xB dC dI ad cI cJ cII cJJ S C n va mk ct ps kn cx)) (vp_Si (fun r => r = aSame S kn x1 x2 x3)) 0 0 (fun _ => False) := by
  refine Met.ofW (cc := cX0_same) (maxL := 4) (ret := (some .boolean)) (by decide) rfl ?_
  intro p e s m args below meth c s₁ B hml hv
  obtain ⟨rfl, hP, hK⟩ := hv
  have hx := B.exec
  have hb := B.bytes
  have hr := B.returns
  have hts := atoms_spec (ws := wsX0_same) B.pre
  have hown : s.vm.findClass RX0 = some m.cls := findClass_of_methodNamed B.named
  have hlocks := B.notSynchronized
  have hin0 : ∀ w ∈ wsX00, w ∈ wsX0_same := fun _ h => List.mem_cons_of_mem _ (List.mem_append_right _ h)
  have hl := lv_entry ([.ref (ad 0), .int x1, .int x2, .int x3]) (n := 4) (Nat.le_of_ble_eq_true rfl)
  rw [lg_entry_eq]
  generalize (lg_sl ([.ref (ad 0), .int x1, .int x2, .int x3]) ++ List.replicate (4 - (lg_sl ([.ref (ad 0), .int x1, .int x2, .int x3])).length) Slot.unset).toArray = ls at hl ⊢
  have hl : lv_has ls 4 [(0, .ref (ad 0)), (1, .int x1), (2, .int x2), (3, .int x3)] := hl
  obtain ⟨⟨hS1, hS4, hC1, hC4⟩, hn, hmk, hct, hps, hkn, hcx, hcn, hkw⟩ := hG
  refine lv_aload_n hx hb dX0_same_0 rfl (lv_at hl 0 rfl) ?_
  refine lv_iload_n hx hb dX0_same_1 rfl (lv_at hl 1 rfl) ?_
  refine vp_callSi (W.runV (As := [.int x1]) (rest := []) ⟨hx, hb, hml, hown, hts⟩ (c_X0_isServer l dC dI ad cI cJ cII cJJ S C n va mk ct ps kn cx (by omega) x1) (cwV 1 hts gX0_same_X0_isServer rfl rfl rfl (by decide +kernel) ⟨Nat.le_of_ble_eq_true rfl, Nat.le_of_ble_eq_true rfl⟩) ⟨xB_blind, va_recv hK hP (ci := 0) (q0 := 0) rfl rfl, fun U hU hW => ⟨rfl, xB_at hP hK hU hW⟩⟩ rfl rfl hl.1 rfl (lv_room (Nat.le_of_ble_eq_true rfl)) dX0_same_2 ⟨Nat.le_of_ble_eq_true rfl, Nat.le_of_ble_eq_true rfl⟩) (fun r hq => ?_)
  rcases hq with ⟨rfl, sa, hsa, rfl, hdx1⟩ | ⟨rfl, hdx1⟩
  ·
    refine lv_if_eq (tgt := 23) hx hb dX0_same_5 (by decide) (fun q => absurd q (by decide)) (fun _ => ?_)
    refine lv_aload_n hx hb dX0_same_8 rfl (lv_at hl 0 rfl) ?_
    refine lv_iload_n hx hb dX0_same_9 rfl (lv_at hl 2 rfl) ?_
    refine vp_callSi (W.runV (As := [.int x2]) (rest := []) ⟨hx, hb, hml, hown, hts⟩ (c_X0_isServer l dC dI ad cI cJ cII cJJ S C n va mk ct ps kn cx (by omega) x2) (cwV 1 hts gX0_same_X0_isServer rfl rfl rfl (by decide +kernel) ⟨Nat.le_of_ble_eq_true rfl, Nat.le_of_ble_eq_true rfl⟩) ⟨xB_blind, va_recv hK hP (ci := 0) (q0 := 0) rfl rfl, fun U hU hW => ⟨rfl, xB_at hP hK hU hW⟩⟩ rfl rfl hl.1 rfl (lv_room (Nat.le_of_ble_eq_true rfl)) dX0_same_10 ⟨Nat.le_of_ble_eq_true rfl, Nat.le_of_ble_eq_true rfl⟩) (fun r hq => ?_)
    rcases hq with ⟨rfl, sb, hsb, rfl, hdx2⟩ | ⟨rfl, hdx2⟩
    ·
      refine lv_if_eq (tgt := 23) hx hb dX0_same_13 (by decide) (fun q => absurd q (by decide)) (fun _ => ?_)
      refine lv_iload_n hx hb dX0_same_16 rfl (lv_at hl 3 rfl) ?_
      refine vp_callSi (W.runS (As := [.int x3]) (rest := []) ⟨hx, hb, hml, hown, hts⟩ (c_X0_isKey l x3) (va_cwS 1 hts gX0_same_X0_isKey rfl rfl rfl (by decide +kernel) ⟨Nat.le_of_ble_eq_true rfl, Nat.le_of_ble_eq_true rfl⟩) ⟨zB_blind, fun U hU hW => ⟨rfl, trivial⟩⟩ rfl rfl hl.1 rfl (lv_room (Nat.le_of_ble_eq_true rfl)) dX0_same_17 ⟨Nat.le_of_ble_eq_true rfl, Nat.le_of_ble_eq_true rfl⟩) (fun r hq => ?_)
      rcases hq with ⟨rfl, ky, hky, rfl, hdx3⟩ | ⟨rfl, hdx3⟩
      ·
        refine lv_if_ne (tgt := 25) hx hb dX0_same_20 (by decide) (fun _ => ?_) (fun q => absurd q (by decide))
        refine lv_aload_n hx hb dX0_same_25 rfl (lv_at hl 0 rfl) ?_
        refine va_get (D := (dC, dI)) (ci := 0) (v := .ref (ad 6)) (C := RX0) (T := TX0) (N := 9) hx hb hts hin0 hown hK hP 0 rfl rfl 7 (by decide) (hts (.fieldLink RX0 42 "DottedSiblings" "knownSets" "[[J") (by decide +kernel)) (fun _ h9 => h9) rfl dX0_same_26 ?_
        refine lv_iload_n hx hb dX0_same_29 rfl (lv_at hl 3 rfl) ?_
        refine zr_aald (r := ad (20 + ky)) hx hb hK hP 6 3 rfl rfl (by omega) (by decide) (zo_at ad 20 (by omega)) dX0_same_30 ?_
        refine lv_iload_n hx hb dX0_same_31 rfl (lv_at hl 1 rfl) ?_
        refine zr_lald (v := lN (kn ky sa)) hx hb hK hP (20 + ky) 1 (xw_kn (by omega)) rfl (by omega) (by omega) rfl dX0_same_32 ?_
        refine lv_aload_n hx hb dX0_same_33 rfl (lv_at hl 0 rfl) ?_
        refine va_get (D := (dC, dI)) (ci := 0) (v := .ref (ad 6)) (C := RX0) (T := TX0) (N := 9) hx hb hts hin0 hown hK hP 0 rfl rfl 7 (by decide) (hts (.fieldLink RX0 42 "DottedSiblings" "knownSets" "[[J") (by decide +kernel)) (fun _ h9 => h9) rfl dX0_same_34 ?_
        refine lv_iload_n hx hb dX0_same_37 rfl (lv_at hl 3 rfl) ?_
        refine zr_aald (r := ad (20 + ky)) hx hb hK hP 6 3 rfl rfl (by omega) (by decide) (zo_at ad 20 (by omega)) dX0_same_38 ?_
        refine lv_iload_n hx hb dX0_same_39 rfl (lv_at hl 2 rfl) ?_
        refine zr_lald (v := lN (kn ky sb)) hx hb hK hP (20 + ky) 1 (xw_kn (by omega)) rfl (by omega) (by omega) rfl dX0_same_40 ?_
        refine zr_leq (tgt := 49) hx hb (Nat.lt_trans (z40 (hkn _ _) (hn _)) (by decide)) (Nat.lt_trans (z40 (hkn _ _) (hn _)) (by decide)) dX0_same_41 dX0_same_42 (by decide) (fun c41 => ?_) (fun c41 => ?_)
        ·
          refine lv_iconst (v := nI 0) hx hb dX0_same_49 (by decide) ?_
          exact W.zret (v := nI 0) hx hb hr (by first | rfl | decide) (fun t ht hW => ⟨_, rfl, (by first | exact (zq3_1 hdx1).symm | exact (zq3_2 hdx2).symm | exact (zq3_3 hdx3).symm | exact (by unfold aSame; rw [zq3_s hdx1 hdx2 hdx3, if_pos c41]; first | done | rfl) | exact (by unfold aSame; rw [zq3_s hdx1 hdx2 hdx3, if_neg c41]; first | done | rfl)), ht⟩) (fun q h => by cases h) dX0_same_50
        ·
          refine lv_iconst (v := nI 1) hx hb dX0_same_45 (by decide) ?_
          refine lv_goto (tgt := 50) hx hb dX0_same_46 (by decide) ?_
          exact W.zret (v := nI 1) hx hb hr (by first | rfl | decide) (fun t ht hW => ⟨_, rfl, (by first | exact (zq3_1 hdx1).symm | exact (zq3_2 hdx2).symm | exact (zq3_3 hdx3).symm | exact (by unfold aSame; rw [zq3_s hdx1 hdx2 hdx3, if_pos c41]; first | done | rfl) | exact (by unfold aSame; rw [zq3_s hdx1 hdx2 hdx3, if_neg c41]; first | done | rfl)), ht⟩) (fun q h => by cases h) dX0_same_50
      ·
        refine lv_if_ne (tgt := 25) hx hb dX0_same_20 (by decide) (fun q => absurd q (by decide)) (fun _ => ?_)
        refine lv_iconst (v := nI 0) hx hb dX0_same_23 (by decide) ?_
        exact W.zret (v := nI 0) hx hb hr (by first | rfl | decide) (fun t ht hW => ⟨_, rfl, (by first | exact (zq3_1 hdx1).symm | exact (zq3_2 hdx2).symm | exact (zq3_3 hdx3).symm | exact (by unfold aSame; rw [zq3_s hdx1 hdx2 hdx3, if_pos c41]; first | done | rfl) | exact (by unfold aSame; rw [zq3_s hdx1 hdx2 hdx3, if_neg c41]; first | done | rfl)), ht⟩) (fun q h => by cases h) dX0_same_24
    ·
      refine lv_if_eq (tgt := 23) hx hb dX0_same_13 (by decide) (fun _ => ?_) (fun q => absurd q (by decide))
      refine lv_iconst (v := nI 0) hx hb dX0_same_23 (by decide) ?_
      exact W.zret (v := nI 0) hx hb hr (by first | rfl | decide) (fun t ht hW => ⟨_, rfl, (by first | exact (zq3_1 hdx1).symm | exact (zq3_2 hdx2).symm | exact (zq3_3 hdx3).symm | exact (by unfold aSame; rw [zq3_s hdx1 hdx2 hdx3, if_pos c41]; first | done | rfl) | exact (by unfold aSame; rw [zq3_s hdx1 hdx2 hdx3, if_neg c41]; first | done | rfl)), ht⟩) (fun q h => by cases h) dX0_same_24
  ·
    refine lv_if_eq (tgt := 23) hx hb dX0_same_5 (by decide) (fun _ => ?_) (fun q => absurd q (by decide))
    refine lv_iconst (v := nI 0) hx hb dX0_same_23 (by decide) ?_
    exact W.zret (v := nI 0) hx hb hr (by first | rfl | decide) (fun t ht hW => ⟨_, rfl, (by first | exact (zq3_1 hdx1).symm | exact (zq3_2 hdx2).symm | exact (zq3_3 hdx3).symm | exact (by unfold aSame; rw [zq3_s hdx1 hdx2 hdx3, if_pos c41]; first | done | rfl) | exact (by unfold aSame; rw [zq3_s hdx1 hdx2 hdx3, if_neg c41]; first | done | rfl)), ht⟩) (fun q h => by cases h) dX0_same_24
set_option maxHeartbeats 4000000 in
set_option maxRecDepth 100000 in
/-- weight -/
theorem c_X0_weight (l : Launch) (dC : Nat → ClassId) (dI : Nat → Nat → Nat) (ad : Nat → Nat) (cI cJ cII cJJ : ClassId) (S C : Nat) (n : Nat → Nat) (va : Nat → Nat → Int32) (mk ct ps kn cx : Nat → Nat → Nat) (hG : zG S C n mk ct ps kn cx) (x1 x2 : Int32) : Met l yX0_weight wsX0_weight ({ frames := 2, cells := 0, slots := 0, locals := 48 }) (va_Pc [.ref (ad 0), .int x1, .int x2] (xB dC dI ad cI cJ cII cJJ S C n va mk ct ps kn cx)) (vp_Si (fun r => r = aWeight S n mk ct ps kn x1 x2)) 0 0 (fun _ => False) := by
  refine Met.ofW (cc := cX0_weight) (maxL := 7) (ret := (some .int)) (by decide) rfl ?_
  intro p e s m args below meth c s₁ B hml hv
  obtain ⟨rfl, hP, hK⟩ := hv
  have hx := B.exec
  have hb := B.bytes
  have hr := B.returns
  have hts := atoms_spec (ws := wsX0_weight) B.pre
  have hown : s.vm.findClass RX0 = some m.cls := findClass_of_methodNamed B.named
  have hlocks := B.notSynchronized
  have hin0 : ∀ w ∈ wsX00, w ∈ wsX0_weight := fun _ h => List.mem_cons_of_mem _ (List.mem_append_right _ h)
  have hl := lv_entry ([.ref (ad 0), .int x1, .int x2]) (n := 7) (Nat.le_of_ble_eq_true rfl)
  rw [lg_entry_eq]
  generalize (lg_sl ([.ref (ad 0), .int x1, .int x2]) ++ List.replicate (7 - (lg_sl ([.ref (ad 0), .int x1, .int x2])).length) Slot.unset).toArray = ls at hl ⊢
  have hl : lv_has ls 7 [(0, .ref (ad 0)), (1, .int x1), (2, .int x2)] := hl
  obtain ⟨⟨hS1, hS4, hC1, hC4⟩, hn, hmk, hct, hps, hkn, hcx, hcn, hkw⟩ := hG
  refine lv_aload_n hx hb dX0_weight_0 rfl (lv_at hl 0 rfl) ?_
  refine lv_iload_n hx hb dX0_weight_1 rfl (lv_at hl 1 rfl) ?_
  refine vp_callSi (W.runV (As := [.int x1]) (rest := []) ⟨hx, hb, hml, hown, hts⟩ (c_X0_isServer l dC dI ad cI cJ cII cJJ S C n va mk ct ps kn cx (by omega) x1) (cwV 1 hts gX0_weight_X0_isServer rfl rfl rfl (by decide +kernel) ⟨Nat.le_of_ble_eq_true rfl, Nat.le_of_ble_eq_true rfl⟩) ⟨xB_blind, va_recv hK hP (ci := 0) (q0 := 0) rfl rfl, fun U hU hW => ⟨rfl, xB_at hP hK hU hW⟩⟩ rfl rfl hl.1 rfl (lv_room (Nat.le_of_ble_eq_true rfl)) dX0_weight_2 ⟨Nat.le_of_ble_eq_true rfl, Nat.le_of_ble_eq_true rfl⟩) (fun r hq => ?_)
  rcases hq with ⟨rfl, sv, hsv, rfl, hdx1⟩ | ⟨rfl, hdx1⟩
  ·
    refine lv_if_eq (tgt := 15) hx hb dX0_weight_5 (by decide) (fun q => absurd q (by decide)) (fun _ => ?_)
    refine lv_iload_n hx hb dX0_weight_8 rfl (lv_at hl 2 rfl) ?_
    refine vp_callSi (W.runS (As := [.int x2]) (rest := []) ⟨hx, hb, hml, hown, hts⟩ (c_X0_isKey l x2) (va_cwS 1 hts gX0_weight_X0_isKey rfl rfl rfl (by decide +kernel) ⟨Nat.le_of_ble_eq_true rfl, Nat.le_of_ble_eq_true rfl⟩) ⟨zB_blind, fun U hU hW => ⟨rfl, trivial⟩⟩ rfl rfl hl.1 rfl (lv_room (Nat.le_of_ble_eq_true rfl)) dX0_weight_9 ⟨Nat.le_of_ble_eq_true rfl, Nat.le_of_ble_eq_true rfl⟩) (fun r hq => ?_)
    rcases hq with ⟨rfl, ky, hky, rfl, hdx2⟩ | ⟨rfl, hdx2⟩
    ·
      refine lv_if_ne (tgt := 17) hx hb dX0_weight_12 (by decide) (fun _ => ?_) (fun q => absurd q (by decide))
      refine lv_aload_n hx hb dX0_weight_17 rfl (lv_at hl 0 rfl) ?_
      refine va_get (D := (dC, dI)) (ci := 0) (v := .ref (ad 6)) (C := RX0) (T := TX0) (N := 9) hx hb hts hin0 hown hK hP 0 rfl rfl 7 (by decide) (hts (.fieldLink RX0 42 "DottedSiblings" "knownSets" "[[J") (by decide +kernel)) (fun _ h9 => h9) rfl dX0_weight_18 ?_
      refine lv_iload_n hx hb dX0_weight_21 rfl (lv_at hl 2 rfl) ?_
      refine zr_aald (r := ad (20 + ky)) hx hb hK hP 6 3 rfl rfl (by omega) (by decide) (zo_at ad 20 (by omega)) dX0_weight_22 ?_
      refine lv_iload_n hx hb dX0_weight_23 rfl (lv_at hl 1 rfl) ?_
      refine zr_lald (v := lN (kn ky sv)) hx hb hK hP (20 + ky) 1 (xw_kn (by omega)) rfl (by omega) (by omega) rfl dX0_weight_24 ?_
      refine lv_lstore_n (lv' := [(3, .long (lN (kn ky sv))), (0, .ref (ad 0)), (1, .int (nI sv)), (2, .int (nI ky))]) hx hb dX0_weight_25 rfl hl (by decide) rfl (fun ls hl => ?_)
      refine lv_iconst (v := nI 0) hx hb dX0_weight_26 (by decide) ?_
      refine lv_istore (lv' := [(5, .int (nI 0)), (3, .long (lN (kn ky sv))), (0, .ref (ad 0)), (1, .int (nI sv)), (2, .int (nI ky))]) hx hb dX0_weight_27 hl (by decide) rfl (fun ls hl => ?_)
      refine lv_iconst (v := nI 0) hx hb dX0_weight_29 (by decide) ?_
      refine lv_istore (lv' := [(6, .int (nI 0)), (5, .int (nI 0)), (3, .long (lN (kn ky sv))), (0, .ref (ad 0)), (1, .int (nI sv)), (2, .int (nI ky))]) hx hb dX0_weight_30 hl (by decide) rfl (fun ls hl => ?_)
      refine zr_loop (pc := 32) (fun d ls => ∃ i, i ≤ S ∧ d = S - i ∧ lv_has ls 7 [(0, .ref (ad 0)), (1, .int (nI sv)), (2, .int (nI ky)), (3, .long (lN (kn ky sv))), (5, .int (nI (cn (fun o => decide (0 < zVec (ct ky) (zHit (mk ky) (kn ky sv) o) (n ky))) i))), (6, .int (nI i))]) ?_ _ _ ⟨0, Nat.zero_le _, rfl, lv_sub hl [3, 4, 5, 2, 1, 0] rfl⟩
      rintro d ls ⟨i, hi, rfl, hl⟩ ih32
      have hz9 := zVec_le (hit := zHit (mk ky) (kn ky sv) i) (hct ky) (n ky)
      refine lv_iload hx hb dX0_weight_32 (lv_at hl 5 rfl) ?_
      refine lv_aload_n hx hb dX0_weight_34 rfl (lv_at hl 0 rfl) ?_
      refine va_get (D := (dC, dI)) (ci := 0) (v := .int (nI S)) (C := RX0) (T := TX0) (N := 9) hx hb hts hin0 hown hK hP 0 rfl rfl 0 (by decide) (hts (.fieldLink RX0 15 "DottedSiblings" "servers" "I") (by decide +kernel)) (fun _ h9 => h9) rfl dX0_weight_35 ?_
      refine zr_ige (tgt := 61) hx hb (by omega) (by omega) dX0_weight_38 (by decide) (fun c38 => ?_) (fun c38 => ?_)
      ·
        refine lv_iload hx hb dX0_weight_61 (lv_at hl 4 rfl) ?_
        refine lv_aload_n hx hb dX0_weight_63 rfl (lv_at hl 0 rfl) ?_
        refine lv_iload_n hx hb dX0_weight_64 rfl (lv_at hl 2 rfl) ?_
        refine lv_lload_n hx hb dX0_weight_65 rfl (lv_at hl 3 rfl) ?_
        refine vp_callSl (W.runV (As := [.int (nI ky), .long (lN (kn ky sv))]) (rest := [.int (nI (cn (fun o => decide (0 < zVec (ct ky) (zHit (mk ky) (kn ky sv) o) (n ky))) i))]) ⟨hx, hb, hml, hown, hts⟩ (c_X0_greatestOf l dC dI ad cI cJ cII cJJ S C n va mk ct ps kn cx ky (kn ky sv) (by omega) (Nat.lt_trans (z40 (hkn _ _) (hn _)) (by decide)) (hn _)) (cwV 2 hts gX0_weight_X0_greatestOf rfl rfl rfl (by decide +kernel) ⟨Nat.le_of_ble_eq_true rfl, Nat.le_of_ble_eq_true rfl⟩) ⟨xB_blind, va_recv hK hP (ci := 0) (q0 := 0) rfl rfl, fun U hU hW => ⟨rfl, xB_at hP hK hU hW⟩⟩ rfl rfl hl.1 rfl (lv_room (Nat.le_of_ble_eq_true rfl)) dX0_weight_66 ⟨Nat.le_of_ble_eq_true rfl, Nat.le_of_ble_eq_true rfl⟩) (fun r hq => ?_)
        subst hq
        refine vp_callSi (W.runS (As := [.long (lN (zNew (n ky) (ps ky) (kn ky sv)))]) (rest := [.int (nI (cn (fun o => decide (0 < zVec (ct ky) (zHit (mk ky) (kn ky sv) o) (n ky))) i))]) ⟨hx, hb, hml, hown, hts⟩ (c_J13_bitCount_95d88 l (zNew (n ky) (ps ky) (kn ky sv)) (Nat.lt_trans (Nat.lt_of_le_of_lt (zNew_le _ _ _) (z40 (hkn _ _) (hn _))) (by decide))) (va_cwS 1 hts gX0_weight_J13_bitCount_95d88 rfl rfl rfl (by decide +kernel) ⟨Nat.le_of_ble_eq_true rfl, Nat.le_of_ble_eq_true rfl⟩) ⟨zB_blind, fun U hU hW => ⟨rfl, trivial⟩⟩ rfl rfl hl.1 rfl (lv_room (Nat.le_of_ble_eq_true rfl)) dX0_weight_69 ⟨Nat.le_of_ble_eq_true rfl, Nat.le_of_ble_eq_true rfl⟩) (fun r hq => ?_)
        have hq := hq.trans (congrArg nI (zSize64 (Nat.lt_of_le_of_lt (zNew_le _ _ _) (z40 (hkn _ _) (hn _)))))
        subst hq
        refine zr_iadd hx hb dX0_weight_72 ?_
        exact W.iret (v := nI (cn (fun o => decide (0 < zVec (ct ky) (zHit (mk ky) (kn ky sv) o) (n ky))) i + (zSize (zNew (n ky) (ps ky) (kn ky sv))))) hx hb hr (fun t ht hW => ⟨_, rfl, (by first | exact (zq2_1 hdx1).symm | exact (zq2_2 hdx2).symm | exact (by unfold aWeight; rw [zq2_s hdx1 hdx2, show S = i by omega]; first | done | rfl) | exact (by unfold aWeight; rw [zq2_s hdx1 hdx2]; first | done | rfl)), ht⟩) (fun q h => by cases h) dX0_weight_73
      ·
        refine lv_aload_n hx hb dX0_weight_41 rfl (lv_at hl 0 rfl) ?_
        refine lv_iload_n hx hb dX0_weight_42 rfl (lv_at hl 2 rfl) ?_
        refine lv_lload_n hx hb dX0_weight_43 rfl (lv_at hl 3 rfl) ?_
        refine lv_iload hx hb dX0_weight_44 (lv_at hl 5 rfl) ?_
        refine vp_callSi (W.runV (As := [.int (nI ky), .long (lN (kn ky sv)), .int (nI i)]) (rest := []) ⟨hx, hb, hml, hown, hts⟩ (c_X0_vectorAt l dC dI ad cI cJ cII cJJ S C n va mk ct ps kn cx ky (kn ky sv) i (by omega) (Nat.lt_trans (z40 (hkn _ _) (hn _)) (by decide)) (by omega) (hn _) (fun w h => Nat.lt_of_lt_of_le (hmk _ w h) hS4) (hct _)) (cwV 3 hts gX0_weight_X0_vectorAt rfl rfl rfl (by decide +kernel) ⟨Nat.le_of_ble_eq_true rfl, Nat.le_of_ble_eq_true rfl⟩) ⟨xB_blind, va_recv hK hP (ci := 0) (q0 := 0) rfl rfl, fun U hU hW => ⟨rfl, xB_at hP hK hU hW⟩⟩ rfl rfl hl.1 rfl (lv_room (Nat.le_of_ble_eq_true rfl)) dX0_weight_46 ⟨Nat.le_of_ble_eq_true rfl, Nat.le_of_ble_eq_true rfl⟩) (fun r hq => ?_)
        subst hq
        refine zr_ifle (tgt := 55) hx hb (by omega) dX0_weight_49 (by decide) (fun c49 => ?_) (fun c49 => ?_)
        ·
          refine lv_iinc (v := nI (i + 1)) (lv' := [(6, .int (nI (i + 1))), (0, .ref (ad 0)), (1, .int (nI sv)), (2, .int (nI ky)), (3, .long (lN (kn ky sv))), (5, .int (nI (cn (fun o => decide (0 < zVec (ct ky) (zHit (mk ky) (kn ky sv) o) (n ky))) i)))]) hx hb dX0_weight_55 hl (k := 5) rfl (by rw [← nI_1]; rfl) (by decide) rfl (fun ls hl => ?_)
          refine lv_goto (tgt := 32) hx hb dX0_weight_58 (by decide) ?_
          exact ih32 _ _ (by omega) ⟨i + 1, by omega, rfl, by first | (rw [cn_t (f := (fun o => decide (0 < zVec (ct ky) (zHit (mk ky) (kn ky sv) o) (n ky)))) (i := i) (decide_eq_true c49)]; exact lv_sub hl [1, 2, 3, 4, 5, 0] rfl) | (rw [cn_f (f := (fun o => decide (0 < zVec (ct ky) (zHit (mk ky) (kn ky sv) o) (n ky)))) (i := i) (decide_eq_false (by omega))]; exact lv_sub hl [1, 2, 3, 4, 5, 0] rfl)⟩
        ·
          refine lv_iinc (v := nI (cn (fun o => decide (0 < zVec (ct ky) (zHit (mk ky) (kn ky sv) o) (n ky))) i + 1)) (lv' := [(5, .int (nI (cn (fun o => decide (0 < zVec (ct ky) (zHit (mk ky) (kn ky sv) o) (n ky))) i + 1))), (0, .ref (ad 0)), (1, .int (nI sv)), (2, .int (nI ky)), (3, .long (lN (kn ky sv))), (6, .int (nI i))]) hx hb dX0_weight_52 hl (k := 4) rfl (by rw [← nI_1]; rfl) (by decide) rfl (fun ls hl => ?_)
          refine lv_iinc (v := nI (i + 1)) (lv' := [(6, .int (nI (i + 1))), (5, .int (nI (cn (fun o => decide (0 < zVec (ct ky) (zHit (mk ky) (kn ky sv) o) (n ky))) i + 1))), (0, .ref (ad 0)), (1, .int (nI sv)), (2, .int (nI ky)), (3, .long (lN (kn ky sv)))]) hx hb dX0_weight_55 hl (k := 5) rfl (by rw [← nI_1]; rfl) (by decide) rfl (fun ls hl => ?_)
          refine lv_goto (tgt := 32) hx hb dX0_weight_58 (by decide) ?_
          exact ih32 _ _ (by omega) ⟨i + 1, by omega, rfl, by first | (rw [cn_t (f := (fun o => decide (0 < zVec (ct ky) (zHit (mk ky) (kn ky sv) o) (n ky)))) (i := i) (decide_eq_true c49)]; exact lv_sub hl [2, 3, 4, 5, 1, 0] rfl) | (rw [cn_f (f := (fun o => decide (0 < zVec (ct ky) (zHit (mk ky) (kn ky sv) o) (n ky)))) (i := i) (decide_eq_false (by omega))]; exact lv_sub hl [2, 3, 4, 5, 1, 0] rfl)⟩
    ·
      refine lv_if_ne (tgt := 17) hx hb dX0_weight_12 (by decide) (fun q => absurd q (by decide)) (fun _ => ?_)
      refine lv_iconst (v := (-1)) hx hb dX0_weight_15 (by decide) ?_
      exact W.iret (v := (-1)) hx hb hr (fun t ht hW => ⟨_, rfl, (by first | exact (zq2_1 hdx1).symm | exact (zq2_2 hdx2).symm | exact (by unfold aWeight; rw [zq2_s hdx1 hdx2, show S = i by omega]; first | done | rfl) | exact (by unfold aWeight; rw [zq2_s hdx1 hdx2]; first | done | rfl)), ht⟩) (fun q h => by cases h) dX0_weight_16
  ·
    refine lv_if_eq (tgt := 15) hx hb dX0_weight_5 (by decide) (fun _ => ?_) (fun q => absurd q (by decide))
    refine lv_iconst (v := (-1)) hx hb dX0_weight_15 (by decide) ?_
    exact W.iret (v := (-1)) hx hb hr (fun t ht hW => ⟨_, rfl, (by first | exact (zq2_1 hdx1).symm | exact (zq2_2 hdx2).symm | exact (by unfold aWeight; rw [zq2_s hdx1 hdx2, show S = i by omega]; first | done | rfl) | exact (by unfold aWeight; rw [zq2_s hdx1 hdx2]; first | done | rfl)), ht⟩) (fun q h => by cases h) dX0_weight_16
end
section
theorem cn_bit (set i : Nat) : cn (fun j => set.testBit j) (i + 1) = cn (fun j => set.testBit j) i + set / 2 ^ i % 2 := by
  have ht := Nat.testBit_eq_decide_div_mod_eq (x := set) (i := i)
  rcases Nat.mod_two_eq_zero_or_one (set / 2 ^ i) with h | h
  · rw [h] at ht ⊢
    rw [cn_f (by rw [ht]; rfl)]
    rfl
  · rw [h] at ht ⊢
    rw [cn_t (by rw [ht]; rfl)]
end
section
set_option maxHeartbeats 4000000 in
set_option maxRecDepth 100000 in
/-- is there such a one -/
theorem c_X1_isServer (l : Launch) (dC : Nat → ClassId) (dI : Nat → Nat → Nat) (ad : Nat → Nat) (cI cJ : ClassId) (S C : Nat) (n : Nat → Nat) (va : Nat → Nat → Int32) (mk ct ps kn cx rd : Nat → Nat → Nat) (hS : S ≤ 4) (x : Int32) : Met l yX1_isServer wsX1_isServer ({ frames := 0, cells := 0, slots := 0, locals := 0 }) (va_Pc [.ref (ad 0), .int x] (mB dC dI ad cI cJ S C n va mk ct ps kn cx rd)) (vp_Si (zIs S x)) 0 0 (fun _ => False) := by
  refine Met.ofW (cc := cX1_isServer) (maxL := 2) (ret := (some .boolean)) (by decide) rfl ?_
  intro p e s m args below meth c s₁ B hml hv
  obtain ⟨rfl, hP, hK⟩ := hv
  have hx := B.exec
  have hb := B.bytes
  have hr := B.returns
  have hts := atoms_spec (ws := wsX1_isServer) B.pre
  have hown : s.vm.findClass RX1 = some m.cls := findClass_of_methodNamed B.named
  have hlocks := B.notSynchronized
  have hin0 : ∀ w ∈ wsX10, w ∈ wsX1_isServer := fun _ h => List.mem_cons_of_mem _ (List.mem_append_right _ h)
  have hl := lv_entry ([.ref (ad 0), .int x]) (n := 2) (Nat.le_of_ble_eq_true rfl)
  rw [lg_entry_eq]
  generalize (lg_sl ([.ref (ad 0), .int x]) ++ List.replicate (2 - (lg_sl ([.ref (ad 0), .int x])).length) Slot.unset).toArray = ls at hl ⊢
  have hl : lv_has ls 2 [(0, .ref (ad 0)), (1, .int x)] := hl
  refine lv_iload_n hx hb dX1_isServer_0 rfl (lv_at hl 1 rfl) ?_
  refine lv_if_lt (tgt := 16) hx hb dX1_isServer_1 (by decide) (fun c1 => ?_) (fun c1 => ?_)
  ·
    refine lv_iconst (v := nI 0) hx hb dX1_isServer_16 (by decide) ?_
    exact W.zret (v := nI 0) hx hb hr (by first | rfl | decide) (fun t ht hW => ⟨_, rfl, (by first | exact Or.inl ⟨rfl, zD_in (by omega) c1 c9⟩ | exact Or.inr ⟨rfl, zD_neg c1⟩ | exact Or.inr ⟨rfl, zD_big (by omega) c9⟩), ht⟩) (fun q h => by cases h) dX1_isServer_17
  ·
    refine lv_iload_n hx hb dX1_isServer_4 rfl (lv_at hl 1 rfl) ?_
    refine lv_aload_n hx hb dX1_isServer_5 rfl (lv_at hl 0 rfl) ?_
    refine va_get (D := (dC, dI)) (ci := 1) (v := .int (nI S)) (C := RX1) (T := TX1) (N := 10) hx hb hts hin0 hown hK hP 0 rfl rfl 0 (by decide) (hts (.fieldLink RX1 35 "DottedSiblingsModel" "servers" "I") (by decide +kernel)) (fun _ h9 => h9) rfl dX1_isServer_6 ?_
    refine lv_icmp_ge (tgt := 16) hx hb dX1_isServer_9 (by decide) (fun c9 => ?_) (fun c9 => ?_)
    ·
      refine lv_iconst (v := nI 0) hx hb dX1_isServer_16 (by decide) ?_
      exact W.zret (v := nI 0) hx hb hr (by first | rfl | decide) (fun t ht hW => ⟨_, rfl, (by first | exact Or.inl ⟨rfl, zD_in (by omega) c1 c9⟩ | exact Or.inr ⟨rfl, zD_neg c1⟩ | exact Or.inr ⟨rfl, zD_big (by omega) c9⟩), ht⟩) (fun q h => by cases h) dX1_isServer_17
    ·
      refine lv_iconst (v := nI 1) hx hb dX1_isServer_12 (by decide) ?_
      refine lv_goto (tgt := 17) hx hb dX1_isServer_13 (by decide) ?_
      exact W.zret (v := nI 1) hx hb hr (by first | rfl | decide) (fun t ht hW => ⟨_, rfl, (by first | exact Or.inl ⟨rfl, zD_in (by omega) c1 c9⟩ | exact Or.inr ⟨rfl, zD_neg c1⟩ | exact Or.inr ⟨rfl, zD_big (by omega) c9⟩), ht⟩) (fun q h => by cases h) dX1_isServer_17
set_option maxHeartbeats 4000000 in
set_option maxRecDepth 100000 in
/-- is there such a one -/
theorem c_X1_isClient (l : Launch) (dC : Nat → ClassId) (dI : Nat → Nat → Nat) (ad : Nat → Nat) (cI cJ : ClassId) (S C : Nat) (n : Nat → Nat) (va : Nat → Nat → Int32) (mk ct ps kn cx rd : Nat → Nat → Nat) (hC : C ≤ 4) (x : Int32) : Met l yX1_isClient wsX1_isClient ({ frames := 0, cells := 0, slots := 0, locals := 0 }) (va_Pc [.ref (ad 0), .int x] (mB dC dI ad cI cJ S C n va mk ct ps kn cx rd)) (vp_Si (zIs C x)) 0 0 (fun _ => False) := by
  refine Met.ofW (cc := cX1_isClient) (maxL := 2) (ret := (some .boolean)) (by decide) rfl ?_
  intro p e s m args below meth c s₁ B hml hv
  obtain ⟨rfl, hP, hK⟩ := hv
  have hx := B.exec
  have hb := B.bytes
  have hr := B.returns
  have hts := atoms_spec (ws := wsX1_isClient) B.pre
  have hown : s.vm.findClass RX1 = some m.cls := findClass_of_methodNamed B.named
  have hlocks := B.notSynchronized
  have hin0 : ∀ w ∈ wsX10, w ∈ wsX1_isClient := fun _ h => List.mem_cons_of_mem _ (List.mem_append_right _ h)
  have hl := lv_entry ([.ref (ad 0), .int x]) (n := 2) (Nat.le_of_ble_eq_true rfl)
  rw [lg_entry_eq]
  generalize (lg_sl ([.ref (ad 0), .int x]) ++ List.replicate (2 - (lg_sl ([.ref (ad 0), .int x])).length) Slot.unset).toArray = ls at hl ⊢
  have hl : lv_has ls 2 [(0, .ref (ad 0)), (1, .int x)] := hl
  refine lv_iload_n hx hb dX1_isClient_0 rfl (lv_at hl 1 rfl) ?_
  refine lv_if_lt (tgt := 16) hx hb dX1_isClient_1 (by decide) (fun c1 => ?_) (fun c1 => ?_)
  ·
    refine lv_iconst (v := nI 0) hx hb dX1_isClient_16 (by decide) ?_
    exact W.zret (v := nI 0) hx hb hr (by first | rfl | decide) (fun t ht hW => ⟨_, rfl, (by first | exact Or.inl ⟨rfl, zD_in (by omega) c1 c9⟩ | exact Or.inr ⟨rfl, zD_neg c1⟩ | exact Or.inr ⟨rfl, zD_big (by omega) c9⟩), ht⟩) (fun q h => by cases h) dX1_isClient_17
  ·
    refine lv_iload_n hx hb dX1_isClient_4 rfl (lv_at hl 1 rfl) ?_
    refine lv_aload_n hx hb dX1_isClient_5 rfl (lv_at hl 0 rfl) ?_
    refine va_get (D := (dC, dI)) (ci := 1) (v := .int (nI C)) (C := RX1) (T := TX1) (N := 10) hx hb hts hin0 hown hK hP 0 rfl rfl 1 (by decide) (hts (.fieldLink RX1 39 "DottedSiblingsModel" "clients" "I") (by decide +kernel)) (fun _ h9 => h9) rfl dX1_isClient_6 ?_
    refine lv_icmp_ge (tgt := 16) hx hb dX1_isClient_9 (by decide) (fun c9 => ?_) (fun c9 => ?_)
    ·
      refine lv_iconst (v := nI 0) hx hb dX1_isClient_16 (by decide) ?_
      exact W.zret (v := nI 0) hx hb hr (by first | rfl | decide) (fun t ht hW => ⟨_, rfl, (by first | exact Or.inl ⟨rfl, zD_in (by omega) c1 c9⟩ | exact Or.inr ⟨rfl, zD_neg c1⟩ | exact Or.inr ⟨rfl, zD_big (by omega) c9⟩), ht⟩) (fun q h => by cases h) dX1_isClient_17
    ·
      refine lv_iconst (v := nI 1) hx hb dX1_isClient_12 (by decide) ?_
      refine lv_goto (tgt := 17) hx hb dX1_isClient_13 (by decide) ?_
      exact W.zret (v := nI 1) hx hb hr (by first | rfl | decide) (fun t ht hW => ⟨_, rfl, (by first | exact Or.inl ⟨rfl, zD_in (by omega) c1 c9⟩ | exact Or.inr ⟨rfl, zD_neg c1⟩ | exact Or.inr ⟨rfl, zD_big (by omega) c9⟩), ht⟩) (fun q h => by cases h) dX1_isClient_17
set_option maxHeartbeats 4000000 in
set_option maxRecDepth 100000 in
/-- is there such a key -/
theorem c_X1_isKey (l : Launch) (x : Int32) : Met l yX1_isKey wsX1_isKey ({ frames := 0, cells := 0, slots := 0, locals := 0 }) (va_Pc [.int x] (fun _ => True)) (vp_Si (zIs 3 x)) 0 0 (fun _ => False) := by
  refine Met.ofW (cc := cX1_isKey) (maxL := 1) (ret := (some .boolean)) (by decide) rfl ?_
  intro p e s m args below meth c s₁ B hml hv
  obtain ⟨rfl, -⟩ := hv
  have hx := B.exec
  have hb := B.bytes
  have hr := B.returns
  have hts := atoms_spec (ws := wsX1_isKey) B.pre
  have hown : s.vm.findClass RX1 = some m.cls := findClass_of_methodNamed B.named
  have hlocks := B.notSynchronized
  have hl := lv_entry ([.int x]) (n := 1) (Nat.le_of_ble_eq_true rfl)
  rw [lg_entry_eq]
  generalize (lg_sl ([.int x]) ++ List.replicate (1 - (lg_sl ([.int x])).length) Slot.unset).toArray = ls at hl ⊢
  have hl : lv_has ls 1 [(0, .int x)] := hl
  refine lv_iload_n hx hb dX1_isKey_0 rfl (lv_at hl 0 rfl) ?_
  refine lv_if_lt (tgt := 13) hx hb dX1_isKey_1 (by decide) (fun c1 => ?_) (fun c1 => ?_)
  ·
    refine lv_iconst (v := nI 0) hx hb dX1_isKey_13 (by decide) ?_
    exact W.zret (v := nI 0) hx hb hr (by first | rfl | decide) (fun t ht hW => ⟨_, rfl, (by first | exact Or.inl ⟨rfl, zD_in (by omega) c1 c6⟩ | exact Or.inr ⟨rfl, zD_neg c1⟩ | exact Or.inr ⟨rfl, zD_big (by omega) c6⟩), ht⟩) (fun q h => by cases h) dX1_isKey_14
  ·
    refine lv_iload_n hx hb dX1_isKey_4 rfl (lv_at hl 0 rfl) ?_
    refine lv_iconst (v := nI 3) hx hb dX1_isKey_5 (by decide) ?_
    refine lv_icmp_ge (tgt := 13) hx hb dX1_isKey_6 (by decide) (fun c6 => ?_) (fun c6 => ?_)
    ·
      refine lv_iconst (v := nI 0) hx hb dX1_isKey_13 (by decide) ?_
      exact W.zret (v := nI 0) hx hb hr (by first | rfl | decide) (fun t ht hW => ⟨_, rfl, (by first | exact Or.inl ⟨rfl, zD_in (by omega) c1 c6⟩ | exact Or.inr ⟨rfl, zD_neg c1⟩ | exact Or.inr ⟨rfl, zD_big (by omega) c6⟩), ht⟩) (fun q h => by cases h) dX1_isKey_14
    ·
      refine lv_iconst (v := nI 1) hx hb dX1_isKey_9 (by decide) ?_
      refine lv_goto (tgt := 14) hx hb dX1_isKey_10 (by decide) ?_
      exact W.zret (v := nI 1) hx hb hr (by first | rfl | decide) (fun t ht hW => ⟨_, rfl, (by first | exact Or.inl ⟨rfl, zD_in (by omega) c1 c6⟩ | exact Or.inr ⟨rfl, zD_neg c1⟩ | exact Or.inr ⟨rfl, zD_big (by omega) c6⟩), ht⟩) (fun q h => by cases h) dX1_isKey_14
set_option maxHeartbeats 4000000 in
set_option maxRecDepth 100000 in
/-- the greatest of a set -/
theorem c_X1_newest (l : Launch) (dC : Nat → ClassId) (dI : Nat → Nat → Nat) (ad : Nat → Nat) (cI cJ : ClassId) (S C : Nat) (n : Nat → Nat) (va : Nat → Nat → Int32) (mk ct ps kn cx rd : Nat → Nat → Nat) (k set : Nat) (hk : k < 3) (hset : set < 2 ^ 63) (hn : n k ≤ 40) : Met l yX1_newest wsX1_newest ({ frames := 0, cells := 0, slots := 0, locals := 0 }) (va_Pc [.ref (ad 0), .long (lN set), .int (nI k)] (mB dC dI ad cI cJ S C n va mk ct ps kn cx rd)) (vp_Sl (fun r => r = lN (zNew (n k) (ps k) set))) 0 0 (fun _ => False) := by
  refine Met.ofW (cc := cX1_newest) (maxL := 7) (ret := (some .long)) (by decide) rfl ?_
  intro p e s m args below meth c s₁ B hml hv
  obtain ⟨rfl, hP, hK⟩ := hv
  have hx := B.exec
  have hb := B.bytes
  have hr := B.returns
  have hts := atoms_spec (ws := wsX1_newest) B.pre
  have hown : s.vm.findClass RX1 = some m.cls := findClass_of_methodNamed B.named
  have hlocks := B.notSynchronized
  have hin0 : ∀ w ∈ wsX10, w ∈ wsX1_newest := fun _ h => List.mem_cons_of_mem _ (List.mem_append_right _ h)
  have hl := lv_entry ([.ref (ad 0), .long (lN set), .int (nI k)]) (n := 7) (Nat.le_of_ble_eq_true rfl)
  rw [lg_entry_eq]
  generalize (lg_sl ([.ref (ad 0), .long (lN set), .int (nI k)]) ++ List.replicate (7 - (lg_sl ([.ref (ad 0), .long (lN set), .int (nI k)])).length) Slot.unset).toArray = ls at hl ⊢
  have hl : lv_has ls 7 [(0, .ref (ad 0)), (1, .long (lN set)), (3, .int (nI k))] := hl
  refine lv_lconst (v := lN 0) hx hb dX1_newest_0 (by decide) ?_
  refine lv_lstore (lv' := [(4, .long (lN 0)), (0, .ref (ad 0)), (1, .long (lN set)), (3, .int (nI k))]) hx hb dX1_newest_1 hl (by decide) rfl (fun ls hl => ?_)
  refine lv_iconst (v := nI 0) hx hb dX1_newest_3 (by decide) ?_
  refine lv_istore (lv' := [(6, .int (nI 0)), (4, .long (lN 0)), (0, .ref (ad 0)), (1, .long (lN set)), (3, .int (nI k))]) hx hb dX1_newest_4 hl (by decide) rfl (fun ls hl => ?_)
  refine zr_loop (pc := 6) (fun d ls => ∃ i, i ≤ n k ∧ d = n k - i ∧ lv_has ls 7 [(0, .ref (ad 0)), (1, .long (lN set)), (3, .int (nI k)), (4, .long (lN (zRep (ps k) set i))), (6, .int (nI i))]) ?_ _ _ ⟨0, Nat.zero_le _, rfl, lv_sub hl [2, 3, 4, 1, 0] rfl⟩
  rintro d ls ⟨i, hi, rfl, hl⟩ ih6
  refine lv_iload hx hb dX1_newest_6 (lv_at hl 4 rfl) ?_
  refine lv_aload_n hx hb dX1_newest_8 rfl (lv_at hl 0 rfl) ?_
  refine va_get (D := (dC, dI)) (ci := 1) (v := .ref (ad 1)) (C := RX1) (T := TX1) (N := 10) hx hb hts hin0 hown hK hP 0 rfl rfl 2 (by decide) (hts (.fieldLink RX1 7 "DottedSiblingsModel" "counts" "[I") (by decide +kernel)) (fun _ h9 => h9) rfl dX1_newest_9 ?_
  refine lv_iload_n hx hb dX1_newest_12 rfl (lv_at hl 2 rfl) ?_
  refine zr_iald (v := nI (n k)) hx hb hK hP 1 0 rfl rfl (by omega) (by omega) rfl dX1_newest_13 ?_
  refine zr_ige (tgt := 55) hx hb (by omega) (by omega) dX1_newest_14 (by decide) (fun c14 => ?_) (fun c14 => ?_)
  ·
    refine lv_lload_n hx hb dX1_newest_55 rfl (lv_at hl 1 rfl) ?_
    refine lv_lload hx hb dX1_newest_56 (lv_at hl 3 rfl) ?_
    refine lv_ldc2 (v := (-1)) hx hb hown (hts (.constantLong RX1 42 (-1)) (by decide +kernel)) dX1_newest_58 ?_
    refine lv_lxor hx hb dX1_newest_61 ?_
    refine lv_land hx hb dX1_newest_62 ?_
    exact W.lret (v := (lN set) &&& ((lN (zRep (ps k) set i)) ^^^ (-1))) hx hb hr (fun t ht hW => ⟨_, rfl, (by first | exact (by rw [show i = n k by omega]; exact zNew_l _ _)), ht⟩) (fun q h => by cases h) dX1_newest_63
  ·
    refine lv_lload hx hb dX1_newest_17 (lv_at hl 3 rfl) ?_
    refine lv_lload_n hx hb dX1_newest_19 rfl (lv_at hl 1 rfl) ?_
    refine lv_iload hx hb dX1_newest_20 (lv_at hl 4 rfl) ?_
    refine zr_bit (tgt := 45) hx hb (by omega) (by omega) dX1_newest_22 dX1_newest_23 dX1_newest_24 dX1_newest_25 dX1_newest_26 dX1_newest_27 (by decide) (fun c22 => ?_) (fun c22 => ?_)
    ·
      refine lv_lconst (v := lN 0) hx hb dX1_newest_45 (by decide) ?_
      refine zr_lor hx hb dX1_newest_46 ?_
      refine lv_lstore (lv' := [(4, .long (lN ((zRep (ps k) set i) ||| 0))), (0, .ref (ad 0)), (1, .long (lN set)), (3, .int (nI k)), (6, .int (nI i))]) hx hb dX1_newest_47 hl (by decide) rfl (fun ls hl => ?_)
      refine lv_iinc (v := nI (i + 1)) (lv' := [(6, .int (nI (i + 1))), (4, .long (lN ((zRep (ps k) set i) ||| 0))), (0, .ref (ad 0)), (1, .long (lN set)), (3, .int (nI k))]) hx hb dX1_newest_49 hl (k := 4) rfl (by rw [← nI_1]; rfl) (by decide) rfl (fun ls hl => ?_)
      refine lv_goto (tgt := 6) hx hb dX1_newest_52 (by decide) ?_
      exact ih6 _ _ (by omega) ⟨i + 1, by omega, rfl, by first | (rw [zRep_t c22]; exact lv_sub hl [2, 3, 4, 1, 0] rfl) | (rw [zRep_f c22, ← Nat.or_zero (zRep (ps k) set i)]; exact lv_sub hl [2, 3, 4, 1, 0] rfl)⟩
    ·
      refine lv_aload_n hx hb dX1_newest_30 rfl (lv_at hl 0 rfl) ?_
      refine va_get (D := (dC, dI)) (ci := 1) (v := .ref (ad 5)) (C := RX1) (T := TX1) (N := 10) hx hb hts hin0 hown hK hP 0 rfl rfl 6 (by decide) (hts (.fieldLink RX1 22 "DottedSiblingsModel" "pasts" "[J") (by decide +kernel)) (fun _ h9 => h9) rfl dX1_newest_31 ?_
      refine lv_bipush (v := nI 40) hx hb dX1_newest_34 (by decide) ?_
      refine lv_iload_n hx hb dX1_newest_36 rfl (lv_at hl 2 rfl) ?_
      refine zr_imul hx hb dX1_newest_37 ?_
      refine lv_iload hx hb dX1_newest_38 (lv_at hl 4 rfl) ?_
      refine zr_iadd hx hb dX1_newest_40 ?_
      refine zr_lald (v := lN (ps k i)) hx hb hK hP 5 1 rfl rfl (by omega) (by omega) (congrArg lN (zf40 _ (by omega))) dX1_newest_41 ?_
      refine lv_goto (tgt := 46) hx hb dX1_newest_42 (by decide) ?_
      refine zr_lor hx hb dX1_newest_46 ?_
      refine lv_lstore (lv' := [(4, .long (lN ((zRep (ps k) set i) ||| (ps k i)))), (0, .ref (ad 0)), (1, .long (lN set)), (3, .int (nI k)), (6, .int (nI i))]) hx hb dX1_newest_47 hl (by decide) rfl (fun ls hl => ?_)
      refine lv_iinc (v := nI (i + 1)) (lv' := [(6, .int (nI (i + 1))), (4, .long (lN ((zRep (ps k) set i) ||| (ps k i)))), (0, .ref (ad 0)), (1, .long (lN set)), (3, .int (nI k))]) hx hb dX1_newest_49 hl (k := 4) rfl (by rw [← nI_1]; rfl) (by decide) rfl (fun ls hl => ?_)
      refine lv_goto (tgt := 6) hx hb dX1_newest_52 (by decide) ?_
      exact ih6 _ _ (by omega) ⟨i + 1, by omega, rfl, by first | (rw [zRep_t c22]; exact lv_sub hl [2, 3, 4, 1, 0] rfl) | (rw [zRep_f c22, ← Nat.or_zero (zRep (ps k) set i)]; exact lv_sub hl [2, 3, 4, 1, 0] rfl)⟩
set_option maxHeartbeats 4000000 in
set_option maxRecDepth 100000 in
/-- how many writes a set has -/
theorem c_X1_sizeOf (l : Launch) (set : Nat) (hset : set < 2 ^ 63) : Met l yX1_sizeOf wsX1_sizeOf ({ frames := 0, cells := 0, slots := 0, locals := 0 }) (va_Pc [.long (lN set)] (fun _ => True)) (vp_Si (fun r => r = nI (zSize set))) 0 0 (fun _ => False) := by
  refine Met.ofW (cc := cX1_sizeOf) (maxL := 4) (ret := (some .int)) (by decide) rfl ?_
  intro p e s m args below meth c s₁ B hml hv
  obtain ⟨rfl, -⟩ := hv
  have hx := B.exec
  have hb := B.bytes
  have hr := B.returns
  have hts := atoms_spec (ws := wsX1_sizeOf) B.pre
  have hown : s.vm.findClass RX1 = some m.cls := findClass_of_methodNamed B.named
  have hlocks := B.notSynchronized
  have hl := lv_entry ([.long (lN set)]) (n := 4) (Nat.le_of_ble_eq_true rfl)
  rw [lg_entry_eq]
  generalize (lg_sl ([.long (lN set)]) ++ List.replicate (4 - (lg_sl ([.long (lN set)])).length) Slot.unset).toArray = ls at hl ⊢
  have hl : lv_has ls 4 [(0, .long (lN set))] := hl
  refine lv_iconst (v := nI 0) hx hb dX1_sizeOf_0 (by decide) ?_
  refine lv_istore_n (lv' := [(2, .int (nI 0)), (0, .long (lN set))]) hx hb dX1_sizeOf_1 rfl hl (by decide) rfl (fun ls hl => ?_)
  refine lv_iconst (v := nI 0) hx hb dX1_sizeOf_2 (by decide) ?_
  refine lv_istore_n (lv' := [(3, .int (nI 0)), (2, .int (nI 0)), (0, .long (lN set))]) hx hb dX1_sizeOf_3 rfl hl (by decide) rfl (fun ls hl => ?_)
  refine zr_loop (pc := 4) (fun d ls => ∃ i, i ≤ 40 ∧ d = 40 - i ∧ lv_has ls 4 [(0, .long (lN set)), (2, .int (nI (cn (fun j => set.testBit j) i))), (3, .int (nI i))]) ?_ _ _ ⟨0, Nat.zero_le _, rfl, lv_sub hl [2, 1, 0] rfl⟩
  rintro d ls ⟨i, hi, rfl, hl⟩ ih4
  have hz9 := cn_le (fun j => set.testBit j) i
  refine lv_iload_n hx hb dX1_sizeOf_4 rfl (lv_at hl 2 rfl) ?_
  refine lv_bipush (v := nI 40) hx hb dX1_sizeOf_5 (by decide) ?_
  refine zr_ige (tgt := 26) hx hb (by omega) (by omega) dX1_sizeOf_7 (by decide) (fun c7 => ?_) (fun c7 => ?_)
  ·
    refine lv_iload_n hx hb dX1_sizeOf_26 rfl (lv_at hl 1 rfl) ?_
    exact W.iret (v := nI (cn (fun j => set.testBit j) i)) hx hb hr (fun t ht hW => ⟨_, rfl, (by first | exact (by rw [show i = 40 by omega]; rfl)), ht⟩) (fun q h => by cases h) dX1_sizeOf_27
  ·
    refine lv_iload_n hx hb dX1_sizeOf_10 rfl (lv_at hl 1 rfl) ?_
    refine lv_i2l hx hb dX1_sizeOf_11 (nI_l (by omega)) ?_
    refine lv_lload_n hx hb dX1_sizeOf_12 rfl (lv_at hl 0 rfl) ?_
    refine lv_iload_n hx hb dX1_sizeOf_13 rfl (lv_at hl 2 rfl) ?_
    refine zr_lshr hx hb hset (by omega) dX1_sizeOf_14 ?_
    refine lv_lconst (v := lN 1) hx hb dX1_sizeOf_15 (by decide) ?_
    refine zr_land1 hx hb dX1_sizeOf_16 ?_
    refine zr_ladd hx hb dX1_sizeOf_17 ?_
    refine lv_l2i hx hb dX1_sizeOf_18 (lN_i _) ?_
    refine lv_istore_n (lv' := [(2, .int (nI (cn (fun j => set.testBit j) i + set / 2 ^ i % 2))), (0, .long (lN set)), (3, .int (nI i))]) hx hb dX1_sizeOf_19 rfl hl (by decide) rfl (fun ls hl => ?_)
    refine lv_iinc (v := nI (i + 1)) (lv' := [(3, .int (nI (i + 1))), (2, .int (nI (cn (fun j => set.testBit j) i + set / 2 ^ i % 2))), (0, .long (lN set))]) hx hb dX1_sizeOf_20 hl (k := 2) rfl (by rw [← nI_1]; rfl) (by decide) rfl (fun ls hl => ?_)
    refine lv_goto (tgt := 4) hx hb dX1_sizeOf_23 (by decide) ?_
    exact ih4 _ _ (by omega) ⟨i + 1, by omega, rfl, by rw [cn_bit]; exact lv_sub hl [2, 1, 0] rfl⟩
set_option maxHeartbeats 4000000 in
set_option maxRecDepth 100000 in
/-- the i-th of a set of siblings -/
theorem c_X1_at (l : Launch) (dC : Nat → ClassId) (dI : Nat → Nat → Nat) (ad : Nat → Nat) (cI cJ : ClassId) (S C : Nat) (n : Nat → Nat) (va : Nat → Nat → Int32) (mk ct ps kn cx rd : Nat → Nat → Nat) (k set : Nat) (x : Int32) (hk : k < 3) (hset : set < 2 ^ 63) (hn : n k ≤ 40) (hS : S ≤ 4) (hmk : ∀ w, w < n k → mk k w < S) : Met l yX1_at wsX1_at ({ frames := 0, cells := 0, slots := 0, locals := 0 }) (va_Pc [.ref (ad 0), .long (lN set), .int (nI k), .int x] (mB dC dI ad cI cJ S C n va mk ct ps kn cx rd)) (vp_Si (fun r => r = zW (zAt S (n k) (mk k) set x))) 0 0 (fun _ => False) := by
  refine Met.ofW (cc := cX1_at) (maxL := 8) (ret := (some .int)) (by decide) rfl ?_
  intro p e s m args below meth c s₁ B hml hv
  obtain ⟨rfl, hP, hK⟩ := hv
  have hx := B.exec
  have hb := B.bytes
  have hr := B.returns
  have hts := atoms_spec (ws := wsX1_at) B.pre
  have hown : s.vm.findClass RX1 = some m.cls := findClass_of_methodNamed B.named
  have hlocks := B.notSynchronized
  have hin0 : ∀ w ∈ wsX10, w ∈ wsX1_at := fun _ h => List.mem_cons_of_mem _ (List.mem_append_right _ h)
  have hl := lv_entry ([.ref (ad 0), .long (lN set), .int (nI k), .int x]) (n := 8) (Nat.le_of_ble_eq_true rfl)
  rw [lg_entry_eq]
  generalize (lg_sl ([.ref (ad 0), .long (lN set), .int (nI k), .int x]) ++ List.replicate (8 - (lg_sl ([.ref (ad 0), .long (lN set), .int (nI k), .int x])).length) Slot.unset).toArray = ls at hl ⊢
  have hl : lv_has ls 8 [(0, .ref (ad 0)), (1, .long (lN set)), (3, .int (nI k)), (4, .int x)] := hl
  refine lv_iconst (v := nI 0) hx hb dX1_at_0 (by decide) ?_
  refine lv_istore (lv' := [(5, .int (nI 0)), (0, .ref (ad 0)), (1, .long (lN set)), (3, .int (nI k)), (4, .int x)]) hx hb dX1_at_1 hl (by decide) rfl (fun ls hl => ?_)
  refine lv_iconst (v := nI 0) hx hb dX1_at_3 (by decide) ?_
  refine lv_istore (lv' := [(6, .int (nI 0)), (5, .int (nI 0)), (0, .ref (ad 0)), (1, .long (lN set)), (3, .int (nI k)), (4, .int x)]) hx hb dX1_at_4 hl (by decide) rfl (fun ls hl => ?_)
  refine zr_loop (pc := 6) (fun d ls => ∃ s9 seen, s9 ≤ S ∧ seen ≤ 40 * s9 ∧ zOut (zHit (mk k) set) (n k) x (S - s9) s9 seen = zOut (zHit (mk k) set) (n k) x S 0 0 ∧ d = S - s9 ∧ lv_has ls 8 [(0, .ref (ad 0)), (1, .long (lN set)), (3, .int (nI k)), (4, .int x), (5, .int (nI seen)), (6, .int (nI s9))]) ?_ _ _ ⟨0, 0, Nat.zero_le _, Nat.zero_le _, rfl, rfl, lv_sub hl [2, 3, 4, 5, 1, 0] rfl⟩
  rintro d ls ⟨s9, seen, hs9, hseen, he, rfl, hl⟩ ih6
  refine lv_iload hx hb dX1_at_6 (lv_at hl 5 rfl) ?_
  refine lv_aload_n hx hb dX1_at_8 rfl (lv_at hl 0 rfl) ?_
  refine va_get (D := (dC, dI)) (ci := 1) (v := .int (nI S)) (C := RX1) (T := TX1) (N := 10) hx hb hts hin0 hown hK hP 0 rfl rfl 0 (by decide) (hts (.fieldLink RX1 35 "DottedSiblingsModel" "servers" "I") (by decide +kernel)) (fun _ h9 => h9) rfl dX1_at_9 ?_
  refine zr_ige (tgt := 82) hx hb (by omega) (by omega) dX1_at_12 (by decide) (fun c12 => ?_) (fun c12 => ?_)
  ·
    refine lv_iconst (v := (-1)) hx hb dX1_at_82 (by decide) ?_
    exact W.iret (v := (-1)) hx hb hr (fun t ht hW => ⟨_, rfl, (by first | exact (by unfold zAt; rw [← he, show S - s9 = 0 by omega]; rfl)), ht⟩) (fun q h => by cases h) dX1_at_83
  ·
    refine lv_iconst (v := nI 0) hx hb dX1_at_15 (by decide) ?_
    refine lv_istore (lv' := [(7, .int (nI 0)), (0, .ref (ad 0)), (1, .long (lN set)), (3, .int (nI k)), (4, .int x), (5, .int (nI seen)), (6, .int (nI s9))]) hx hb dX1_at_16 hl (by decide) rfl (fun ls hl => ?_)
    refine zr_loop (pc := 18) (fun d ls => ∃ w seen2, w ≤ n k ∧ seen2 ≤ seen + w ∧ zIn ((zHit (mk k) set) s9) x (n k - w) w seen2 = zIn ((zHit (mk k) set) s9) x (n k) 0 seen ∧ d = n k - w ∧ lv_has ls 8 [(0, .ref (ad 0)), (1, .long (lN set)), (3, .int (nI k)), (4, .int x), (5, .int (nI seen2)), (6, .int (nI s9)), (7, .int (nI w))]) ?_ _ _ ⟨0, seen, Nat.zero_le _, Nat.le_refl _, rfl, rfl, lv_sub hl [1, 2, 3, 4, 5, 6, 0] rfl⟩
    rintro d ls ⟨w, seen2, hw, hseen2, he2, rfl, hl⟩ ih18
    refine lv_iload hx hb dX1_at_18 (lv_at hl 6 rfl) ?_
    refine lv_aload_n hx hb dX1_at_20 rfl (lv_at hl 0 rfl) ?_
    refine va_get (D := (dC, dI)) (ci := 1) (v := .ref (ad 1)) (C := RX1) (T := TX1) (N := 10) hx hb hts hin0 hown hK hP 0 rfl rfl 2 (by decide) (hts (.fieldLink RX1 7 "DottedSiblingsModel" "counts" "[I") (by decide +kernel)) (fun _ h9 => h9) rfl dX1_at_21 ?_
    refine lv_iload_n hx hb dX1_at_24 rfl (lv_at hl 2 rfl) ?_
    refine zr_iald (v := nI (n k)) hx hb hK hP 1 0 rfl rfl (by omega) (by omega) rfl dX1_at_25 ?_
    refine zr_ige (tgt := 76) hx hb (by omega) (by omega) dX1_at_26 (by decide) (fun c26 => ?_) (fun c26 => ?_)
    ·
      refine lv_iinc (v := nI (s9 + 1)) (lv' := [(6, .int (nI (s9 + 1))), (0, .ref (ad 0)), (1, .long (lN set)), (3, .int (nI k)), (4, .int x), (5, .int (nI seen2)), (7, .int (nI w))]) hx hb dX1_at_76 hl (k := 5) rfl (by rw [← nI_1]; rfl) (by decide) rfl (fun ls hl => ?_)
      refine lv_goto (tgt := 6) hx hb dX1_at_79 (by decide) ?_
      exact ih6 _ _ (by omega) ⟨s9 + 1, seen2, by omega, by omega, (zOut_next (by omega) (by rw [← he2, show n k - w = 0 by omega]; rfl)).symm.trans he, rfl, lv_sub hl [1, 2, 3, 4, 5, 0] rfl⟩
    ·
      have hm9 := hmk w (by omega)
      refine lv_lload_n hx hb dX1_at_29 rfl (lv_at hl 1 rfl) ?_
      refine lv_iload hx hb dX1_at_30 (lv_at hl 6 rfl) ?_
      refine zr_bit (tgt := 70) hx hb (by omega) (by omega) dX1_at_32 dX1_at_33 dX1_at_34 dX1_at_35 dX1_at_36 dX1_at_37 (by decide) (fun c32 => ?_) (fun c32 => ?_)
      ·
        refine lv_iinc (v := nI (w + 1)) (lv' := [(7, .int (nI (w + 1))), (0, .ref (ad 0)), (1, .long (lN set)), (3, .int (nI k)), (4, .int x), (5, .int (nI seen2)), (6, .int (nI s9))]) hx hb dX1_at_70 hl (k := 6) rfl (by rw [← nI_1]; rfl) (by decide) rfl (fun ls hl => ?_)
        refine lv_goto (tgt := 18) hx hb dX1_at_73 (by decide) ?_
        first | exact ih18 _ _ (by omega) ⟨w + 1, seen2 + 1, by omega, by omega, (zIn_go (by omega) (zHit_t c54 c32) c61).symm.trans he2, rfl, lv_sub hl [1, 2, 3, 4, 5, 6, 0] rfl⟩ | exact ih18 _ _ (by omega) ⟨w + 1, seen2, by omega, by omega, (zIn_skip (by omega) (zHit_n c54)).symm.trans he2, rfl, lv_sub hl [1, 2, 3, 4, 5, 6, 0] rfl⟩ | exact ih18 _ _ (by omega) ⟨w + 1, seen2, by omega, by omega, (zIn_skip (by omega) (zHit_b c32)).symm.trans he2, rfl, lv_sub hl [1, 2, 3, 4, 5, 6, 0] rfl⟩
      ·
        refine lv_aload_n hx hb dX1_at_40 rfl (lv_at hl 0 rfl) ?_
        refine va_get (D := (dC, dI)) (ci := 1) (v := .ref (ad 3)) (C := RX1) (T := TX1) (N := 10) hx hb hts hin0 hown hK hP 0 rfl rfl 4 (by decide) (hts (.fieldLink RX1 16 "DottedSiblingsModel" "made" "[I") (by decide +kernel)) (fun _ h9 => h9) rfl dX1_at_41 ?_
        refine lv_bipush (v := nI 40) hx hb dX1_at_44 (by decide) ?_
        refine lv_iload_n hx hb dX1_at_46 rfl (lv_at hl 2 rfl) ?_
        refine zr_imul hx hb dX1_at_47 ?_
        refine lv_iload hx hb dX1_at_48 (lv_at hl 6 rfl) ?_
        refine zr_iadd hx hb dX1_at_50 ?_
        refine zr_iald (v := nI (mk k w)) hx hb hK hP 3 0 rfl rfl (by omega) (by omega) (congrArg nI (zf40 _ (by omega))) dX1_at_51 ?_
        refine lv_iload hx hb dX1_at_52 (lv_at hl 5 rfl) ?_
        refine zr_ine (tgt := 70) hx hb (by omega) (by omega) dX1_at_54 (by decide) (fun c54 => ?_) (fun c54 => ?_)
        ·
          refine lv_iinc (v := nI (w + 1)) (lv' := [(7, .int (nI (w + 1))), (0, .ref (ad 0)), (1, .long (lN set)), (3, .int (nI k)), (4, .int x), (5, .int (nI seen2)), (6, .int (nI s9))]) hx hb dX1_at_70 hl (k := 6) rfl (by rw [← nI_1]; rfl) (by decide) rfl (fun ls hl => ?_)
          refine lv_goto (tgt := 18) hx hb dX1_at_73 (by decide) ?_
          first | exact ih18 _ _ (by omega) ⟨w + 1, seen2 + 1, by omega, by omega, (zIn_go (by omega) (zHit_t c54 c32) c61).symm.trans he2, rfl, lv_sub hl [1, 2, 3, 4, 5, 6, 0] rfl⟩ | exact ih18 _ _ (by omega) ⟨w + 1, seen2, by omega, by omega, (zIn_skip (by omega) (zHit_n c54)).symm.trans he2, rfl, lv_sub hl [1, 2, 3, 4, 5, 6, 0] rfl⟩ | exact ih18 _ _ (by omega) ⟨w + 1, seen2, by omega, by omega, (zIn_skip (by omega) (zHit_b c32)).symm.trans he2, rfl, lv_sub hl [1, 2, 3, 4, 5, 6, 0] rfl⟩
        ·
          refine lv_iload hx hb dX1_at_57 (lv_at hl 4 rfl) ?_
          refine lv_iload hx hb dX1_at_59 (lv_at hl 3 rfl) ?_
          refine lv_icmp_ne (tgt := 67) hx hb dX1_at_61 (by decide) (fun c61 => ?_) (fun c61 => ?_)
          ·
            refine lv_iinc (v := nI (seen2 + 1)) (lv' := [(5, .int (nI (seen2 + 1))), (0, .ref (ad 0)), (1, .long (lN set)), (3, .int (nI k)), (4, .int x), (6, .int (nI s9)), (7, .int (nI w))]) hx hb dX1_at_67 hl (k := 4) rfl (by rw [← nI_1]; rfl) (by decide) rfl (fun ls hl => ?_)
            refine lv_iinc (v := nI (w + 1)) (lv' := [(7, .int (nI (w + 1))), (5, .int (nI (seen2 + 1))), (0, .ref (ad 0)), (1, .long (lN set)), (3, .int (nI k)), (4, .int x), (6, .int (nI s9))]) hx hb dX1_at_70 hl (k := 6) rfl (by rw [← nI_1]; rfl) (by decide) rfl (fun ls hl => ?_)
            refine lv_goto (tgt := 18) hx hb dX1_at_73 (by decide) ?_
            first | exact ih18 _ _ (by omega) ⟨w + 1, seen2 + 1, by omega, by omega, (zIn_go (by omega) (zHit_t c54 c32) c61).symm.trans he2, rfl, lv_sub hl [2, 3, 4, 5, 1, 6, 0] rfl⟩ | exact ih18 _ _ (by omega) ⟨w + 1, seen2, by omega, by omega, (zIn_skip (by omega) (zHit_n c54)).symm.trans he2, rfl, lv_sub hl [2, 3, 4, 5, 1, 6, 0] rfl⟩ | exact ih18 _ _ (by omega) ⟨w + 1, seen2, by omega, by omega, (zIn_skip (by omega) (zHit_b c32)).symm.trans he2, rfl, lv_sub hl [2, 3, 4, 5, 1, 6, 0] rfl⟩
          ·
            refine lv_iload hx hb dX1_at_64 (lv_at hl 6 rfl) ?_
            exact W.iret (v := nI w) hx hb hr (fun t ht hW => ⟨_, rfl, (by first | exact (by unfold zAt; rw [← he, zOut_found (by omega) (by rw [← he2, zIn_hit (by omega) (zHit_t c54 c32) c61])]; rfl)), ht⟩) (fun q h => by cases h) dX1_at_66
set_option maxHeartbeats 4000000 in
set_option maxRecDepth 100000 in
/-- what the vector of a set has for a server -/
theorem c_X1_vector (l : Launch) (dC : Nat → ClassId) (dI : Nat → Nat → Nat) (ad : Nat → Nat) (cI cJ : ClassId) (S C : Nat) (n : Nat → Nat) (va : Nat → Nat → Int32) (mk ct ps kn cx rd : Nat → Nat → Nat) (k set o : Nat) (hk : k < 3) (hset : set < 2 ^ 63) (ho : o < 4) (hn : n k ≤ 40) (hmk : ∀ w, w < n k → mk k w < 4) (hct : ∀ w, ct k w ≤ 40) : Met l yX1_vector wsX1_vector ({ frames := 0, cells := 0, slots := 0, locals := 0 }) (va_Pc [.ref (ad 0), .long (lN set), .int (nI k), .int (nI o)] (mB dC dI ad cI cJ S C n va mk ct ps kn cx rd)) (vp_Si (fun r => r = nI (zVec (ct k) (zHit (mk k) set o) (n k)))) 0 0 (fun _ => False) := by
  refine Met.ofW (cc := cX1_vector) (maxL := 8) (ret := (some .int)) (by decide) rfl ?_
  intro p e s m args below meth c s₁ B hml hv
  obtain ⟨rfl, hP, hK⟩ := hv
  have hx := B.exec
  have hb := B.bytes
  have hr := B.returns
  have hts := atoms_spec (ws := wsX1_vector) B.pre
  have hown : s.vm.findClass RX1 = some m.cls := findClass_of_methodNamed B.named
  have hlocks := B.notSynchronized
  have hin0 : ∀ w ∈ wsX10, w ∈ wsX1_vector := fun _ h => List.mem_cons_of_mem _ (List.mem_append_right _ h)
  have hl := lv_entry ([.ref (ad 0), .long (lN set), .int (nI k), .int (nI o)]) (n := 8) (Nat.le_of_ble_eq_true rfl)
  rw [lg_entry_eq]
  generalize (lg_sl ([.ref (ad 0), .long (lN set), .int (nI k), .int (nI o)]) ++ List.replicate (8 - (lg_sl ([.ref (ad 0), .long (lN set), .int (nI k), .int (nI o)])).length) Slot.unset).toArray = ls at hl ⊢
  have hl : lv_has ls 8 [(0, .ref (ad 0)), (1, .long (lN set)), (3, .int (nI k)), (4, .int (nI o))] := hl
  refine lv_iconst (v := nI 0) hx hb dX1_vector_0 (by decide) ?_
  refine lv_istore (lv' := [(5, .int (nI 0)), (0, .ref (ad 0)), (1, .long (lN set)), (3, .int (nI k)), (4, .int (nI o))]) hx hb dX1_vector_1 hl (by decide) rfl (fun ls hl => ?_)
  refine lv_iconst (v := nI 0) hx hb dX1_vector_3 (by decide) ?_
  refine lv_istore (lv' := [(6, .int (nI 0)), (5, .int (nI 0)), (0, .ref (ad 0)), (1, .long (lN set)), (3, .int (nI k)), (4, .int (nI o))]) hx hb dX1_vector_4 hl (by decide) rfl (fun ls hl => ?_)
  refine zr_loop (pc := 6) (fun d ls => ∃ i, i ≤ n k ∧ d = n k - i ∧ lv_has ls 8 [(0, .ref (ad 0)), (1, .long (lN set)), (3, .int (nI k)), (4, .int (nI o)), (5, .int (nI (zVec (ct k) (zHit (mk k) set o) i))), (6, .int (nI i))]) ?_ _ _ ⟨0, Nat.zero_le _, rfl, lv_sub hl [2, 3, 4, 5, 1, 0] rfl⟩
  rintro d ls ⟨i, hi, rfl, hl⟩ ih6
  have hz9 := zVec_le (hit := zHit (mk k) set o) hct i
  have hc9 := hct i
  refine lv_iload hx hb dX1_vector_6 (lv_at hl 5 rfl) ?_
  refine lv_aload_n hx hb dX1_vector_8 rfl (lv_at hl 0 rfl) ?_
  refine va_get (D := (dC, dI)) (ci := 1) (v := .ref (ad 1)) (C := RX1) (T := TX1) (N := 10) hx hb hts hin0 hown hK hP 0 rfl rfl 2 (by decide) (hts (.fieldLink RX1 7 "DottedSiblingsModel" "counts" "[I") (by decide +kernel)) (fun _ h9 => h9) rfl dX1_vector_9 ?_
  refine lv_iload_n hx hb dX1_vector_12 rfl (lv_at hl 2 rfl) ?_
  refine zr_iald (v := nI (n k)) hx hb hK hP 1 0 rfl rfl (by omega) (by omega) rfl dX1_vector_13 ?_
  refine zr_ige (tgt := 99) hx hb (by omega) (by omega) dX1_vector_14 (by decide) (fun c14 => ?_) (fun c14 => ?_)
  ·
    refine lv_iload hx hb dX1_vector_99 (lv_at hl 4 rfl) ?_
    exact W.iret (v := nI (zVec (ct k) (zHit (mk k) set o) i)) hx hb hr (fun t ht hW => ⟨_, rfl, (by first | exact (by rw [show i = n k by omega])), ht⟩) (fun q h => by cases h) dX1_vector_101
  ·
    have hm9 := hmk i (by omega)
    refine lv_lload_n hx hb dX1_vector_17 rfl (lv_at hl 1 rfl) ?_
    refine lv_iload hx hb dX1_vector_18 (lv_at hl 5 rfl) ?_
    refine zr_bit (tgt := 49) hx hb (by omega) (by omega) dX1_vector_20 dX1_vector_21 dX1_vector_22 dX1_vector_23 dX1_vector_24 dX1_vector_25 (by decide) (fun c20 => ?_) (fun c20 => ?_)
    ·
      refine lv_iconst (v := nI 0) hx hb dX1_vector_49 (by decide) ?_
      refine lv_istore (lv' := [(7, .int (nI 0)), (0, .ref (ad 0)), (1, .long (lN set)), (3, .int (nI k)), (4, .int (nI o)), (5, .int (nI (zVec (ct k) (zHit (mk k) set o) i))), (6, .int (nI i))]) hx hb dX1_vector_50 hl (by decide) rfl (fun ls hl => ?_)
      refine lv_iload hx hb dX1_vector_52 (lv_at hl 0 rfl) ?_
      refine lv_if_eq (tgt := 89) hx hb dX1_vector_54 (by decide) (fun _ => ?_) (fun q => absurd q (by decide))
      refine lv_iload hx hb dX1_vector_89 (lv_at hl 5 rfl) ?_
      refine lv_istore (lv' := [(5, .int (nI (zVec (ct k) (zHit (mk k) set o) i))), (7, .int (nI 0)), (0, .ref (ad 0)), (1, .long (lN set)), (3, .int (nI k)), (4, .int (nI o)), (6, .int (nI i))]) hx hb dX1_vector_91 hl (by decide) rfl (fun ls hl => ?_)
      refine lv_iinc (v := nI (i + 1)) (lv' := [(6, .int (nI (i + 1))), (5, .int (nI (zVec (ct k) (zHit (mk k) set o) i))), (7, .int (nI 0)), (0, .ref (ad 0)), (1, .long (lN set)), (3, .int (nI k)), (4, .int (nI o))]) hx hb dX1_vector_93 hl (k := 6) rfl (by rw [← nI_1]; rfl) (by decide) rfl (fun ls hl => ?_)
      refine lv_goto (tgt := 6) hx hb dX1_vector_96 (by decide) ?_
      exact ih6 _ _ (by omega) ⟨i + 1, by omega, rfl, by first | (rw [zVec_t (zHit_t c42 c20), if_pos c71]; exact lv_sub hl [3, 4, 5, 6, 1, 0] rfl) | (rw [zVec_t (zHit_t c42 c20), if_neg (Nat.not_lt.mpr c71)]; exact lv_sub hl [3, 4, 5, 6, 1, 0] rfl) | (rw [zVec_f (zHit_n c42)]; exact lv_sub hl [3, 4, 5, 6, 1, 0] rfl) | (rw [zVec_f (zHit_b c20)]; exact lv_sub hl [3, 4, 5, 6, 1, 0] rfl)⟩
    ·
      refine lv_aload_n hx hb dX1_vector_28 rfl (lv_at hl 0 rfl) ?_
      refine va_get (D := (dC, dI)) (ci := 1) (v := .ref (ad 3)) (C := RX1) (T := TX1) (N := 10) hx hb hts hin0 hown hK hP 0 rfl rfl 4 (by decide) (hts (.fieldLink RX1 16 "DottedSiblingsModel" "made" "[I") (by decide +kernel)) (fun _ h9 => h9) rfl dX1_vector_29 ?_
      refine lv_bipush (v := nI 40) hx hb dX1_vector_32 (by decide) ?_
      refine lv_iload_n hx hb dX1_vector_34 rfl (lv_at hl 2 rfl) ?_
      refine zr_imul hx hb dX1_vector_35 ?_
      refine lv_iload hx hb dX1_vector_36 (lv_at hl 5 rfl) ?_
      refine zr_iadd hx hb dX1_vector_38 ?_
      refine zr_iald (v := nI (mk k i)) hx hb hK hP 3 0 rfl rfl (by omega) (by omega) (congrArg nI (zf40 _ (by omega))) dX1_vector_39 ?_
      refine lv_iload hx hb dX1_vector_40 (lv_at hl 3 rfl) ?_
      refine zr_ine (tgt := 49) hx hb (by omega) (by omega) dX1_vector_42 (by decide) (fun c42 => ?_) (fun c42 => ?_)
      ·
        refine lv_iconst (v := nI 0) hx hb dX1_vector_49 (by decide) ?_
        refine lv_istore (lv' := [(7, .int (nI 0)), (0, .ref (ad 0)), (1, .long (lN set)), (3, .int (nI k)), (4, .int (nI o)), (5, .int (nI (zVec (ct k) (zHit (mk k) set o) i))), (6, .int (nI i))]) hx hb dX1_vector_50 hl (by decide) rfl (fun ls hl => ?_)
        refine lv_iload hx hb dX1_vector_52 (lv_at hl 0 rfl) ?_
        refine lv_if_eq (tgt := 89) hx hb dX1_vector_54 (by decide) (fun _ => ?_) (fun q => absurd q (by decide))
        refine lv_iload hx hb dX1_vector_89 (lv_at hl 5 rfl) ?_
        refine lv_istore (lv' := [(5, .int (nI (zVec (ct k) (zHit (mk k) set o) i))), (7, .int (nI 0)), (0, .ref (ad 0)), (1, .long (lN set)), (3, .int (nI k)), (4, .int (nI o)), (6, .int (nI i))]) hx hb dX1_vector_91 hl (by decide) rfl (fun ls hl => ?_)
        refine lv_iinc (v := nI (i + 1)) (lv' := [(6, .int (nI (i + 1))), (5, .int (nI (zVec (ct k) (zHit (mk k) set o) i))), (7, .int (nI 0)), (0, .ref (ad 0)), (1, .long (lN set)), (3, .int (nI k)), (4, .int (nI o))]) hx hb dX1_vector_93 hl (k := 6) rfl (by rw [← nI_1]; rfl) (by decide) rfl (fun ls hl => ?_)
        refine lv_goto (tgt := 6) hx hb dX1_vector_96 (by decide) ?_
        exact ih6 _ _ (by omega) ⟨i + 1, by omega, rfl, by first | (rw [zVec_t (zHit_t c42 c20), if_pos c71]; exact lv_sub hl [3, 4, 5, 6, 1, 0] rfl) | (rw [zVec_t (zHit_t c42 c20), if_neg (Nat.not_lt.mpr c71)]; exact lv_sub hl [3, 4, 5, 6, 1, 0] rfl) | (rw [zVec_f (zHit_n c42)]; exact lv_sub hl [3, 4, 5, 6, 1, 0] rfl) | (rw [zVec_f (zHit_b c20)]; exact lv_sub hl [3, 4, 5, 6, 1, 0] rfl)⟩
      ·
        refine lv_iconst (v := nI 1) hx hb dX1_vector_45 (by decide) ?_
        refine lv_goto (tgt := 50) hx hb dX1_vector_46 (by decide) ?_
        refine lv_istore (lv' := [(7, .int (nI 1)), (0, .ref (ad 0)), (1, .long (lN set)), (3, .int (nI k)), (4, .int (nI o)), (5, .int (nI (zVec (ct k) (zHit (mk k) set o) i))), (6, .int (nI i))]) hx hb dX1_vector_50 hl (by decide) rfl (fun ls hl => ?_)
        refine lv_iload hx hb dX1_vector_52 (lv_at hl 0 rfl) ?_
        refine lv_if_eq (tgt := 89) hx hb dX1_vector_54 (by decide) (fun q => absurd q (by decide)) (fun _ => ?_)
        refine lv_aload_n hx hb dX1_vector_57 rfl (lv_at hl 1 rfl) ?_
        refine va_get (D := (dC, dI)) (ci := 1) (v := .ref (ad 4)) (C := RX1) (T := TX1) (N := 10) hx hb hts hin0 hown hK hP 0 rfl rfl 5 (by decide) (hts (.fieldLink RX1 19 "DottedSiblingsModel" "counters" "[I") (by decide +kernel)) (fun _ h9 => h9) rfl dX1_vector_58 ?_
        refine lv_bipush (v := nI 40) hx hb dX1_vector_61 (by decide) ?_
        refine lv_iload_n hx hb dX1_vector_63 rfl (lv_at hl 3 rfl) ?_
        refine zr_imul hx hb dX1_vector_64 ?_
        refine lv_iload hx hb dX1_vector_65 (lv_at hl 6 rfl) ?_
        refine zr_iadd hx hb dX1_vector_67 ?_
        refine zr_iald (v := nI (ct k i)) hx hb hK hP 4 0 rfl rfl (by omega) (by omega) (congrArg nI (zf40 _ (by omega))) dX1_vector_68 ?_
        refine lv_iload hx hb dX1_vector_69 (lv_at hl 5 rfl) ?_
        refine zr_ile (tgt := 89) hx hb (by omega) (by omega) dX1_vector_71 (by decide) (fun c71 => ?_) (fun c71 => ?_)
        ·
          refine lv_iload hx hb dX1_vector_89 (lv_at hl 5 rfl) ?_
          refine lv_istore (lv' := [(5, .int (nI (zVec (ct k) (zHit (mk k) set o) i))), (7, .int (nI 1)), (0, .ref (ad 0)), (1, .long (lN set)), (3, .int (nI k)), (4, .int (nI o)), (6, .int (nI i))]) hx hb dX1_vector_91 hl (by decide) rfl (fun ls hl => ?_)
          refine lv_iinc (v := nI (i + 1)) (lv' := [(6, .int (nI (i + 1))), (5, .int (nI (zVec (ct k) (zHit (mk k) set o) i))), (7, .int (nI 1)), (0, .ref (ad 0)), (1, .long (lN set)), (3, .int (nI k)), (4, .int (nI o))]) hx hb dX1_vector_93 hl (k := 6) rfl (by rw [← nI_1]; rfl) (by decide) rfl (fun ls hl => ?_)
          refine lv_goto (tgt := 6) hx hb dX1_vector_96 (by decide) ?_
          exact ih6 _ _ (by omega) ⟨i + 1, by omega, rfl, by first | (rw [zVec_t (zHit_t c42 c20), if_pos c71]; exact lv_sub hl [3, 4, 5, 6, 1, 0] rfl) | (rw [zVec_t (zHit_t c42 c20), if_neg (Nat.not_lt.mpr c71)]; exact lv_sub hl [3, 4, 5, 6, 1, 0] rfl) | (rw [zVec_f (zHit_n c42)]; exact lv_sub hl [3, 4, 5, 6, 1, 0] rfl) | (rw [zVec_f (zHit_b c20)]; exact lv_sub hl [3, 4, 5, 6, 1, 0] rfl)⟩
        ·
          refine lv_aload_n hx hb dX1_vector_74 rfl (lv_at hl 1 rfl) ?_
          refine va_get (D := (dC, dI)) (ci := 1) (v := .ref (ad 4)) (C := RX1) (T := TX1) (N := 10) hx hb hts hin0 hown hK hP 0 rfl rfl 5 (by decide) (hts (.fieldLink RX1 19 "DottedSiblingsModel" "counters" "[I") (by decide +kernel)) (fun _ h9 => h9) rfl dX1_vector_75 ?_
          refine lv_bipush (v := nI 40) hx hb dX1_vector_78 (by decide) ?_
          refine lv_iload_n hx hb dX1_vector_80 rfl (lv_at hl 3 rfl) ?_
          refine zr_imul hx hb dX1_vector_81 ?_
          refine lv_iload hx hb dX1_vector_82 (lv_at hl 6 rfl) ?_
          refine zr_iadd hx hb dX1_vector_84 ?_
          refine zr_iald (v := nI (ct k i)) hx hb hK hP 4 0 rfl rfl (by omega) (by omega) (congrArg nI (zf40 _ (by omega))) dX1_vector_85 ?_
          refine lv_goto (tgt := 91) hx hb dX1_vector_86 (by decide) ?_
          refine lv_istore (lv' := [(5, .int (nI (ct k i))), (7, .int (nI 1)), (0, .ref (ad 0)), (1, .long (lN set)), (3, .int (nI k)), (4, .int (nI o)), (6, .int (nI i))]) hx hb dX1_vector_91 hl (by decide) rfl (fun ls hl => ?_)
          refine lv_iinc (v := nI (i + 1)) (lv' := [(6, .int (nI (i + 1))), (5, .int (nI (ct k i))), (7, .int (nI 1)), (0, .ref (ad 0)), (1, .long (lN set)), (3, .int (nI k)), (4, .int (nI o))]) hx hb dX1_vector_93 hl (k := 6) rfl (by rw [← nI_1]; rfl) (by decide) rfl (fun ls hl => ?_)
          refine lv_goto (tgt := 6) hx hb dX1_vector_96 (by decide) ?_
          exact ih6 _ _ (by omega) ⟨i + 1, by omega, rfl, by first | (rw [zVec_t (zHit_t c42 c20), if_pos c71]; exact lv_sub hl [3, 4, 5, 6, 1, 0] rfl) | (rw [zVec_t (zHit_t c42 c20), if_neg (Nat.not_lt.mpr c71)]; exact lv_sub hl [3, 4, 5, 6, 1, 0] rfl) | (rw [zVec_f (zHit_n c42)]; exact lv_sub hl [3, 4, 5, 6, 1, 0] rfl) | (rw [zVec_f (zHit_b c20)]; exact lv_sub hl [3, 4, 5, 6, 1, 0] rfl)⟩
set_option maxHeartbeats 4000000 in
set_option maxRecDepth 100000 in
/-- read -/
theorem c_X1_read (l : Launch) (dC : Nat → ClassId) (dI : Nat → Nat → Nat) (ad : Nat → Nat) (cI cJ : ClassId) (S C : Nat) (n : Nat → Nat) (va : Nat → Nat → Int32) (mk ct ps kn cx rd : Nat → Nat → Nat) (hG : zG S C n mk ct ps kn cx) (hrd : ∀ k c, rd k c < 2 ^ n k) (x1 x2 x3 : Int32) : Met l yX1_read wsX1_read ({ frames := 1, cells := 0, slots := 0, locals := 27 }) (va_Pc [.ref (ad 0), .int x1, .int x2, .int x3] (mB dC dI ad cI cJ S C n va mk ct ps kn cx rd)) (vp_Sl (fun r => r = aRead2 S C n va mk rd x1 x2 x3)) 0 0 (fun _ => False) := by
  refine Met.ofW (cc := cX1_read) (maxL := 5) (ret := (some .long)) (by decide) rfl ?_
  intro p e s m args below meth c s₁ B hml hv
  obtain ⟨rfl, hP, hK⟩ := hv
  have hx := B.exec
  have hb := B.bytes
  have hr := B.returns
  have hts := atoms_spec (ws := wsX1_read) B.pre
  have hown : s.vm.findClass RX1 = some m.cls := findClass_of_methodNamed B.named
  have hlocks := B.notSynchronized
  have hin0 : ∀ w ∈ wsX10, w ∈ wsX1_read := fun _ h => List.mem_cons_of_mem _ (List.mem_append_right _ h)
  have hl := lv_entry ([.ref (ad 0), .int x1, .int x2, .int x3]) (n := 5) (Nat.le_of_ble_eq_true rfl)
  rw [lg_entry_eq]
  generalize (lg_sl ([.ref (ad 0), .int x1, .int x2, .int x3]) ++ List.replicate (5 - (lg_sl ([.ref (ad 0), .int x1, .int x2, .int x3])).length) Slot.unset).toArray = ls at hl ⊢
  have hl : lv_has ls 5 [(0, .ref (ad 0)), (1, .int x1), (2, .int x2), (3, .int x3)] := hl
  obtain ⟨⟨hS1, hS4, hC1, hC4⟩, hn, hmk, hct, hps, hkn, hcx, hcn, hkw⟩ := hG
  refine lv_aload_n hx hb dX1_read_0 rfl (lv_at hl 0 rfl) ?_
  refine lv_iload_n hx hb dX1_read_1 rfl (lv_at hl 1 rfl) ?_
  refine vp_callSi (W.runV (As := [.int x1]) (rest := []) ⟨hx, hb, hml, hown, hts⟩ (c_X1_isClient l dC dI ad cI cJ S C n va mk ct ps kn cx rd (by omega) x1) (cwV 1 hts gX1_read_X1_isClient rfl rfl rfl (by decide +kernel) ⟨Nat.le_of_ble_eq_true rfl, Nat.le_of_ble_eq_true rfl⟩) ⟨mB_blind, va_recv hK hP (ci := 1) (q0 := 0) rfl rfl, fun U hU hW => ⟨rfl, mB_at hP hK hU hW⟩⟩ rfl rfl hl.1 rfl (lv_room (Nat.le_of_ble_eq_true rfl)) dX1_read_2 ⟨Nat.le_of_ble_eq_true rfl, Nat.le_of_ble_eq_true rfl⟩) (fun r hq => ?_)
  rcases hq with ⟨rfl, cl, hcl, rfl, hdx1⟩ | ⟨rfl, hdx1⟩
  ·
    refine lv_if_eq (tgt := 15) hx hb dX1_read_5 (by decide) (fun q => absurd q (by decide)) (fun _ => ?_)
    refine lv_iload_n hx hb dX1_read_8 rfl (lv_at hl 2 rfl) ?_
    refine vp_callSi (W.runS (As := [.int x2]) (rest := []) ⟨hx, hb, hml, hown, hts⟩ (c_X1_isKey l x2) (va_cwS 1 hts gX1_read_X1_isKey rfl rfl rfl (by decide +kernel) ⟨Nat.le_of_ble_eq_true rfl, Nat.le_of_ble_eq_true rfl⟩) ⟨zB_blind, fun U hU hW => ⟨rfl, trivial⟩⟩ rfl rfl hl.1 rfl (lv_room (Nat.le_of_ble_eq_true rfl)) dX1_read_9 ⟨Nat.le_of_ble_eq_true rfl, Nat.le_of_ble_eq_true rfl⟩) (fun r hq => ?_)
    rcases hq with ⟨rfl, ky, hky, rfl, hdx2⟩ | ⟨rfl, hdx2⟩
    ·
      refine lv_if_ne (tgt := 19) hx hb dX1_read_12 (by decide) (fun _ => ?_) (fun q => absurd q (by decide))
      refine lv_aload_n hx hb dX1_read_19 rfl (lv_at hl 0 rfl) ?_
      refine lv_aload_n hx hb dX1_read_20 rfl (lv_at hl 0 rfl) ?_
      refine va_get (D := (dC, dI)) (ci := 1) (v := .ref (ad 8)) (C := RX1) (T := TX1) (N := 10) hx hb hts hin0 hown hK hP 0 rfl rfl 9 (by decide) (hts (.fieldLink RX1 32 "DottedSiblingsModel" "reads" "[J") (by decide +kernel)) (fun _ h9 => h9) rfl dX1_read_21 ?_
      refine lv_iconst (v := nI 3) hx hb dX1_read_24 (by decide) ?_
      refine lv_iload_n hx hb dX1_read_25 rfl (lv_at hl 1 rfl) ?_
      refine zr_imul hx hb dX1_read_26 ?_
      refine lv_iload_n hx hb dX1_read_27 rfl (lv_at hl 2 rfl) ?_
      refine zr_iadd hx hb dX1_read_28 ?_
      refine zr_lald (v := lN (rd ky cl)) hx hb hK hP 8 1 rfl rfl (by omega) (by omega) (congrArg lN (zf3 _ (by omega))) dX1_read_29 ?_
      refine lv_iload_n hx hb dX1_read_30 rfl (lv_at hl 2 rfl) ?_
      refine lv_iload_n hx hb dX1_read_31 rfl (lv_at hl 3 rfl) ?_
      refine vp_callSi (W.runV (As := [.long (lN (rd ky cl)), .int (nI ky), .int x3]) (rest := []) ⟨hx, hb, hml, hown, hts⟩ (c_X1_at l dC dI ad cI cJ S C n va mk ct ps kn cx rd ky (rd ky cl) x3 (by omega) (Nat.lt_trans (z40 (hrd _ _) (hn _)) (by decide)) (hn _) (by omega) (hmk _)) (cwV 3 hts gX1_read_X1_at rfl rfl rfl (by decide +kernel) ⟨Nat.le_of_ble_eq_true rfl, Nat.le_of_ble_eq_true rfl⟩) ⟨mB_blind, va_recv hK hP (ci := 1) (q0 := 0) rfl rfl, fun U hU hW => ⟨rfl, mB_at hP hK hU hW⟩⟩ rfl rfl hl.1 rfl (lv_room (Nat.le_of_ble_eq_true rfl)) dX1_read_32 ⟨Nat.le_of_ble_eq_true rfl, Nat.le_of_ble_eq_true rfl⟩) (fun r hq => ?_)
      rcases hz : zAt S (n ky) (mk ky) (rd ky cl) x3 with _ | wr
      ·
        have hq : r = -1 := by rw [hq, hz]; rfl
        subst hq
        refine lv_istore (lv' := [(4, .int (-1)), (0, .ref (ad 0)), (1, .int (nI cl)), (2, .int (nI ky)), (3, .int x3)]) hx hb dX1_read_35 hl (by decide) rfl (fun ls hl => ?_)
        refine lv_iload hx hb dX1_read_37 (lv_at hl 0 rfl) ?_
        refine lv_if_ge (tgt := 48) hx hb dX1_read_39 (by decide) (fun q => absurd q (by decide)) (fun _ => ?_)
        refine lv_ldc2 (v := (-9223372036854775808)) hx hb hown (hts (.constantLong RX1 62 (-9223372036854775808)) (by decide +kernel)) dX1_read_42 ?_
        refine lv_goto (tgt := 61) hx hb dX1_read_45 (by decide) ?_
        exact W.lret (v := (-9223372036854775808)) hx hb hr (fun t ht hW => ⟨_, rfl, (by first | exact (zq2_1 hdx1).symm | exact (zq2_2 hdx2).symm | exact (by unfold aRead2; rw [zq2_s hdx1 hdx2, hz]; first | done | rfl)), ht⟩) (fun q h => by cases h) dX1_read_61
      ·
        have hq : r = nI wr := by rw [hq, hz]; rfl
        have hwr : wr < _ := zOut_lt _ _ _ hz
        have hn9 := hn ky
        subst hq
        refine lv_istore (lv' := [(4, .int (nI wr)), (0, .ref (ad 0)), (1, .int (nI cl)), (2, .int (nI ky)), (3, .int x3)]) hx hb dX1_read_35 hl (by decide) rfl (fun ls hl => ?_)
        refine lv_iload hx hb dX1_read_37 (lv_at hl 0 rfl) ?_
        refine lv_if_ge (tgt := 48) hx hb dX1_read_39 (by decide) (fun _ => ?_) (fun q => absurd (nI_pos' (by omega)) q)
        refine lv_aload_n hx hb dX1_read_48 rfl (lv_at hl 1 rfl) ?_
        refine va_get (D := (dC, dI)) (ci := 1) (v := .ref (ad 2)) (C := RX1) (T := TX1) (N := 10) hx hb hts hin0 hown hK hP 0 rfl rfl 3 (by decide) (hts (.fieldLink RX1 13 "DottedSiblingsModel" "values" "[I") (by decide +kernel)) (fun _ h9 => h9) rfl dX1_read_49 ?_
        refine lv_bipush (v := nI 40) hx hb dX1_read_52 (by decide) ?_
        refine lv_iload_n hx hb dX1_read_54 rfl (lv_at hl 3 rfl) ?_
        refine zr_imul hx hb dX1_read_55 ?_
        refine lv_iload hx hb dX1_read_56 (lv_at hl 0 rfl) ?_
        refine zr_iadd hx hb dX1_read_58 ?_
        refine zr_iald (v := va ky wr) hx hb hK hP 2 0 rfl rfl (by omega) (by omega) (zf40 _ (by omega)) dX1_read_59 ?_
        refine lv_i2l hx hb dX1_read_60 rfl ?_
        exact W.lret (v := (va ky wr).toInt64) hx hb hr (fun t ht hW => ⟨_, rfl, (by first | exact (zq2_1 hdx1).symm | exact (zq2_2 hdx2).symm | exact (by unfold aRead2; rw [zq2_s hdx1 hdx2, hz]; first | done | rfl)), ht⟩) (fun q h => by cases h) dX1_read_61
    ·
      refine lv_if_ne (tgt := 19) hx hb dX1_read_12 (by decide) (fun q => absurd q (by decide)) (fun _ => ?_)
      refine lv_ldc2 (v := (-9223372036854775808)) hx hb hown (hts (.constantLong RX1 62 (-9223372036854775808)) (by decide +kernel)) dX1_read_15 ?_
      exact W.lret (v := (-9223372036854775808)) hx hb hr (fun t ht hW => ⟨_, rfl, (by first | exact (zq2_1 hdx1).symm | exact (zq2_2 hdx2).symm | exact (by unfold aRead2; rw [zq2_s hdx1 hdx2, hz]; first | done | rfl)), ht⟩) (fun q h => by cases h) dX1_read_18
  ·
    refine lv_if_eq (tgt := 15) hx hb dX1_read_5 (by decide) (fun _ => ?_) (fun q => absurd q (by decide))
    refine lv_ldc2 (v := (-9223372036854775808)) hx hb hown (hts (.constantLong RX1 62 (-9223372036854775808)) (by decide +kernel)) dX1_read_15 ?_
    exact W.lret (v := (-9223372036854775808)) hx hb hr (fun t ht hW => ⟨_, rfl, (by first | exact (zq2_1 hdx1).symm | exact (zq2_2 hdx2).symm | exact (by unfold aRead2; rw [zq2_s hdx1 hdx2, hz]; first | done | rfl)), ht⟩) (fun q h => by cases h) dX1_read_18
set_option maxHeartbeats 4000000 in
set_option maxRecDepth 100000 in
/-- siblings -/
theorem c_X1_siblings (l : Launch) (dC : Nat → ClassId) (dI : Nat → Nat → Nat) (ad : Nat → Nat) (cI cJ : ClassId) (S C : Nat) (n : Nat → Nat) (va : Nat → Nat → Int32) (mk ct ps kn cx rd : Nat → Nat → Nat) (hG : zG S C n mk ct ps kn cx) (x1 x2 : Int32) : Met l yX1_siblings wsX1_siblings ({ frames := 1, cells := 0, slots := 0, locals := 26 }) (va_Pc [.ref (ad 0), .int x1, .int x2] (mB dC dI ad cI cJ S C n va mk ct ps kn cx rd)) (vp_Si (fun r => r = aSibs S n ps kn x1 x2)) 0 0 (fun _ => False) := by
  refine Met.ofW (cc := cX1_siblings) (maxL := 3) (ret := (some .int)) (by decide) rfl ?_
  intro p e s m args below meth c s₁ B hml hv
  obtain ⟨rfl, hP, hK⟩ := hv
  have hx := B.exec
  have hb := B.bytes
  have hr := B.returns
  have hts := atoms_spec (ws := wsX1_siblings) B.pre
  have hown : s.vm.findClass RX1 = some m.cls := findClass_of_methodNamed B.named
  have hlocks := B.notSynchronized
  have hin0 : ∀ w ∈ wsX10, w ∈ wsX1_siblings := fun _ h => List.mem_cons_of_mem _ (List.mem_append_right _ h)
  have hl := lv_entry ([.ref (ad 0), .int x1, .int x2]) (n := 3) (Nat.le_of_ble_eq_true rfl)
  rw [lg_entry_eq]
  generalize (lg_sl ([.ref (ad 0), .int x1, .int x2]) ++ List.replicate (3 - (lg_sl ([.ref (ad 0), .int x1, .int x2])).length) Slot.unset).toArray = ls at hl ⊢
  have hl : lv_has ls 3 [(0, .ref (ad 0)), (1, .int x1), (2, .int x2)] := hl
  obtain ⟨⟨hS1, hS4, hC1, hC4⟩, hn, hmk, hct, hps, hkn, hcx, hcn, hkw⟩ := hG
  refine lv_aload_n hx hb dX1_siblings_0 rfl (lv_at hl 0 rfl) ?_
  refine lv_iload_n hx hb dX1_siblings_1 rfl (lv_at hl 1 rfl) ?_
  refine vp_callSi (W.runV (As := [.int x1]) (rest := []) ⟨hx, hb, hml, hown, hts⟩ (c_X1_isServer l dC dI ad cI cJ S C n va mk ct ps kn cx rd (by omega) x1) (cwV 1 hts gX1_siblings_X1_isServer rfl rfl rfl (by decide +kernel) ⟨Nat.le_of_ble_eq_true rfl, Nat.le_of_ble_eq_true rfl⟩) ⟨mB_blind, va_recv hK hP (ci := 1) (q0 := 0) rfl rfl, fun U hU hW => ⟨rfl, mB_at hP hK hU hW⟩⟩ rfl rfl hl.1 rfl (lv_room (Nat.le_of_ble_eq_true rfl)) dX1_siblings_2 ⟨Nat.le_of_ble_eq_true rfl, Nat.le_of_ble_eq_true rfl⟩) (fun r hq => ?_)
  rcases hq with ⟨rfl, sv, hsv, rfl, hdx1⟩ | ⟨rfl, hdx1⟩
  ·
    refine lv_if_eq (tgt := 36) hx hb dX1_siblings_5 (by decide) (fun q => absurd q (by decide)) (fun _ => ?_)
    refine lv_iload_n hx hb dX1_siblings_8 rfl (lv_at hl 2 rfl) ?_
    refine vp_callSi (W.runS (As := [.int x2]) (rest := []) ⟨hx, hb, hml, hown, hts⟩ (c_X1_isKey l x2) (va_cwS 1 hts gX1_siblings_X1_isKey rfl rfl rfl (by decide +kernel) ⟨Nat.le_of_ble_eq_true rfl, Nat.le_of_ble_eq_true rfl⟩) ⟨zB_blind, fun U hU hW => ⟨rfl, trivial⟩⟩ rfl rfl hl.1 rfl (lv_room (Nat.le_of_ble_eq_true rfl)) dX1_siblings_9 ⟨Nat.le_of_ble_eq_true rfl, Nat.le_of_ble_eq_true rfl⟩) (fun r hq => ?_)
    rcases hq with ⟨rfl, ky, hky, rfl, hdx2⟩ | ⟨rfl, hdx2⟩
    ·
      refine lv_if_eq (tgt := 36) hx hb dX1_siblings_12 (by decide) (fun q => absurd q (by decide)) (fun _ => ?_)
      refine lv_aload_n hx hb dX1_siblings_15 rfl (lv_at hl 0 rfl) ?_
      refine lv_aload_n hx hb dX1_siblings_16 rfl (lv_at hl 0 rfl) ?_
      refine va_get (D := (dC, dI)) (ci := 1) (v := .ref (ad 6)) (C := RX1) (T := TX1) (N := 10) hx hb hts hin0 hown hK hP 0 rfl rfl 7 (by decide) (hts (.fieldLink RX1 26 "DottedSiblingsModel" "known" "[J") (by decide +kernel)) (fun _ h9 => h9) rfl dX1_siblings_17 ?_
      refine lv_iconst (v := nI 3) hx hb dX1_siblings_20 (by decide) ?_
      refine lv_iload_n hx hb dX1_siblings_21 rfl (lv_at hl 1 rfl) ?_
      refine zr_imul hx hb dX1_siblings_22 ?_
      refine lv_iload_n hx hb dX1_siblings_23 rfl (lv_at hl 2 rfl) ?_
      refine zr_iadd hx hb dX1_siblings_24 ?_
      refine zr_lald (v := lN (kn ky sv)) hx hb hK hP 6 1 rfl rfl (by omega) (by omega) (congrArg lN (zf3 _ (by omega))) dX1_siblings_25 ?_
      refine lv_iload_n hx hb dX1_siblings_26 rfl (lv_at hl 2 rfl) ?_
      refine vp_callSl (W.runV (As := [.long (lN (kn ky sv)), .int (nI ky)]) (rest := []) ⟨hx, hb, hml, hown, hts⟩ (c_X1_newest l dC dI ad cI cJ S C n va mk ct ps kn cx rd ky (kn ky sv) (by omega) (Nat.lt_trans (z40 (hkn _ _) (hn _)) (by decide)) (hn _)) (cwV 2 hts gX1_siblings_X1_newest rfl rfl rfl (by decide +kernel) ⟨Nat.le_of_ble_eq_true rfl, Nat.le_of_ble_eq_true rfl⟩) ⟨mB_blind, va_recv hK hP (ci := 1) (q0 := 0) rfl rfl, fun U hU hW => ⟨rfl, mB_at hP hK hU hW⟩⟩ rfl rfl hl.1 rfl (lv_room (Nat.le_of_ble_eq_true rfl)) dX1_siblings_27 ⟨Nat.le_of_ble_eq_true rfl, Nat.le_of_ble_eq_true rfl⟩) (fun r hq => ?_)
      subst hq
      refine vp_callSi (W.runS (As := [.long (lN (zNew (n ky) (ps ky) (kn ky sv)))]) (rest := []) ⟨hx, hb, hml, hown, hts⟩ (c_X1_sizeOf l (zNew (n ky) (ps ky) (kn ky sv)) (Nat.lt_trans (Nat.lt_of_le_of_lt (zNew_le _ _ _) (z40 (hkn _ _) (hn _))) (by decide))) (va_cwS 1 hts gX1_siblings_X1_sizeOf rfl rfl rfl (by decide +kernel) ⟨Nat.le_of_ble_eq_true rfl, Nat.le_of_ble_eq_true rfl⟩) ⟨zB_blind, fun U hU hW => ⟨rfl, trivial⟩⟩ rfl rfl hl.1 rfl (lv_room (Nat.le_of_ble_eq_true rfl)) dX1_siblings_30 ⟨Nat.le_of_ble_eq_true rfl, Nat.le_of_ble_eq_true rfl⟩) (fun r hq => ?_)
      subst hq
      refine lv_goto (tgt := 37) hx hb dX1_siblings_33 (by decide) ?_
      exact W.iret (v := nI (zSize (zNew (n ky) (ps ky) (kn ky sv)))) hx hb hr (fun t ht hW => ⟨_, rfl, (by first | exact (zq2_1 hdx1).symm | exact (zq2_2 hdx2).symm | exact (by unfold aSibs; rw [zq2_s hdx1 hdx2]; first | done | rfl)), ht⟩) (fun q h => by cases h) dX1_siblings_37
    ·
      refine lv_if_eq (tgt := 36) hx hb dX1_siblings_12 (by decide) (fun _ => ?_) (fun q => absurd q (by decide))
      refine lv_iconst (v := (-1)) hx hb dX1_siblings_36 (by decide) ?_
      exact W.iret (v := (-1)) hx hb hr (fun t ht hW => ⟨_, rfl, (by first | exact (zq2_1 hdx1).symm | exact (zq2_2 hdx2).symm | exact (by unfold aSibs; rw [zq2_s hdx1 hdx2]; first | done | rfl)), ht⟩) (fun q h => by cases h) dX1_siblings_37
  ·
    refine lv_if_eq (tgt := 36) hx hb dX1_siblings_5 (by decide) (fun _ => ?_) (fun q => absurd q (by decide))
    refine lv_iconst (v := (-1)) hx hb dX1_siblings_36 (by decide) ?_
    exact W.iret (v := (-1)) hx hb hr (fun t ht hW => ⟨_, rfl, (by first | exact (zq2_1 hdx1).symm | exact (zq2_2 hdx2).symm | exact (by unfold aSibs; rw [zq2_s hdx1 hdx2]; first | done | rfl)), ht⟩) (fun q h => by cases h) dX1_siblings_37
set_option maxHeartbeats 4000000 in
set_option maxRecDepth 100000 in
/-- sibling -/
theorem c_X1_sibling (l : Launch) (dC : Nat → ClassId) (dI : Nat → Nat → Nat) (ad : Nat → Nat) (cI cJ : ClassId) (S C : Nat) (n : Nat → Nat) (va : Nat → Nat → Int32) (mk ct ps kn cx rd : Nat → Nat → Nat) (hG : zG S C n mk ct ps kn cx) (x1 x2 x3 x4 : Int32) : Met l yX1_sibling wsX1_sibling ({ frames := 1, cells := 0, slots := 0, locals := 27 }) (va_Pc [.ref (ad 0), .int x1, .int x2, .int x3, .int x4] (mB dC dI ad cI cJ S C n va mk ct ps kn cx rd)) (vp_Sl (fun r => r = aSib S n va mk ct ps kn x1 x2 x3 x4)) 0 0 (fun _ => False) := by
  refine Met.ofW (cc := cX1_sibling) (maxL := 6) (ret := (some .long)) (by decide) rfl ?_
  intro p e s m args below meth c s₁ B hml hv
  obtain ⟨rfl, hP, hK⟩ := hv
  have hx := B.exec
  have hb := B.bytes
  have hr := B.returns
  have hts := atoms_spec (ws := wsX1_sibling) B.pre
  have hown : s.vm.findClass RX1 = some m.cls := findClass_of_methodNamed B.named
  have hlocks := B.notSynchronized
  have hin0 : ∀ w ∈ wsX10, w ∈ wsX1_sibling := fun _ h => List.mem_cons_of_mem _ (List.mem_append_right _ h)
  have hl := lv_entry ([.ref (ad 0), .int x1, .int x2, .int x3, .int x4]) (n := 6) (Nat.le_of_ble_eq_true rfl)
  rw [lg_entry_eq]
  generalize (lg_sl ([.ref (ad 0), .int x1, .int x2, .int x3, .int x4]) ++ List.replicate (6 - (lg_sl ([.ref (ad 0), .int x1, .int x2, .int x3, .int x4])).length) Slot.unset).toArray = ls at hl ⊢
  have hl : lv_has ls 6 [(0, .ref (ad 0)), (1, .int x1), (2, .int x2), (3, .int x3), (4, .int x4)] := hl
  obtain ⟨⟨hS1, hS4, hC1, hC4⟩, hn, hmk, hct, hps, hkn, hcx, hcn, hkw⟩ := hG
  refine lv_aload_n hx hb dX1_sibling_0 rfl (lv_at hl 0 rfl) ?_
  refine lv_iload_n hx hb dX1_sibling_1 rfl (lv_at hl 1 rfl) ?_
  refine vp_callSi (W.runV (As := [.int x1]) (rest := []) ⟨hx, hb, hml, hown, hts⟩ (c_X1_isServer l dC dI ad cI cJ S C n va mk ct ps kn cx rd (by omega) x1) (cwV 1 hts gX1_sibling_X1_isServer rfl rfl rfl (by decide +kernel) ⟨Nat.le_of_ble_eq_true rfl, Nat.le_of_ble_eq_true rfl⟩) ⟨mB_blind, va_recv hK hP (ci := 1) (q0 := 0) rfl rfl, fun U hU hW => ⟨rfl, mB_at hP hK hU hW⟩⟩ rfl rfl hl.1 rfl (lv_room (Nat.le_of_ble_eq_true rfl)) dX1_sibling_2 ⟨Nat.le_of_ble_eq_true rfl, Nat.le_of_ble_eq_true rfl⟩) (fun r hq => ?_)
  rcases hq with ⟨rfl, sv, hsv, rfl, hdx1⟩ | ⟨rfl, hdx1⟩
  ·
    refine lv_if_eq (tgt := 15) hx hb dX1_sibling_5 (by decide) (fun q => absurd q (by decide)) (fun _ => ?_)
    refine lv_iload_n hx hb dX1_sibling_8 rfl (lv_at hl 2 rfl) ?_
    refine vp_callSi (W.runS (As := [.int x2]) (rest := []) ⟨hx, hb, hml, hown, hts⟩ (c_X1_isKey l x2) (va_cwS 1 hts gX1_sibling_X1_isKey rfl rfl rfl (by decide +kernel) ⟨Nat.le_of_ble_eq_true rfl, Nat.le_of_ble_eq_true rfl⟩) ⟨zB_blind, fun U hU hW => ⟨rfl, trivial⟩⟩ rfl rfl hl.1 rfl (lv_room (Nat.le_of_ble_eq_true rfl)) dX1_sibling_9 ⟨Nat.le_of_ble_eq_true rfl, Nat.le_of_ble_eq_true rfl⟩) (fun r hq => ?_)
    rcases hq with ⟨rfl, ky, hky, rfl, hdx2⟩ | ⟨rfl, hdx2⟩
    ·
      refine lv_if_ne (tgt := 19) hx hb dX1_sibling_12 (by decide) (fun _ => ?_) (fun q => absurd q (by decide))
      refine lv_aload_n hx hb dX1_sibling_19 rfl (lv_at hl 0 rfl) ?_
      refine lv_aload_n hx hb dX1_sibling_20 rfl (lv_at hl 0 rfl) ?_
      refine lv_aload_n hx hb dX1_sibling_21 rfl (lv_at hl 0 rfl) ?_
      refine va_get (D := (dC, dI)) (ci := 1) (v := .ref (ad 6)) (C := RX1) (T := TX1) (N := 10) hx hb hts hin0 hown hK hP 0 rfl rfl 7 (by decide) (hts (.fieldLink RX1 26 "DottedSiblingsModel" "known" "[J") (by decide +kernel)) (fun _ h9 => h9) rfl dX1_sibling_22 ?_
      refine lv_iconst (v := nI 3) hx hb dX1_sibling_25 (by decide) ?_
      refine lv_iload_n hx hb dX1_sibling_26 rfl (lv_at hl 1 rfl) ?_
      refine zr_imul hx hb dX1_sibling_27 ?_
      refine lv_iload_n hx hb dX1_sibling_28 rfl (lv_at hl 2 rfl) ?_
      refine zr_iadd hx hb dX1_sibling_29 ?_
      refine zr_lald (v := lN (kn ky sv)) hx hb hK hP 6 1 rfl rfl (by omega) (by omega) (congrArg lN (zf3 _ (by omega))) dX1_sibling_30 ?_
      refine lv_iload_n hx hb dX1_sibling_31 rfl (lv_at hl 2 rfl) ?_
      refine vp_callSl (W.runV (As := [.long (lN (kn ky sv)), .int (nI ky)]) (rest := [.ref (ad 0)]) ⟨hx, hb, hml, hown, hts⟩ (c_X1_newest l dC dI ad cI cJ S C n va mk ct ps kn cx rd ky (kn ky sv) (by omega) (Nat.lt_trans (z40 (hkn _ _) (hn _)) (by decide)) (hn _)) (cwV 2 hts gX1_sibling_X1_newest rfl rfl rfl (by decide +kernel) ⟨Nat.le_of_ble_eq_true rfl, Nat.le_of_ble_eq_true rfl⟩) ⟨mB_blind, va_recv hK hP (ci := 1) (q0 := 0) rfl rfl, fun U hU hW => ⟨rfl, mB_at hP hK hU hW⟩⟩ rfl rfl hl.1 rfl (lv_room (Nat.le_of_ble_eq_true rfl)) dX1_sibling_32 ⟨Nat.le_of_ble_eq_true rfl, Nat.le_of_ble_eq_true rfl⟩) (fun r hq => ?_)
      subst hq
      refine lv_iload_n hx hb dX1_sibling_35 rfl (lv_at hl 2 rfl) ?_
      refine lv_iload_n hx hb dX1_sibling_36 rfl (lv_at hl 3 rfl) ?_
      refine vp_callSi (W.runV (As := [.long (lN (zNew (n ky) (ps ky) (kn ky sv))), .int (nI ky), .int x3]) (rest := []) ⟨hx, hb, hml, hown, hts⟩ (c_X1_at l dC dI ad cI cJ S C n va mk ct ps kn cx rd ky (zNew (n ky) (ps ky) (kn ky sv)) x3 (by omega) (Nat.lt_trans (Nat.lt_of_le_of_lt (zNew_le _ _ _) (z40 (hkn _ _) (hn _))) (by decide)) (hn _) (by omega) (hmk _)) (cwV 3 hts gX1_sibling_X1_at rfl rfl rfl (by decide +kernel) ⟨Nat.le_of_ble_eq_true rfl, Nat.le_of_ble_eq_true rfl⟩) ⟨mB_blind, va_recv hK hP (ci := 1) (q0 := 0) rfl rfl, fun U hU hW => ⟨rfl, mB_at hP hK hU hW⟩⟩ rfl rfl hl.1 rfl (lv_room (Nat.le_of_ble_eq_true rfl)) dX1_sibling_37 ⟨Nat.le_of_ble_eq_true rfl, Nat.le_of_ble_eq_true rfl⟩) (fun r hq => ?_)
      rcases hz : zAt S (n ky) (mk ky) (zNew (n ky) (ps ky) (kn ky sv)) x3 with _ | wr
      ·
        have hq : r = -1 := by rw [hq, hz]; rfl
        subst hq
        refine lv_istore (lv' := [(5, .int (-1)), (0, .ref (ad 0)), (1, .int (nI sv)), (2, .int (nI ky)), (3, .int x3), (4, .int x4)]) hx hb dX1_sibling_40 hl (by decide) rfl (fun ls hl => ?_)
        refine lv_iload hx hb dX1_sibling_42 (lv_at hl 0 rfl) ?_
        refine lv_if_ge (tgt := 51) hx hb dX1_sibling_44 (by decide) (fun q => absurd q (by decide)) (fun _ => ?_)
        refine lv_ldc2 (v := (-9223372036854775808)) hx hb hown (hts (.constantLong RX1 62 (-9223372036854775808)) (by decide +kernel)) dX1_sibling_47 ?_
        exact W.lret (v := (-9223372036854775808)) hx hb hr (fun t ht hW => ⟨_, rfl, (by first | exact (zq2_1 hdx1).symm | exact (zq2_2 hdx2).symm | exact (by unfold aSib; rw [zq2_s hdx1 hdx2, hz]; first | done | rfl) | exact (by unfold aSib; rw [zq2_s hdx1 hdx2, hz]; show _ = zDet _ _ _ _ _; unfold zDet; rw [if_neg q0, if_neg q1, if_neg q2, if_neg q3])), ht⟩) (fun q h => by cases h) dX1_sibling_50
      ·
        have hq : r = nI wr := by rw [hq, hz]; rfl
        have hwr : wr < _ := zOut_lt _ _ _ hz
        have hn9 := hn ky
        subst hq
        refine lv_istore (lv' := [(5, .int (nI wr)), (0, .ref (ad 0)), (1, .int (nI sv)), (2, .int (nI ky)), (3, .int x3), (4, .int x4)]) hx hb dX1_sibling_40 hl (by decide) rfl (fun ls hl => ?_)
        refine lv_iload hx hb dX1_sibling_42 (lv_at hl 0 rfl) ?_
        refine lv_if_ge (tgt := 51) hx hb dX1_sibling_44 (by decide) (fun _ => ?_) (fun q => absurd (nI_pos' (by omega)) q)
        refine lv_iload hx hb dX1_sibling_51 (lv_at hl 5 rfl) ?_
        by_cases q0 : x4 = 0
        ·
          subst q0
          refine lv_tableIn (tgt := 84) hx hb dX1_sibling_53 (by decide) (by decide) rfl (by decide) ?_
          refine lv_aload_n hx hb dX1_sibling_84 rfl (lv_at hl 1 rfl) ?_
          refine va_get (D := (dC, dI)) (ci := 1) (v := .ref (ad 2)) (C := RX1) (T := TX1) (N := 10) hx hb hts hin0 hown hK hP 0 rfl rfl 3 (by decide) (hts (.fieldLink RX1 13 "DottedSiblingsModel" "values" "[I") (by decide +kernel)) (fun _ h9 => h9) rfl dX1_sibling_85 ?_
          refine lv_bipush (v := nI 40) hx hb dX1_sibling_88 (by decide) ?_
          refine lv_iload_n hx hb dX1_sibling_90 rfl (lv_at hl 3 rfl) ?_
          refine zr_imul hx hb dX1_sibling_91 ?_
          refine lv_iload hx hb dX1_sibling_92 (lv_at hl 0 rfl) ?_
          refine zr_iadd hx hb dX1_sibling_94 ?_
          refine zr_iald (v := va ky wr) hx hb hK hP 2 0 rfl rfl (by omega) (by omega) (zf40 _ (by omega)) dX1_sibling_95 ?_
          refine lv_i2l hx hb dX1_sibling_96 rfl ?_
          exact W.lret (v := (va ky wr).toInt64) hx hb hr (fun t ht hW => ⟨_, rfl, (by first | exact (zq2_1 hdx1).symm | exact (zq2_2 hdx2).symm | exact (by unfold aSib; rw [zq2_s hdx1 hdx2, hz]; first | done | rfl) | exact (by unfold aSib; rw [zq2_s hdx1 hdx2, hz]; show _ = zDet _ _ _ _ _; unfold zDet; rw [if_neg q0, if_neg q1, if_neg q2, if_neg q3])), ht⟩) (fun q h => by cases h) dX1_sibling_97
        ·
          by_cases q1 : x4 = 1
          ·
            subst q1
            refine lv_tableIn (tgt := 98) hx hb dX1_sibling_53 (by decide) (by decide) rfl (by decide) ?_
            refine lv_aload_n hx hb dX1_sibling_98 rfl (lv_at hl 1 rfl) ?_
            refine va_get (D := (dC, dI)) (ci := 1) (v := .ref (ad 3)) (C := RX1) (T := TX1) (N := 10) hx hb hts hin0 hown hK hP 0 rfl rfl 4 (by decide) (hts (.fieldLink RX1 16 "DottedSiblingsModel" "made" "[I") (by decide +kernel)) (fun _ h9 => h9) rfl dX1_sibling_99 ?_
            refine lv_bipush (v := nI 40) hx hb dX1_sibling_102 (by decide) ?_
            refine lv_iload_n hx hb dX1_sibling_104 rfl (lv_at hl 3 rfl) ?_
            refine zr_imul hx hb dX1_sibling_105 ?_
            refine lv_iload hx hb dX1_sibling_106 (lv_at hl 0 rfl) ?_
            refine zr_iadd hx hb dX1_sibling_108 ?_
            refine zr_iald (v := nI (mk ky wr)) hx hb hK hP 3 0 rfl rfl (by omega) (by omega) (congrArg nI (zf40 _ (by omega))) dX1_sibling_109 ?_
            refine lv_i2l hx hb dX1_sibling_110 rfl ?_
            exact W.lret (v := (nI (mk ky wr)).toInt64) hx hb hr (fun t ht hW => ⟨_, rfl, (by first | exact (zq2_1 hdx1).symm | exact (zq2_2 hdx2).symm | exact (by unfold aSib; rw [zq2_s hdx1 hdx2, hz]; first | done | rfl) | exact (by unfold aSib; rw [zq2_s hdx1 hdx2, hz]; show _ = zDet _ _ _ _ _; unfold zDet; rw [if_neg q0, if_neg q1, if_neg q2, if_neg q3])), ht⟩) (fun q h => by cases h) dX1_sibling_111
          ·
            by_cases q2 : x4 = 2
            ·
              subst q2
              refine lv_tableIn (tgt := 112) hx hb dX1_sibling_53 (by decide) (by decide) rfl (by decide) ?_
              refine lv_aload_n hx hb dX1_sibling_112 rfl (lv_at hl 1 rfl) ?_
              refine va_get (D := (dC, dI)) (ci := 1) (v := .ref (ad 4)) (C := RX1) (T := TX1) (N := 10) hx hb hts hin0 hown hK hP 0 rfl rfl 5 (by decide) (hts (.fieldLink RX1 19 "DottedSiblingsModel" "counters" "[I") (by decide +kernel)) (fun _ h9 => h9) rfl dX1_sibling_113 ?_
              refine lv_bipush (v := nI 40) hx hb dX1_sibling_116 (by decide) ?_
              refine lv_iload_n hx hb dX1_sibling_118 rfl (lv_at hl 3 rfl) ?_
              refine zr_imul hx hb dX1_sibling_119 ?_
              refine lv_iload hx hb dX1_sibling_120 (lv_at hl 0 rfl) ?_
              refine zr_iadd hx hb dX1_sibling_122 ?_
              refine zr_iald (v := nI (ct ky wr)) hx hb hK hP 4 0 rfl rfl (by omega) (by omega) (congrArg nI (zf40 _ (by omega))) dX1_sibling_123 ?_
              refine lv_i2l hx hb dX1_sibling_124 rfl ?_
              exact W.lret (v := (nI (ct ky wr)).toInt64) hx hb hr (fun t ht hW => ⟨_, rfl, (by first | exact (zq2_1 hdx1).symm | exact (zq2_2 hdx2).symm | exact (by unfold aSib; rw [zq2_s hdx1 hdx2, hz]; first | done | rfl) | exact (by unfold aSib; rw [zq2_s hdx1 hdx2, hz]; show _ = zDet _ _ _ _ _; unfold zDet; rw [if_neg q0, if_neg q1, if_neg q2, if_neg q3])), ht⟩) (fun q h => by cases h) dX1_sibling_125
            ·
              by_cases q3 : x4 = 3
              ·
                subst q3
                refine lv_tableIn (tgt := 126) hx hb dX1_sibling_53 (by decide) (by decide) rfl (by decide) ?_
                refine lv_iload hx hb dX1_sibling_126 (lv_at hl 0 rfl) ?_
                refine lv_i2l hx hb dX1_sibling_128 rfl ?_
                exact W.lret (v := (nI wr).toInt64) hx hb hr (fun t ht hW => ⟨_, rfl, (by first | exact (zq2_1 hdx1).symm | exact (zq2_2 hdx2).symm | exact (by unfold aSib; rw [zq2_s hdx1 hdx2, hz]; first | done | rfl) | exact (by unfold aSib; rw [zq2_s hdx1 hdx2, hz]; show _ = zDet _ _ _ _ _; unfold zDet; rw [if_neg q0, if_neg q1, if_neg q2, if_neg q3])), ht⟩) (fun q h => by cases h) dX1_sibling_129
              ·
                refine lv_tableOut (tgt := 130) hx hb dX1_sibling_53 (zsw q0 q1 q2 q3) (by decide) ?_
                refine lv_ldc2 (v := (-9223372036854775808)) hx hb hown (hts (.constantLong RX1 62 (-9223372036854775808)) (by decide +kernel)) dX1_sibling_130 ?_
                exact W.lret (v := (-9223372036854775808)) hx hb hr (fun t ht hW => ⟨_, rfl, (by first | exact (zq2_1 hdx1).symm | exact (zq2_2 hdx2).symm | exact (by unfold aSib; rw [zq2_s hdx1 hdx2, hz]; first | done | rfl) | exact (by unfold aSib; rw [zq2_s hdx1 hdx2, hz]; show _ = zDet _ _ _ _ _; unfold zDet; rw [if_neg q0, if_neg q1, if_neg q2, if_neg q3])), ht⟩) (fun q h => by cases h) dX1_sibling_133
    ·
      refine lv_if_ne (tgt := 19) hx hb dX1_sibling_12 (by decide) (fun q => absurd q (by decide)) (fun _ => ?_)
      refine lv_ldc2 (v := (-9223372036854775808)) hx hb hown (hts (.constantLong RX1 62 (-9223372036854775808)) (by decide +kernel)) dX1_sibling_15 ?_
      exact W.lret (v := (-9223372036854775808)) hx hb hr (fun t ht hW => ⟨_, rfl, (by first | exact (zq2_1 hdx1).symm | exact (zq2_2 hdx2).symm | exact (by unfold aSib; rw [zq2_s hdx1 hdx2, hz]; first | done | rfl) | exact (by unfold aSib; rw [zq2_s hdx1 hdx2, hz]; show _ = zDet _ _ _ _ _; unfold zDet; rw [if_neg q0, if_neg q1, if_neg q2, if_neg q3])), ht⟩) (fun q h => by cases h) dX1_sibling_18
  ·
    refine lv_if_eq (tgt := 15) hx hb dX1_sibling_5 (by decide) (fun _ => ?_) (fun q => absurd q (by decide))
    refine lv_ldc2 (v := (-9223372036854775808)) hx hb hown (hts (.constantLong RX1 62 (-9223372036854775808)) (by decide +kernel)) dX1_sibling_15 ?_
    exact W.lret (v := (-9223372036854775808)) hx hb hr (fun t ht hW => ⟨_, rfl, (by first | exact (zq2_1 hdx1).symm | exact (zq2_2 hdx2).symm | exact (by unfold aSib; rw [zq2_s hdx1 hdx2, hz]; first | done | rfl) | exact (by unfold aSib; rw [zq2_s hdx1 hdx2, hz]; show _ = zDet _ _ _ _ _; unfold zDet; rw [if_neg q0, if_neg q1, if_neg q2, if_neg q3])), ht⟩) (fun q h => by cases h) dX1_sibling_18
set_option maxHeartbeats 4000000 in
set_option maxRecDepth 100000 in
/-- known -/
theorem c_X1_known (l : Launch) (dC : Nat → ClassId) (dI : Nat → Nat → Nat) (ad : Nat → Nat) (cI cJ : ClassId) (S C : Nat) (n : Nat → Nat) (va : Nat → Nat → Int32) (mk ct ps kn cx rd : Nat → Nat → Nat) (hG : zG S C n mk ct ps kn cx) (x1 x2 x3 : Int32) : Met l yX1_known wsX1_known ({ frames := 1, cells := 0, slots := 0, locals := 27 }) (va_Pc [.ref (ad 0), .int x1, .int x2, .int x3] (mB dC dI ad cI cJ S C n va mk ct ps kn cx rd)) (vp_Si (fun r => r = aKnown S n mk ct kn x1 x2 x3)) 0 0 (fun _ => False) := by
  refine Met.ofW (cc := cX1_known) (maxL := 4) (ret := (some .int)) (by decide) rfl ?_
  intro p e s m args below meth c s₁ B hml hv
  obtain ⟨rfl, hP, hK⟩ := hv
  have hx := B.exec
  have hb := B.bytes
  have hr := B.returns
  have hts := atoms_spec (ws := wsX1_known) B.pre
  have hown : s.vm.findClass RX1 = some m.cls := findClass_of_methodNamed B.named
  have hlocks := B.notSynchronized
  have hin0 : ∀ w ∈ wsX10, w ∈ wsX1_known := fun _ h => List.mem_cons_of_mem _ (List.mem_append_right _ h)
  have hl := lv_entry ([.ref (ad 0), .int x1, .int x2, .int x3]) (n := 4) (Nat.le_of_ble_eq_true rfl)
  rw [lg_entry_eq]
  generalize (lg_sl ([.ref (ad 0), .int x1, .int x2, .int x3]) ++ List.replicate (4 - (lg_sl ([.ref (ad 0), .int x1, .int x2, .int x3])).length) Slot.unset).toArray = ls at hl ⊢
  have hl : lv_has ls 4 [(0, .ref (ad 0)), (1, .int x1), (2, .int x2), (3, .int x3)] := hl
  obtain ⟨⟨hS1, hS4, hC1, hC4⟩, hn, hmk, hct, hps, hkn, hcx, hcn, hkw⟩ := hG
  refine lv_aload_n hx hb dX1_known_0 rfl (lv_at hl 0 rfl) ?_
  refine lv_iload_n hx hb dX1_known_1 rfl (lv_at hl 1 rfl) ?_
  refine vp_callSi (W.runV (As := [.int x1]) (rest := []) ⟨hx, hb, hml, hown, hts⟩ (c_X1_isServer l dC dI ad cI cJ S C n va mk ct ps kn cx rd (by omega) x1) (cwV 1 hts gX1_known_X1_isServer rfl rfl rfl (by decide +kernel) ⟨Nat.le_of_ble_eq_true rfl, Nat.le_of_ble_eq_true rfl⟩) ⟨mB_blind, va_recv hK hP (ci := 1) (q0 := 0) rfl rfl, fun U hU hW => ⟨rfl, mB_at hP hK hU hW⟩⟩ rfl rfl hl.1 rfl (lv_room (Nat.le_of_ble_eq_true rfl)) dX1_known_2 ⟨Nat.le_of_ble_eq_true rfl, Nat.le_of_ble_eq_true rfl⟩) (fun r hq => ?_)
  rcases hq with ⟨rfl, sv, hsv, rfl, hdx1⟩ | ⟨rfl, hdx1⟩
  ·
    refine lv_if_eq (tgt := 42) hx hb dX1_known_5 (by decide) (fun q => absurd q (by decide)) (fun _ => ?_)
    refine lv_iload_n hx hb dX1_known_8 rfl (lv_at hl 2 rfl) ?_
    refine vp_callSi (W.runS (As := [.int x2]) (rest := []) ⟨hx, hb, hml, hown, hts⟩ (c_X1_isKey l x2) (va_cwS 1 hts gX1_known_X1_isKey rfl rfl rfl (by decide +kernel) ⟨Nat.le_of_ble_eq_true rfl, Nat.le_of_ble_eq_true rfl⟩) ⟨zB_blind, fun U hU hW => ⟨rfl, trivial⟩⟩ rfl rfl hl.1 rfl (lv_room (Nat.le_of_ble_eq_true rfl)) dX1_known_9 ⟨Nat.le_of_ble_eq_true rfl, Nat.le_of_ble_eq_true rfl⟩) (fun r hq => ?_)
    rcases hq with ⟨rfl, ky, hky, rfl, hdx2⟩ | ⟨rfl, hdx2⟩
    ·
      refine lv_if_eq (tgt := 42) hx hb dX1_known_12 (by decide) (fun q => absurd q (by decide)) (fun _ => ?_)
      refine lv_aload_n hx hb dX1_known_15 rfl (lv_at hl 0 rfl) ?_
      refine lv_iload_n hx hb dX1_known_16 rfl (lv_at hl 3 rfl) ?_
      refine vp_callSi (W.runV (As := [.int x3]) (rest := []) ⟨hx, hb, hml, hown, hts⟩ (c_X1_isServer l dC dI ad cI cJ S C n va mk ct ps kn cx rd (by omega) x3) (cwV 1 hts gX1_known_X1_isServer rfl rfl rfl (by decide +kernel) ⟨Nat.le_of_ble_eq_true rfl, Nat.le_of_ble_eq_true rfl⟩) ⟨mB_blind, va_recv hK hP (ci := 1) (q0 := 0) rfl rfl, fun U hU hW => ⟨rfl, mB_at hP hK hU hW⟩⟩ rfl rfl hl.1 rfl (lv_room (Nat.le_of_ble_eq_true rfl)) dX1_known_17 ⟨Nat.le_of_ble_eq_true rfl, Nat.le_of_ble_eq_true rfl⟩) (fun r hq => ?_)
      rcases hq with ⟨rfl, ov, hov, rfl, hdx3⟩ | ⟨rfl, hdx3⟩
      ·
        refine lv_if_eq (tgt := 42) hx hb dX1_known_20 (by decide) (fun q => absurd q (by decide)) (fun _ => ?_)
        refine lv_aload_n hx hb dX1_known_23 rfl (lv_at hl 0 rfl) ?_
        refine lv_aload_n hx hb dX1_known_24 rfl (lv_at hl 0 rfl) ?_
        refine va_get (D := (dC, dI)) (ci := 1) (v := .ref (ad 6)) (C := RX1) (T := TX1) (N := 10) hx hb hts hin0 hown hK hP 0 rfl rfl 7 (by decide) (hts (.fieldLink RX1 26 "DottedSiblingsModel" "known" "[J") (by decide +kernel)) (fun _ h9 => h9) rfl dX1_known_25 ?_
        refine lv_iconst (v := nI 3) hx hb dX1_known_28 (by decide) ?_
        refine lv_iload_n hx hb dX1_known_29 rfl (lv_at hl 1 rfl) ?_
        refine zr_imul hx hb dX1_known_30 ?_
        refine lv_iload_n hx hb dX1_known_31 rfl (lv_at hl 2 rfl) ?_
        refine zr_iadd hx hb dX1_known_32 ?_
        refine zr_lald (v := lN (kn ky sv)) hx hb hK hP 6 1 rfl rfl (by omega) (by omega) (congrArg lN (zf3 _ (by omega))) dX1_known_33 ?_
        refine lv_iload_n hx hb dX1_known_34 rfl (lv_at hl 2 rfl) ?_
        refine lv_iload_n hx hb dX1_known_35 rfl (lv_at hl 3 rfl) ?_
        refine vp_callSi (W.runV (As := [.long (lN (kn ky sv)), .int (nI ky), .int (nI ov)]) (rest := []) ⟨hx, hb, hml, hown, hts⟩ (c_X1_vector l dC dI ad cI cJ S C n va mk ct ps kn cx rd ky (kn ky sv) ov (by omega) (Nat.lt_trans (z40 (hkn _ _) (hn _)) (by decide)) (by omega) (hn _) (fun w h => Nat.lt_of_lt_of_le (hmk _ w h) hS4) (hct _)) (cwV 3 hts gX1_known_X1_vector rfl rfl rfl (by decide +kernel) ⟨Nat.le_of_ble_eq_true rfl, Nat.le_of_ble_eq_true rfl⟩) ⟨mB_blind, va_recv hK hP (ci := 1) (q0 := 0) rfl rfl, fun U hU hW => ⟨rfl, mB_at hP hK hU hW⟩⟩ rfl rfl hl.1 rfl (lv_room (Nat.le_of_ble_eq_true rfl)) dX1_known_36 ⟨Nat.le_of_ble_eq_true rfl, Nat.le_of_ble_eq_true rfl⟩) (fun r hq => ?_)
        subst hq
        refine lv_goto (tgt := 43) hx hb dX1_known_39 (by decide) ?_
        exact W.iret (v := nI (zVec (ct ky) (zHit (mk ky) (kn ky sv) ov) (n ky))) hx hb hr (fun t ht hW => ⟨_, rfl, (by first | exact (zq3_1 hdx1).symm | exact (zq3_2 hdx2).symm | exact (zq3_3 hdx3).symm | exact (by unfold aKnown; rw [zq3_s hdx1 hdx2 hdx3]; first | done | rfl)), ht⟩) (fun q h => by cases h) dX1_known_43
      ·
        refine lv_if_eq (tgt := 42) hx hb dX1_known_20 (by decide) (fun _ => ?_) (fun q => absurd q (by decide))
        refine lv_iconst (v := (-1)) hx hb dX1_known_42 (by decide) ?_
        exact W.iret (v := (-1)) hx hb hr (fun t ht hW => ⟨_, rfl, (by first | exact (zq3_1 hdx1).symm | exact (zq3_2 hdx2).symm | exact (zq3_3 hdx3).symm | exact (by unfold aKnown; rw [zq3_s hdx1 hdx2 hdx3]; first | done | rfl)), ht⟩) (fun q h => by cases h) dX1_known_43
    ·
      refine lv_if_eq (tgt := 42) hx hb dX1_known_12 (by decide) (fun _ => ?_) (fun q => absurd q (by decide))
      refine lv_iconst (v := (-1)) hx hb dX1_known_42 (by decide) ?_
      exact W.iret (v := (-1)) hx hb hr (fun t ht hW => ⟨_, rfl, (by first | exact (zq3_1 hdx1).symm | exact (zq3_2 hdx2).symm | exact (zq3_3 hdx3).symm | exact (by unfold aKnown; rw [zq3_s hdx1 hdx2 hdx3]; first | done | rfl)), ht⟩) (fun q h => by cases h) dX1_known_43
  ·
    refine lv_if_eq (tgt := 42) hx hb dX1_known_5 (by decide) (fun _ => ?_) (fun q => absurd q (by decide))
    refine lv_iconst (v := (-1)) hx hb dX1_known_42 (by decide) ?_
    exact W.iret (v := (-1)) hx hb hr (fun t ht hW => ⟨_, rfl, (by first | exact (zq3_1 hdx1).symm | exact (zq3_2 hdx2).symm | exact (zq3_3 hdx3).symm | exact (by unfold aKnown; rw [zq3_s hdx1 hdx2 hdx3]; first | done | rfl)), ht⟩) (fun q h => by cases h) dX1_known_43
set_option maxHeartbeats 4000000 in
set_option maxRecDepth 100000 in
/-- context -/
theorem c_X1_context (l : Launch) (dC : Nat → ClassId) (dI : Nat → Nat → Nat) (ad : Nat → Nat) (cI cJ : ClassId) (S C : Nat) (n : Nat → Nat) (va : Nat → Nat → Int32) (mk ct ps kn cx rd : Nat → Nat → Nat) (hG : zG S C n mk ct ps kn cx) (x1 x2 x3 : Int32) : Met l yX1_context wsX1_context ({ frames := 1, cells := 0, slots := 0, locals := 27 }) (va_Pc [.ref (ad 0), .int x1, .int x2, .int x3] (mB dC dI ad cI cJ S C n va mk ct ps kn cx rd)) (vp_Si (fun r => r = aCtx S C n mk ct cx x1 x2 x3)) 0 0 (fun _ => False) := by
  refine Met.ofW (cc := cX1_context) (maxL := 4) (ret := (some .int)) (by decide) rfl ?_
  intro p e s m args below meth c s₁ B hml hv
  obtain ⟨rfl, hP, hK⟩ := hv
  have hx := B.exec
  have hb := B.bytes
  have hr := B.returns
  have hts := atoms_spec (ws := wsX1_context) B.pre
  have hown : s.vm.findClass RX1 = some m.cls := findClass_of_methodNamed B.named
  have hlocks := B.notSynchronized
  have hin0 : ∀ w ∈ wsX10, w ∈ wsX1_context := fun _ h => List.mem_cons_of_mem _ (List.mem_append_right _ h)
  have hl := lv_entry ([.ref (ad 0), .int x1, .int x2, .int x3]) (n := 4) (Nat.le_of_ble_eq_true rfl)
  rw [lg_entry_eq]
  generalize (lg_sl ([.ref (ad 0), .int x1, .int x2, .int x3]) ++ List.replicate (4 - (lg_sl ([.ref (ad 0), .int x1, .int x2, .int x3])).length) Slot.unset).toArray = ls at hl ⊢
  have hl : lv_has ls 4 [(0, .ref (ad 0)), (1, .int x1), (2, .int x2), (3, .int x3)] := hl
  obtain ⟨⟨hS1, hS4, hC1, hC4⟩, hn, hmk, hct, hps, hkn, hcx, hcn, hkw⟩ := hG
  refine lv_aload_n hx hb dX1_context_0 rfl (lv_at hl 0 rfl) ?_
  refine lv_iload_n hx hb dX1_context_1 rfl (lv_at hl 1 rfl) ?_
  refine vp_callSi (W.runV (As := [.int x1]) (rest := []) ⟨hx, hb, hml, hown, hts⟩ (c_X1_isClient l dC dI ad cI cJ S C n va mk ct ps kn cx rd (by omega) x1) (cwV 1 hts gX1_context_X1_isClient rfl rfl rfl (by decide +kernel) ⟨Nat.le_of_ble_eq_true rfl, Nat.le_of_ble_eq_true rfl⟩) ⟨mB_blind, va_recv hK hP (ci := 1) (q0 := 0) rfl rfl, fun U hU hW => ⟨rfl, mB_at hP hK hU hW⟩⟩ rfl rfl hl.1 rfl (lv_room (Nat.le_of_ble_eq_true rfl)) dX1_context_2 ⟨Nat.le_of_ble_eq_true rfl, Nat.le_of_ble_eq_true rfl⟩) (fun r hq => ?_)
  rcases hq with ⟨rfl, cl, hcl, rfl, hdx1⟩ | ⟨rfl, hdx1⟩
  ·
    refine lv_if_eq (tgt := 42) hx hb dX1_context_5 (by decide) (fun q => absurd q (by decide)) (fun _ => ?_)
    refine lv_iload_n hx hb dX1_context_8 rfl (lv_at hl 2 rfl) ?_
    refine vp_callSi (W.runS (As := [.int x2]) (rest := []) ⟨hx, hb, hml, hown, hts⟩ (c_X1_isKey l x2) (va_cwS 1 hts gX1_context_X1_isKey rfl rfl rfl (by decide +kernel) ⟨Nat.le_of_ble_eq_true rfl, Nat.le_of_ble_eq_true rfl⟩) ⟨zB_blind, fun U hU hW => ⟨rfl, trivial⟩⟩ rfl rfl hl.1 rfl (lv_room (Nat.le_of_ble_eq_true rfl)) dX1_context_9 ⟨Nat.le_of_ble_eq_true rfl, Nat.le_of_ble_eq_true rfl⟩) (fun r hq => ?_)
    rcases hq with ⟨rfl, ky, hky, rfl, hdx2⟩ | ⟨rfl, hdx2⟩
    ·
      refine lv_if_eq (tgt := 42) hx hb dX1_context_12 (by decide) (fun q => absurd q (by decide)) (fun _ => ?_)
      refine lv_aload_n hx hb dX1_context_15 rfl (lv_at hl 0 rfl) ?_
      refine lv_iload_n hx hb dX1_context_16 rfl (lv_at hl 3 rfl) ?_
      refine vp_callSi (W.runV (As := [.int x3]) (rest := []) ⟨hx, hb, hml, hown, hts⟩ (c_X1_isServer l dC dI ad cI cJ S C n va mk ct ps kn cx rd (by omega) x3) (cwV 1 hts gX1_context_X1_isServer rfl rfl rfl (by decide +kernel) ⟨Nat.le_of_ble_eq_true rfl, Nat.le_of_ble_eq_true rfl⟩) ⟨mB_blind, va_recv hK hP (ci := 1) (q0 := 0) rfl rfl, fun U hU hW => ⟨rfl, mB_at hP hK hU hW⟩⟩ rfl rfl hl.1 rfl (lv_room (Nat.le_of_ble_eq_true rfl)) dX1_context_17 ⟨Nat.le_of_ble_eq_true rfl, Nat.le_of_ble_eq_true rfl⟩) (fun r hq => ?_)
      rcases hq with ⟨rfl, ov, hov, rfl, hdx3⟩ | ⟨rfl, hdx3⟩
      ·
        refine lv_if_eq (tgt := 42) hx hb dX1_context_20 (by decide) (fun q => absurd q (by decide)) (fun _ => ?_)
        refine lv_aload_n hx hb dX1_context_23 rfl (lv_at hl 0 rfl) ?_
        refine lv_aload_n hx hb dX1_context_24 rfl (lv_at hl 0 rfl) ?_
        refine va_get (D := (dC, dI)) (ci := 1) (v := .ref (ad 7)) (C := RX1) (T := TX1) (N := 10) hx hb hts hin0 hown hK hP 0 rfl rfl 8 (by decide) (hts (.fieldLink RX1 29 "DottedSiblingsModel" "contexts" "[J") (by decide +kernel)) (fun _ h9 => h9) rfl dX1_context_25 ?_
        refine lv_iconst (v := nI 3) hx hb dX1_context_28 (by decide) ?_
        refine lv_iload_n hx hb dX1_context_29 rfl (lv_at hl 1 rfl) ?_
        refine zr_imul hx hb dX1_context_30 ?_
        refine lv_iload_n hx hb dX1_context_31 rfl (lv_at hl 2 rfl) ?_
        refine zr_iadd hx hb dX1_context_32 ?_
        refine zr_lald (v := lN (cx ky cl)) hx hb hK hP 7 1 rfl rfl (by omega) (by omega) (congrArg lN (zf3 _ (by omega))) dX1_context_33 ?_
        refine lv_iload_n hx hb dX1_context_34 rfl (lv_at hl 2 rfl) ?_
        refine lv_iload_n hx hb dX1_context_35 rfl (lv_at hl 3 rfl) ?_
        refine vp_callSi (W.runV (As := [.long (lN (cx ky cl)), .int (nI ky), .int (nI ov)]) (rest := []) ⟨hx, hb, hml, hown, hts⟩ (c_X1_vector l dC dI ad cI cJ S C n va mk ct ps kn cx rd ky (cx ky cl) ov (by omega) (Nat.lt_trans (z40 (hcx _ _) (hn _)) (by decide)) (by omega) (hn _) (fun w h => Nat.lt_of_lt_of_le (hmk _ w h) hS4) (hct _)) (cwV 3 hts gX1_context_X1_vector rfl rfl rfl (by decide +kernel) ⟨Nat.le_of_ble_eq_true rfl, Nat.le_of_ble_eq_true rfl⟩) ⟨mB_blind, va_recv hK hP (ci := 1) (q0 := 0) rfl rfl, fun U hU hW => ⟨rfl, mB_at hP hK hU hW⟩⟩ rfl rfl hl.1 rfl (lv_room (Nat.le_of_ble_eq_true rfl)) dX1_context_36 ⟨Nat.le_of_ble_eq_true rfl, Nat.le_of_ble_eq_true rfl⟩) (fun r hq => ?_)
        subst hq
        refine lv_goto (tgt := 43) hx hb dX1_context_39 (by decide) ?_
        exact W.iret (v := nI (zVec (ct ky) (zHit (mk ky) (cx ky cl) ov) (n ky))) hx hb hr (fun t ht hW => ⟨_, rfl, (by first | exact (zq3_1 hdx1).symm | exact (zq3_2 hdx2).symm | exact (zq3_3 hdx3).symm | exact (by unfold aCtx; rw [zq3_s hdx1 hdx2 hdx3]; first | done | rfl)), ht⟩) (fun q h => by cases h) dX1_context_43
      ·
        refine lv_if_eq (tgt := 42) hx hb dX1_context_20 (by decide) (fun _ => ?_) (fun q => absurd q (by decide))
        refine lv_iconst (v := (-1)) hx hb dX1_context_42 (by decide) ?_
        exact W.iret (v := (-1)) hx hb hr (fun t ht hW => ⟨_, rfl, (by first | exact (zq3_1 hdx1).symm | exact (zq3_2 hdx2).symm | exact (zq3_3 hdx3).symm | exact (by unfold aCtx; rw [zq3_s hdx1 hdx2 hdx3]; first | done | rfl)), ht⟩) (fun q h => by cases h) dX1_context_43
    ·
      refine lv_if_eq (tgt := 42) hx hb dX1_context_12 (by decide) (fun _ => ?_) (fun q => absurd q (by decide))
      refine lv_iconst (v := (-1)) hx hb dX1_context_42 (by decide) ?_
      exact W.iret (v := (-1)) hx hb hr (fun t ht hW => ⟨_, rfl, (by first | exact (zq3_1 hdx1).symm | exact (zq3_2 hdx2).symm | exact (zq3_3 hdx3).symm | exact (by unfold aCtx; rw [zq3_s hdx1 hdx2 hdx3]; first | done | rfl)), ht⟩) (fun q h => by cases h) dX1_context_43
  ·
    refine lv_if_eq (tgt := 42) hx hb dX1_context_5 (by decide) (fun _ => ?_) (fun q => absurd q (by decide))
    refine lv_iconst (v := (-1)) hx hb dX1_context_42 (by decide) ?_
    exact W.iret (v := (-1)) hx hb hr (fun t ht hW => ⟨_, rfl, (by first | exact (zq3_1 hdx1).symm | exact (zq3_2 hdx2).symm | exact (zq3_3 hdx3).symm | exact (by unfold aCtx; rw [zq3_s hdx1 hdx2 hdx3]; first | done | rfl)), ht⟩) (fun q h => by cases h) dX1_context_43
set_option maxHeartbeats 4000000 in
set_option maxRecDepth 100000 in
/-- sees -/
theorem c_X1_sees (l : Launch) (dC : Nat → ClassId) (dI : Nat → Nat → Nat) (ad : Nat → Nat) (cI cJ : ClassId) (S C : Nat) (n : Nat → Nat) (va : Nat → Nat → Int32) (mk ct ps kn cx rd : Nat → Nat → Nat) (hG : zG S C n mk ct ps kn cx) (x1 x2 x3 : Int32) : Met l yX1_sees wsX1_sees ({ frames := 1, cells := 0, slots := 0, locals := 21 }) (va_Pc [.ref (ad 0), .int x1, .int x2, .int x3] (mB dC dI ad cI cJ S C n va mk ct ps kn cx rd)) (vp_Si (fun r => r = aSees C n cx x1 x2 x3)) 0 0 (fun _ => False) := by
  refine Met.ofW (cc := cX1_sees) (maxL := 4) (ret := (some .boolean)) (by decide) rfl ?_
  intro p e s m args below meth c s₁ B hml hv
  obtain ⟨rfl, hP, hK⟩ := hv
  have hx := B.exec
  have hb := B.bytes
  have hr := B.returns
  have hts := atoms_spec (ws := wsX1_sees) B.pre
  have hown : s.vm.findClass RX1 = some m.cls := findClass_of_methodNamed B.named
  have hlocks := B.notSynchronized
  have hin0 : ∀ w ∈ wsX10, w ∈ wsX1_sees := fun _ h => List.mem_cons_of_mem _ (List.mem_append_right _ h)
  have hl := lv_entry ([.ref (ad 0), .int x1, .int x2, .int x3]) (n := 4) (Nat.le_of_ble_eq_true rfl)
  rw [lg_entry_eq]
  generalize (lg_sl ([.ref (ad 0), .int x1, .int x2, .int x3]) ++ List.replicate (4 - (lg_sl ([.ref (ad 0), .int x1, .int x2, .int x3])).length) Slot.unset).toArray = ls at hl ⊢
  have hl : lv_has ls 4 [(0, .ref (ad 0)), (1, .int x1), (2, .int x2), (3, .int x3)] := hl
  obtain ⟨⟨hS1, hS4, hC1, hC4⟩, hn, hmk, hct, hps, hkn, hcx, hcn, hkw⟩ := hG
  refine lv_aload_n hx hb dX1_sees_0 rfl (lv_at hl 0 rfl) ?_
  refine lv_iload_n hx hb dX1_sees_1 rfl (lv_at hl 1 rfl) ?_
  refine vp_callSi (W.runV (As := [.int x1]) (rest := []) ⟨hx, hb, hml, hown, hts⟩ (c_X1_isClient l dC dI ad cI cJ S C n va mk ct ps kn cx rd (by omega) x1) (cwV 1 hts gX1_sees_X1_isClient rfl rfl rfl (by decide +kernel) ⟨Nat.le_of_ble_eq_true rfl, Nat.le_of_ble_eq_true rfl⟩) ⟨mB_blind, va_recv hK hP (ci := 1) (q0 := 0) rfl rfl, fun U hU hW => ⟨rfl, mB_at hP hK hU hW⟩⟩ rfl rfl hl.1 rfl (lv_room (Nat.le_of_ble_eq_true rfl)) dX1_sees_2 ⟨Nat.le_of_ble_eq_true rfl, Nat.le_of_ble_eq_true rfl⟩) (fun r hq => ?_)
  rcases hq with ⟨rfl, cl, hcl, rfl, hdx1⟩ | ⟨rfl, hdx1⟩
  ·
    refine lv_if_eq (tgt := 52) hx hb dX1_sees_5 (by decide) (fun q => absurd q (by decide)) (fun _ => ?_)
    refine lv_iload_n hx hb dX1_sees_8 rfl (lv_at hl 2 rfl) ?_
    refine vp_callSi (W.runS (As := [.int x2]) (rest := []) ⟨hx, hb, hml, hown, hts⟩ (c_X1_isKey l x2) (va_cwS 1 hts gX1_sees_X1_isKey rfl rfl rfl (by decide +kernel) ⟨Nat.le_of_ble_eq_true rfl, Nat.le_of_ble_eq_true rfl⟩) ⟨zB_blind, fun U hU hW => ⟨rfl, trivial⟩⟩ rfl rfl hl.1 rfl (lv_room (Nat.le_of_ble_eq_true rfl)) dX1_sees_9 ⟨Nat.le_of_ble_eq_true rfl, Nat.le_of_ble_eq_true rfl⟩) (fun r hq => ?_)
    rcases hq with ⟨rfl, ky, hky, rfl, hdx2⟩ | ⟨rfl, hdx2⟩
    ·
      refine lv_if_eq (tgt := 52) hx hb dX1_sees_12 (by decide) (fun q => absurd q (by decide)) (fun _ => ?_)
      refine lv_iload_n hx hb dX1_sees_15 rfl (lv_at hl 3 rfl) ?_
      refine lv_if_lt (tgt := 52) hx hb dX1_sees_16 (by decide) (fun c16 => ?_) (fun c16 => ?_)
      ·
        refine lv_iconst (v := nI 0) hx hb dX1_sees_52 (by decide) ?_
        exact W.zret (v := nI 0) hx hb hr (by first | rfl | decide) (fun t ht hW => ⟨_, rfl, (by first | exact (zq2_1 hdx1).symm | exact (zq2_2 hdx2).symm | exact (by unfold aSees; rw [zq2_s hdx1 hdx2, zD_neg c16]; first | done | rfl) | exact (by unfold aSees; rw [zq2_s hdx1 hdx2, zD_big (Nat.lt_of_le_of_lt (hn ky) (by decide)) c26]; first | done | rfl) | exact (by unfold aSees; rw [zq2_s hdx1 hdx2, hdx3]; show _ = zB01 _; rw [c40]; rfl)), ht⟩) (fun q h => by cases h) dX1_sees_53
      ·
        refine lv_iload_n hx hb dX1_sees_19 rfl (lv_at hl 3 rfl) ?_
        refine lv_aload_n hx hb dX1_sees_20 rfl (lv_at hl 0 rfl) ?_
        refine va_get (D := (dC, dI)) (ci := 1) (v := .ref (ad 1)) (C := RX1) (T := TX1) (N := 10) hx hb hts hin0 hown hK hP 0 rfl rfl 2 (by decide) (hts (.fieldLink RX1 7 "DottedSiblingsModel" "counts" "[I") (by decide +kernel)) (fun _ h9 => h9) rfl dX1_sees_21 ?_
        refine lv_iload_n hx hb dX1_sees_24 rfl (lv_at hl 2 rfl) ?_
        refine zr_iald (v := nI (n ky)) hx hb hK hP 1 0 rfl rfl (by omega) (by omega) rfl dX1_sees_25 ?_
        refine lv_icmp_ge (tgt := 52) hx hb dX1_sees_26 (by decide) (fun c26 => ?_) (fun c26 => ?_)
        ·
          refine lv_iconst (v := nI 0) hx hb dX1_sees_52 (by decide) ?_
          exact W.zret (v := nI 0) hx hb hr (by first | rfl | decide) (fun t ht hW => ⟨_, rfl, (by first | exact (zq2_1 hdx1).symm | exact (zq2_2 hdx2).symm | exact (by unfold aSees; rw [zq2_s hdx1 hdx2, zD_neg c16]; first | done | rfl) | exact (by unfold aSees; rw [zq2_s hdx1 hdx2, zD_big (Nat.lt_of_le_of_lt (hn ky) (by decide)) c26]; first | done | rfl) | exact (by unfold aSees; rw [zq2_s hdx1 hdx2, hdx3]; show _ = zB01 _; rw [c40]; rfl)), ht⟩) (fun q h => by cases h) dX1_sees_53
        ·
          have hn9 := hn ky
          obtain ⟨wr, hwr, rfl, hdx3⟩ := zD_in (N := n ky) (by omega) c16 c26
          refine lv_aload_n hx hb dX1_sees_29 rfl (lv_at hl 0 rfl) ?_
          refine va_get (D := (dC, dI)) (ci := 1) (v := .ref (ad 7)) (C := RX1) (T := TX1) (N := 10) hx hb hts hin0 hown hK hP 0 rfl rfl 8 (by decide) (hts (.fieldLink RX1 29 "DottedSiblingsModel" "contexts" "[J") (by decide +kernel)) (fun _ h9 => h9) rfl dX1_sees_30 ?_
          refine lv_iconst (v := nI 3) hx hb dX1_sees_33 (by decide) ?_
          refine lv_iload_n hx hb dX1_sees_34 rfl (lv_at hl 1 rfl) ?_
          refine zr_imul hx hb dX1_sees_35 ?_
          refine lv_iload_n hx hb dX1_sees_36 rfl (lv_at hl 2 rfl) ?_
          refine zr_iadd hx hb dX1_sees_37 ?_
          refine zr_lald (v := lN (cx ky cl)) hx hb hK hP 7 1 rfl rfl (by omega) (by omega) (congrArg lN (zf3 _ (by omega))) dX1_sees_38 ?_
          refine lv_iload_n hx hb dX1_sees_39 rfl (lv_at hl 3 rfl) ?_
          refine zr_bit (tgt := 52) hx hb (Nat.lt_trans (z40 (hcx _ _) (hn _)) (by decide)) (by omega) dX1_sees_40 dX1_sees_41 dX1_sees_42 dX1_sees_43 dX1_sees_44 dX1_sees_45 (by decide) (fun c40 => ?_) (fun c40 => ?_)
          ·
            refine lv_iconst (v := nI 0) hx hb dX1_sees_52 (by decide) ?_
            exact W.zret (v := nI 0) hx hb hr (by first | rfl | decide) (fun t ht hW => ⟨_, rfl, (by first | exact (zq2_1 hdx1).symm | exact (zq2_2 hdx2).symm | exact (by unfold aSees; rw [zq2_s hdx1 hdx2, zD_neg c16]; first | done | rfl) | exact (by unfold aSees; rw [zq2_s hdx1 hdx2, zD_big (Nat.lt_of_le_of_lt (hn ky) (by decide)) c26]; first | done | rfl) | exact (by unfold aSees; rw [zq2_s hdx1 hdx2, hdx3]; show _ = zB01 _; rw [c40]; rfl)), ht⟩) (fun q h => by cases h) dX1_sees_53
          ·
            refine lv_iconst (v := nI 1) hx hb dX1_sees_48 (by decide) ?_
            refine lv_goto (tgt := 53) hx hb dX1_sees_49 (by decide) ?_
            exact W.zret (v := nI 1) hx hb hr (by first | rfl | decide) (fun t ht hW => ⟨_, rfl, (by first | exact (zq2_1 hdx1).symm | exact (zq2_2 hdx2).symm | exact (by unfold aSees; rw [zq2_s hdx1 hdx2, zD_neg c16]; first | done | rfl) | exact (by unfold aSees; rw [zq2_s hdx1 hdx2, zD_big (Nat.lt_of_le_of_lt (hn ky) (by decide)) c26]; first | done | rfl) | exact (by unfold aSees; rw [zq2_s hdx1 hdx2, hdx3]; show _ = zB01 _; rw [c40]; rfl)), ht⟩) (fun q h => by cases h) dX1_sees_53
    ·
      refine lv_if_eq (tgt := 52) hx hb dX1_sees_12 (by decide) (fun _ => ?_) (fun q => absurd q (by decide))
      refine lv_iconst (v := nI 0) hx hb dX1_sees_52 (by decide) ?_
      exact W.zret (v := nI 0) hx hb hr (by first | rfl | decide) (fun t ht hW => ⟨_, rfl, (by first | exact (zq2_1 hdx1).symm | exact (zq2_2 hdx2).symm | exact (by unfold aSees; rw [zq2_s hdx1 hdx2, zD_neg c16]; first | done | rfl) | exact (by unfold aSees; rw [zq2_s hdx1 hdx2, zD_big (Nat.lt_of_le_of_lt (hn ky) (by decide)) c26]; first | done | rfl) | exact (by unfold aSees; rw [zq2_s hdx1 hdx2, hdx3]; show _ = zB01 _; rw [c40]; rfl)), ht⟩) (fun q h => by cases h) dX1_sees_53
  ·
    refine lv_if_eq (tgt := 52) hx hb dX1_sees_5 (by decide) (fun _ => ?_) (fun q => absurd q (by decide))
    refine lv_iconst (v := nI 0) hx hb dX1_sees_52 (by decide) ?_
    exact W.zret (v := nI 0) hx hb hr (by first | rfl | decide) (fun t ht hW => ⟨_, rfl, (by first | exact (zq2_1 hdx1).symm | exact (zq2_2 hdx2).symm | exact (by unfold aSees; rw [zq2_s hdx1 hdx2, zD_neg c16]; first | done | rfl) | exact (by unfold aSees; rw [zq2_s hdx1 hdx2, zD_big (Nat.lt_of_le_of_lt (hn ky) (by decide)) c26]; first | done | rfl) | exact (by unfold aSees; rw [zq2_s hdx1 hdx2, hdx3]; show _ = zB01 _; rw [c40]; rfl)), ht⟩) (fun q h => by cases h) dX1_sees_53
set_option maxHeartbeats 4000000 in
set_option maxRecDepth 100000 in
/-- same -/
theorem c_X1_same (l : Launch) (dC : Nat → ClassId) (dI : Nat → Nat → Nat) (ad : Nat → Nat) (cI cJ : ClassId) (S C : Nat) (n : Nat → Nat) (va : Nat → Nat → Int32) (mk ct ps kn cx rd : Nat → Nat → Nat) (hG : zG S C n mk ct ps kn cx) (x1 x2 x3 : Int32) : Met l yX1_same wsX1_same ({ frames := 1, cells := 0, slots := 0, locals := 21 }) (va_Pc [.ref (ad 0), .int x1, .int x2, .int x3] (mB dC dI ad cI cJ S C n va mk ct ps kn cx rd)) (vp_Si (fun r => r = aSame S kn x1 x2 x3)) 0 0 (fun _ => False) := by
  refine Met.ofW (cc := cX1_same) (maxL := 4) (ret := (some .boolean)) (by decide) rfl ?_
  intro p e s m args below meth c s₁ B hml hv
  obtain ⟨rfl, hP, hK⟩ := hv
  have hx := B.exec
  have hb := B.bytes
  have hr := B.returns
  have hts := atoms_spec (ws := wsX1_same) B.pre
  have hown : s.vm.findClass RX1 = some m.cls := findClass_of_methodNamed B.named
  have hlocks := B.notSynchronized
  have hin0 : ∀ w ∈ wsX10, w ∈ wsX1_same := fun _ h => List.mem_cons_of_mem _ (List.mem_append_right _ h)
  have hl := lv_entry ([.ref (ad 0), .int x1, .int x2, .int x3]) (n := 4) (Nat.le_of_ble_eq_true rfl)
  rw [lg_entry_eq]
  generalize (lg_sl ([.ref (ad 0), .int x1, .int x2, .int x3]) ++ List.replicate (4 - (lg_sl ([.ref (ad 0), .int x1, .int x2, .int x3])).length) Slot.unset).toArray = ls at hl ⊢
  have hl : lv_has ls 4 [(0, .ref (ad 0)), (1, .int x1), (2, .int x2), (3, .int x3)] := hl
  obtain ⟨⟨hS1, hS4, hC1, hC4⟩, hn, hmk, hct, hps, hkn, hcx, hcn, hkw⟩ := hG
  refine lv_aload_n hx hb dX1_same_0 rfl (lv_at hl 0 rfl) ?_
  refine lv_iload_n hx hb dX1_same_1 rfl (lv_at hl 1 rfl) ?_
  refine vp_callSi (W.runV (As := [.int x1]) (rest := []) ⟨hx, hb, hml, hown, hts⟩ (c_X1_isServer l dC dI ad cI cJ S C n va mk ct ps kn cx rd (by omega) x1) (cwV 1 hts gX1_same_X1_isServer rfl rfl rfl (by decide +kernel) ⟨Nat.le_of_ble_eq_true rfl, Nat.le_of_ble_eq_true rfl⟩) ⟨mB_blind, va_recv hK hP (ci := 1) (q0 := 0) rfl rfl, fun U hU hW => ⟨rfl, mB_at hP hK hU hW⟩⟩ rfl rfl hl.1 rfl (lv_room (Nat.le_of_ble_eq_true rfl)) dX1_same_2 ⟨Nat.le_of_ble_eq_true rfl, Nat.le_of_ble_eq_true rfl⟩) (fun r hq => ?_)
  rcases hq with ⟨rfl, sa, hsa, rfl, hdx1⟩ | ⟨rfl, hdx1⟩
  ·
    refine lv_if_eq (tgt := 51) hx hb dX1_same_5 (by decide) (fun q => absurd q (by decide)) (fun _ => ?_)
    refine lv_aload_n hx hb dX1_same_8 rfl (lv_at hl 0 rfl) ?_
    refine lv_iload_n hx hb dX1_same_9 rfl (lv_at hl 2 rfl) ?_
    refine vp_callSi (W.runV (As := [.int x2]) (rest := []) ⟨hx, hb, hml, hown, hts⟩ (c_X1_isServer l dC dI ad cI cJ S C n va mk ct ps kn cx rd (by omega) x2) (cwV 1 hts gX1_same_X1_isServer rfl rfl rfl (by decide +kernel) ⟨Nat.le_of_ble_eq_true rfl, Nat.le_of_ble_eq_true rfl⟩) ⟨mB_blind, va_recv hK hP (ci := 1) (q0 := 0) rfl rfl, fun U hU hW => ⟨rfl, mB_at hP hK hU hW⟩⟩ rfl rfl hl.1 rfl (lv_room (Nat.le_of_ble_eq_true rfl)) dX1_same_10 ⟨Nat.le_of_ble_eq_true rfl, Nat.le_of_ble_eq_true rfl⟩) (fun r hq => ?_)
    rcases hq with ⟨rfl, sb, hsb, rfl, hdx2⟩ | ⟨rfl, hdx2⟩
    ·
      refine lv_if_eq (tgt := 51) hx hb dX1_same_13 (by decide) (fun q => absurd q (by decide)) (fun _ => ?_)
      refine lv_iload_n hx hb dX1_same_16 rfl (lv_at hl 3 rfl) ?_
      refine vp_callSi (W.runS (As := [.int x3]) (rest := []) ⟨hx, hb, hml, hown, hts⟩ (c_X1_isKey l x3) (va_cwS 1 hts gX1_same_X1_isKey rfl rfl rfl (by decide +kernel) ⟨Nat.le_of_ble_eq_true rfl, Nat.le_of_ble_eq_true rfl⟩) ⟨zB_blind, fun U hU hW => ⟨rfl, trivial⟩⟩ rfl rfl hl.1 rfl (lv_room (Nat.le_of_ble_eq_true rfl)) dX1_same_17 ⟨Nat.le_of_ble_eq_true rfl, Nat.le_of_ble_eq_true rfl⟩) (fun r hq => ?_)
      rcases hq with ⟨rfl, ky, hky, rfl, hdx3⟩ | ⟨rfl, hdx3⟩
      ·
        refine lv_if_eq (tgt := 51) hx hb dX1_same_20 (by decide) (fun q => absurd q (by decide)) (fun _ => ?_)
        refine lv_aload_n hx hb dX1_same_23 rfl (lv_at hl 0 rfl) ?_
        refine va_get (D := (dC, dI)) (ci := 1) (v := .ref (ad 6)) (C := RX1) (T := TX1) (N := 10) hx hb hts hin0 hown hK hP 0 rfl rfl 7 (by decide) (hts (.fieldLink RX1 26 "DottedSiblingsModel" "known" "[J") (by decide +kernel)) (fun _ h9 => h9) rfl dX1_same_24 ?_
        refine lv_iconst (v := nI 3) hx hb dX1_same_27 (by decide) ?_
        refine lv_iload_n hx hb dX1_same_28 rfl (lv_at hl 1 rfl) ?_
        refine zr_imul hx hb dX1_same_29 ?_
        refine lv_iload_n hx hb dX1_same_30 rfl (lv_at hl 3 rfl) ?_
        refine zr_iadd hx hb dX1_same_31 ?_
        refine zr_lald (v := lN (kn ky sa)) hx hb hK hP 6 1 rfl rfl (by omega) (by omega) (congrArg lN (zf3 _ (by omega))) dX1_same_32 ?_
        refine lv_aload_n hx hb dX1_same_33 rfl (lv_at hl 0 rfl) ?_
        refine va_get (D := (dC, dI)) (ci := 1) (v := .ref (ad 6)) (C := RX1) (T := TX1) (N := 10) hx hb hts hin0 hown hK hP 0 rfl rfl 7 (by decide) (hts (.fieldLink RX1 26 "DottedSiblingsModel" "known" "[J") (by decide +kernel)) (fun _ h9 => h9) rfl dX1_same_34 ?_
        refine lv_iconst (v := nI 3) hx hb dX1_same_37 (by decide) ?_
        refine lv_iload_n hx hb dX1_same_38 rfl (lv_at hl 2 rfl) ?_
        refine zr_imul hx hb dX1_same_39 ?_
        refine lv_iload_n hx hb dX1_same_40 rfl (lv_at hl 3 rfl) ?_
        refine zr_iadd hx hb dX1_same_41 ?_
        refine zr_lald (v := lN (kn ky sb)) hx hb hK hP 6 1 rfl rfl (by omega) (by omega) (congrArg lN (zf3 _ (by omega))) dX1_same_42 ?_
        refine zr_leq (tgt := 51) hx hb (Nat.lt_trans (z40 (hkn _ _) (hn _)) (by decide)) (Nat.lt_trans (z40 (hkn _ _) (hn _)) (by decide)) dX1_same_43 dX1_same_44 (by decide) (fun c43 => ?_) (fun c43 => ?_)
        ·
          refine lv_iconst (v := nI 0) hx hb dX1_same_51 (by decide) ?_
          exact W.zret (v := nI 0) hx hb hr (by first | rfl | decide) (fun t ht hW => ⟨_, rfl, (by first | exact (zq3_1 hdx1).symm | exact (zq3_2 hdx2).symm | exact (zq3_3 hdx3).symm | exact (by unfold aSame; rw [zq3_s hdx1 hdx2 hdx3, if_pos c43]; first | done | rfl) | exact (by unfold aSame; rw [zq3_s hdx1 hdx2 hdx3, if_neg c43]; first | done | rfl)), ht⟩) (fun q h => by cases h) dX1_same_52
        ·
          refine lv_iconst (v := nI 1) hx hb dX1_same_47 (by decide) ?_
          refine lv_goto (tgt := 52) hx hb dX1_same_48 (by decide) ?_
          exact W.zret (v := nI 1) hx hb hr (by first | rfl | decide) (fun t ht hW => ⟨_, rfl, (by first | exact (zq3_1 hdx1).symm | exact (zq3_2 hdx2).symm | exact (zq3_3 hdx3).symm | exact (by unfold aSame; rw [zq3_s hdx1 hdx2 hdx3, if_pos c43]; first | done | rfl) | exact (by unfold aSame; rw [zq3_s hdx1 hdx2 hdx3, if_neg c43]; first | done | rfl)), ht⟩) (fun q h => by cases h) dX1_same_52
      ·
        refine lv_if_eq (tgt := 51) hx hb dX1_same_20 (by decide) (fun _ => ?_) (fun q => absurd q (by decide))
        refine lv_iconst (v := nI 0) hx hb dX1_same_51 (by decide) ?_
        exact W.zret (v := nI 0) hx hb hr (by first | rfl | decide) (fun t ht hW => ⟨_, rfl, (by first | exact (zq3_1 hdx1).symm | exact (zq3_2 hdx2).symm | exact (zq3_3 hdx3).symm | exact (by unfold aSame; rw [zq3_s hdx1 hdx2 hdx3, if_pos c43]; first | done | rfl) | exact (by unfold aSame; rw [zq3_s hdx1 hdx2 hdx3, if_neg c43]; first | done | rfl)), ht⟩) (fun q h => by cases h) dX1_same_52
    ·
      refine lv_if_eq (tgt := 51) hx hb dX1_same_13 (by decide) (fun _ => ?_) (fun q => absurd q (by decide))
      refine lv_iconst (v := nI 0) hx hb dX1_same_51 (by decide) ?_
      exact W.zret (v := nI 0) hx hb hr (by first | rfl | decide) (fun t ht hW => ⟨_, rfl, (by first | exact (zq3_1 hdx1).symm | exact (zq3_2 hdx2).symm | exact (zq3_3 hdx3).symm | exact (by unfold aSame; rw [zq3_s hdx1 hdx2 hdx3, if_pos c43]; first | done | rfl) | exact (by unfold aSame; rw [zq3_s hdx1 hdx2 hdx3, if_neg c43]; first | done | rfl)), ht⟩) (fun q h => by cases h) dX1_same_52
  ·
    refine lv_if_eq (tgt := 51) hx hb dX1_same_5 (by decide) (fun _ => ?_) (fun q => absurd q (by decide))
    refine lv_iconst (v := nI 0) hx hb dX1_same_51 (by decide) ?_
    exact W.zret (v := nI 0) hx hb hr (by first | rfl | decide) (fun t ht hW => ⟨_, rfl, (by first | exact (zq3_1 hdx1).symm | exact (zq3_2 hdx2).symm | exact (zq3_3 hdx3).symm | exact (by unfold aSame; rw [zq3_s hdx1 hdx2 hdx3, if_pos c43]; first | done | rfl) | exact (by unfold aSame; rw [zq3_s hdx1 hdx2 hdx3, if_neg c43]; first | done | rfl)), ht⟩) (fun q h => by cases h) dX1_same_52
set_option maxHeartbeats 4000000 in
set_option maxRecDepth 100000 in
/-- weight -/
theorem c_X1_weight (l : Launch) (dC : Nat → ClassId) (dI : Nat → Nat → Nat) (ad : Nat → Nat) (cI cJ : ClassId) (S C : Nat) (n : Nat → Nat) (va : Nat → Nat → Int32) (mk ct ps kn cx rd : Nat → Nat → Nat) (hG : zG S C n mk ct ps kn cx) (x1 x2 : Int32) : Met l yX1_weight wsX1_weight ({ frames := 2, cells := 0, slots := 0, locals := 50 }) (va_Pc [.ref (ad 0), .int x1, .int x2] (mB dC dI ad cI cJ S C n va mk ct ps kn cx rd)) (vp_Si (fun r => r = aWeight S n mk ct ps kn x1 x2)) 0 0 (fun _ => False) := by
  refine Met.ofW (cc := cX1_weight) (maxL := 5) (ret := (some .int)) (by decide) rfl ?_
  intro p e s m args below meth c s₁ B hml hv
  obtain ⟨rfl, hP, hK⟩ := hv
  have hx := B.exec
  have hb := B.bytes
  have hr := B.returns
  have hts := atoms_spec (ws := wsX1_weight) B.pre
  have hown : s.vm.findClass RX1 = some m.cls := findClass_of_methodNamed B.named
  have hlocks := B.notSynchronized
  have hin0 : ∀ w ∈ wsX10, w ∈ wsX1_weight := fun _ h => List.mem_cons_of_mem _ (List.mem_append_right _ h)
  have hl := lv_entry ([.ref (ad 0), .int x1, .int x2]) (n := 5) (Nat.le_of_ble_eq_true rfl)
  rw [lg_entry_eq]
  generalize (lg_sl ([.ref (ad 0), .int x1, .int x2]) ++ List.replicate (5 - (lg_sl ([.ref (ad 0), .int x1, .int x2])).length) Slot.unset).toArray = ls at hl ⊢
  have hl : lv_has ls 5 [(0, .ref (ad 0)), (1, .int x1), (2, .int x2)] := hl
  have hG0 := hG
  obtain ⟨⟨hS1, hS4, hC1, hC4⟩, hn, hmk, hct, hps, hkn, hcx, hcn, hkw⟩ := hG
  have hG := hG0
  refine lv_aload_n hx hb dX1_weight_0 rfl (lv_at hl 0 rfl) ?_
  refine lv_iload_n hx hb dX1_weight_1 rfl (lv_at hl 1 rfl) ?_
  refine vp_callSi (W.runV (As := [.int x1]) (rest := []) ⟨hx, hb, hml, hown, hts⟩ (c_X1_isServer l dC dI ad cI cJ S C n va mk ct ps kn cx rd (by omega) x1) (cwV 1 hts gX1_weight_X1_isServer rfl rfl rfl (by decide +kernel) ⟨Nat.le_of_ble_eq_true rfl, Nat.le_of_ble_eq_true rfl⟩) ⟨mB_blind, va_recv hK hP (ci := 1) (q0 := 0) rfl rfl, fun U hU hW => ⟨rfl, mB_at hP hK hU hW⟩⟩ rfl rfl hl.1 rfl (lv_room (Nat.le_of_ble_eq_true rfl)) dX1_weight_2 ⟨Nat.le_of_ble_eq_true rfl, Nat.le_of_ble_eq_true rfl⟩) (fun r hq => ?_)
  rcases hq with ⟨rfl, sv, hsv, rfl, hdx1⟩ | ⟨rfl, hdx1⟩
  ·
    refine lv_if_eq (tgt := 15) hx hb dX1_weight_5 (by decide) (fun q => absurd q (by decide)) (fun _ => ?_)
    refine lv_iload_n hx hb dX1_weight_8 rfl (lv_at hl 2 rfl) ?_
    refine vp_callSi (W.runS (As := [.int x2]) (rest := []) ⟨hx, hb, hml, hown, hts⟩ (c_X1_isKey l x2) (va_cwS 1 hts gX1_weight_X1_isKey rfl rfl rfl (by decide +kernel) ⟨Nat.le_of_ble_eq_true rfl, Nat.le_of_ble_eq_true rfl⟩) ⟨zB_blind, fun U hU hW => ⟨rfl, trivial⟩⟩ rfl rfl hl.1 rfl (lv_room (Nat.le_of_ble_eq_true rfl)) dX1_weight_9 ⟨Nat.le_of_ble_eq_true rfl, Nat.le_of_ble_eq_true rfl⟩) (fun r hq => ?_)
    rcases hq with ⟨rfl, ky, hky, rfl, hdx2⟩ | ⟨rfl, hdx2⟩
    ·
      refine lv_if_ne (tgt := 17) hx hb dX1_weight_12 (by decide) (fun _ => ?_) (fun q => absurd q (by decide))
      refine lv_aload_n hx hb dX1_weight_17 rfl (lv_at hl 0 rfl) ?_
      refine lv_iload_n hx hb dX1_weight_18 rfl (lv_at hl 1 rfl) ?_
      refine lv_iload_n hx hb dX1_weight_19 rfl (lv_at hl 2 rfl) ?_
      refine vp_callSi (W.runV (As := [.int (nI sv), .int (nI ky)]) (rest := []) ⟨hx, hb, hml, hown, hts⟩ (c_X1_siblings l dC dI ad cI cJ S C n va mk ct ps kn cx rd hG (nI sv) (nI ky)) (cwV 2 hts gX1_weight_X1_siblings rfl rfl rfl (by decide +kernel) ⟨Nat.le_of_ble_eq_true rfl, Nat.le_of_ble_eq_true rfl⟩) ⟨mB_blind, va_recv hK hP (ci := 1) (q0 := 0) rfl rfl, fun U hU hW => ⟨rfl, mB_at hP hK hU hW⟩⟩ rfl rfl hl.1 rfl (lv_room (Nat.le_of_ble_eq_true rfl)) dX1_weight_20 ⟨Nat.le_of_ble_eq_true rfl, Nat.le_of_ble_eq_true rfl⟩) (fun r hq => ?_)
      have hq := hq.trans (zq2_s hdx1 hdx2)
      subst hq
      refine lv_istore_n (lv' := [(3, .int (nI (zSize (zNew (n ky) (ps ky) (kn ky sv))))), (0, .ref (ad 0)), (1, .int (nI sv)), (2, .int (nI ky))]) hx hb dX1_weight_23 rfl hl (by decide) rfl (fun ls hl => ?_)
      refine lv_iconst (v := nI 0) hx hb dX1_weight_24 (by decide) ?_
      refine lv_istore (lv' := [(4, .int (nI 0)), (3, .int (nI (zSize (zNew (n ky) (ps ky) (kn ky sv))))), (0, .ref (ad 0)), (1, .int (nI sv)), (2, .int (nI ky))]) hx hb dX1_weight_25 hl (by decide) rfl (fun ls hl => ?_)
      refine zr_loop (pc := 27) (fun d ls => ∃ i, i ≤ S ∧ d = S - i ∧ lv_has ls 5 [(0, .ref (ad 0)), (1, .int (nI sv)), (2, .int (nI ky)), (3, .int (nI (zSize (zNew (n ky) (ps ky) (kn ky sv)) + cn (fun o => decide (0 < zVec (ct ky) (zHit (mk ky) (kn ky sv) o) (n ky))) i))), (4, .int (nI i))]) ?_ _ _ ⟨0, Nat.zero_le _, rfl, lv_sub hl [2, 3, 4, 1, 0] rfl⟩
      rintro d ls ⟨i, hi, rfl, hl⟩ ih27
      have hz9 := zVec_le (hit := zHit (mk ky) (kn ky sv) i) (hct ky) (n ky)
      refine lv_iload hx hb dX1_weight_27 (lv_at hl 4 rfl) ?_
      refine lv_aload_n hx hb dX1_weight_29 rfl (lv_at hl 0 rfl) ?_
      refine va_get (D := (dC, dI)) (ci := 1) (v := .int (nI S)) (C := RX1) (T := TX1) (N := 10) hx hb hts hin0 hown hK hP 0 rfl rfl 0 (by decide) (hts (.fieldLink RX1 35 "DottedSiblingsModel" "servers" "I") (by decide +kernel)) (fun _ h9 => h9) rfl dX1_weight_30 ?_
      refine zr_ige (tgt := 61) hx hb (by omega) (by omega) dX1_weight_33 (by decide) (fun c33 => ?_) (fun c33 => ?_)
      ·
        refine lv_iload_n hx hb dX1_weight_61 rfl (lv_at hl 3 rfl) ?_
        exact W.iret (v := nI (zSize (zNew (n ky) (ps ky) (kn ky sv)) + cn (fun o => decide (0 < zVec (ct ky) (zHit (mk ky) (kn ky sv) o) (n ky))) i)) hx hb hr (fun t ht hW => ⟨_, rfl, (by first | exact (zq2_1 hdx1).symm | exact (zq2_2 hdx2).symm | exact (by unfold aWeight; rw [zq2_s hdx1 hdx2, show S = i by omega, Nat.add_comm]; first | done | rfl) | exact (by unfold aWeight; rw [zq2_s hdx1 hdx2, Nat.add_comm, show S = i by omega]; first | done | rfl)), ht⟩) (fun q h => by cases h) dX1_weight_62
      ·
        refine lv_iload_n hx hb dX1_weight_36 rfl (lv_at hl 3 rfl) ?_
        refine lv_aload_n hx hb dX1_weight_37 rfl (lv_at hl 0 rfl) ?_
        refine lv_iload_n hx hb dX1_weight_38 rfl (lv_at hl 1 rfl) ?_
        refine lv_iload_n hx hb dX1_weight_39 rfl (lv_at hl 2 rfl) ?_
        refine lv_iload hx hb dX1_weight_40 (lv_at hl 4 rfl) ?_
        refine vp_callSi (W.runV (As := [.int (nI sv), .int (nI ky), .int (nI i)]) (rest := [.int (nI (zSize (zNew (n ky) (ps ky) (kn ky sv)) + cn (fun o => decide (0 < zVec (ct ky) (zHit (mk ky) (kn ky sv) o) (n ky))) i))]) ⟨hx, hb, hml, hown, hts⟩ (c_X1_known l dC dI ad cI cJ S C n va mk ct ps kn cx rd hG (nI sv) (nI ky) (nI i)) (cwV 3 hts gX1_weight_X1_known rfl rfl rfl (by decide +kernel) ⟨Nat.le_of_ble_eq_true rfl, Nat.le_of_ble_eq_true rfl⟩) ⟨mB_blind, va_recv hK hP (ci := 1) (q0 := 0) rfl rfl, fun U hU hW => ⟨rfl, mB_at hP hK hU hW⟩⟩ rfl rfl hl.1 rfl (lv_room (Nat.le_of_ble_eq_true rfl)) dX1_weight_42 ⟨Nat.le_of_ble_eq_true rfl, Nat.le_of_ble_eq_true rfl⟩) (fun r hq => ?_)
        have hq := hq.trans (zq3_s hdx1 hdx2 (zD_s (by omega) (by omega)))
        subst hq
        refine zr_ifle (tgt := 52) hx hb (by omega) dX1_weight_45 (by decide) (fun c45 => ?_) (fun c45 => ?_)
        ·
          refine lv_iconst (v := nI 0) hx hb dX1_weight_52 (by decide) ?_
          refine zr_iadd hx hb dX1_weight_53 ?_
          refine lv_istore_n (lv' := [(3, .int (nI (zSize (zNew (n ky) (ps ky) (kn ky sv)) + cn (fun o => decide (0 < zVec (ct ky) (zHit (mk ky) (kn ky sv) o) (n ky))) i + 0))), (0, .ref (ad 0)), (1, .int (nI sv)), (2, .int (nI ky)), (4, .int (nI i))]) hx hb dX1_weight_54 rfl hl (by decide) rfl (fun ls hl => ?_)
          refine lv_iinc (v := nI (i + 1)) (lv' := [(4, .int (nI (i + 1))), (3, .int (nI (zSize (zNew (n ky) (ps ky) (kn ky sv)) + cn (fun o => decide (0 < zVec (ct ky) (zHit (mk ky) (kn ky sv) o) (n ky))) i + 0))), (0, .ref (ad 0)), (1, .int (nI sv)), (2, .int (nI ky))]) hx hb dX1_weight_55 hl (k := 4) rfl (by rw [← nI_1]; rfl) (by decide) rfl (fun ls hl => ?_)
          refine lv_goto (tgt := 27) hx hb dX1_weight_58 (by decide) ?_
          exact ih27 _ _ (by omega) ⟨i + 1, by omega, rfl, by first | (rw [cn_t (f := (fun o => decide (0 < zVec (ct ky) (zHit (mk ky) (kn ky sv) o) (n ky)))) (i := i) (decide_eq_true c45)]; exact lv_sub hl [2, 3, 4, 1, 0] rfl) | (rw [cn_f (f := (fun o => decide (0 < zVec (ct ky) (zHit (mk ky) (kn ky sv) o) (n ky)))) (i := i) (decide_eq_false (by omega))]; exact lv_sub hl [2, 3, 4, 1, 0] rfl)⟩
        ·
          refine lv_iconst (v := nI 1) hx hb dX1_weight_48 (by decide) ?_
          refine lv_goto (tgt := 53) hx hb dX1_weight_49 (by decide) ?_
          refine zr_iadd hx hb dX1_weight_53 ?_
          refine lv_istore_n (lv' := [(3, .int (nI (zSize (zNew (n ky) (ps ky) (kn ky sv)) + cn (fun o => decide (0 < zVec (ct ky) (zHit (mk ky) (kn ky sv) o) (n ky))) i + 1))), (0, .ref (ad 0)), (1, .int (nI sv)), (2, .int (nI ky)), (4, .int (nI i))]) hx hb dX1_weight_54 rfl hl (by decide) rfl (fun ls hl => ?_)
          refine lv_iinc (v := nI (i + 1)) (lv' := [(4, .int (nI (i + 1))), (3, .int (nI (zSize (zNew (n ky) (ps ky) (kn ky sv)) + cn (fun o => decide (0 < zVec (ct ky) (zHit (mk ky) (kn ky sv) o) (n ky))) i + 1))), (0, .ref (ad 0)), (1, .int (nI sv)), (2, .int (nI ky))]) hx hb dX1_weight_55 hl (k := 4) rfl (by rw [← nI_1]; rfl) (by decide) rfl (fun ls hl => ?_)
          refine lv_goto (tgt := 27) hx hb dX1_weight_58 (by decide) ?_
          exact ih27 _ _ (by omega) ⟨i + 1, by omega, rfl, by first | (rw [cn_t (f := (fun o => decide (0 < zVec (ct ky) (zHit (mk ky) (kn ky sv) o) (n ky)))) (i := i) (decide_eq_true c45)]; exact lv_sub hl [2, 3, 4, 1, 0] rfl) | (rw [cn_f (f := (fun o => decide (0 < zVec (ct ky) (zHit (mk ky) (kn ky sv) o) (n ky)))) (i := i) (decide_eq_false (by omega))]; exact lv_sub hl [2, 3, 4, 1, 0] rfl)⟩
    ·
      refine lv_if_ne (tgt := 17) hx hb dX1_weight_12 (by decide) (fun q => absurd q (by decide)) (fun _ => ?_)
      refine lv_iconst (v := (-1)) hx hb dX1_weight_15 (by decide) ?_
      exact W.iret (v := (-1)) hx hb hr (fun t ht hW => ⟨_, rfl, (by first | exact (zq2_1 hdx1).symm | exact (zq2_2 hdx2).symm | exact (by unfold aWeight; rw [zq2_s hdx1 hdx2, show S = i by omega, Nat.add_comm]; first | done | rfl) | exact (by unfold aWeight; rw [zq2_s hdx1 hdx2, Nat.add_comm, show S = i by omega]; first | done | rfl)), ht⟩) (fun q h => by cases h) dX1_weight_16
  ·
    refine lv_if_eq (tgt := 15) hx hb dX1_weight_5 (by decide) (fun _ => ?_) (fun q => absurd q (by decide))
    refine lv_iconst (v := (-1)) hx hb dX1_weight_15 (by decide) ?_
    exact W.iret (v := (-1)) hx hb hr (fun t ht hW => ⟨_, rfl, (by first | exact (zq2_1 hdx1).symm | exact (zq2_2 hdx2).symm | exact (by unfold aWeight; rw [zq2_s hdx1 hdx2, show S = i by omega, Nat.add_comm]; first | done | rfl) | exact (by unfold aWeight; rw [zq2_s hdx1 hdx2, Nat.add_comm, show S = i by omega]; first | done | rfl)), ht⟩) (fun q h => by cases h) dX1_weight_16
end
section
/-! a writing method's start and end -/
def xC (dC : Nat → ClassId) (dI : Nat → Nat → Nat) (ad : Nat → Nat) (cI cJ cII cJJ : ClassId) (S C : Nat) (n : Nat → Nat) (va : Nat → Nat → Int32) (mk ct ps kn cx : Nat → Nat → Nat) (sz : Nat) (U : State) : Prop := U.heap.size = sz ∧ va_P (dC, dI) vwCl (xw ad cI cJ cII cJJ S C n va mk ct ps kn cx) U.heap ∧ va_K (dC, dI) vwCl (zT cI cJ cII cJJ) U ∧ va_D (fun _ => True) (xw ad cI cJ cII cJJ S C n va mk ct ps kn cx)
def xE (A : Nat → Prop) (dC : Nat → ClassId) (dI : Nat → Nat → Nat) (ad : Nat → Nat) (cI cJ cII cJJ : ClassId) (S C : Nat) (n : Nat → Nat) (va : Nat → Nat → Int32) (mk ct ps kn cx : Nat → Nat → Nat) (t : State) : Prop := va_P (dC, dI) vwCl (xw ad cI cJ cII cJJ S C n va mk ct ps kn cx) t.heap ∧ va_K (dC, dI) vwCl (zT cI cJ cII cJJ) t ∧ va_D A (xw ad cI cJ cII cJJ S C n va mk ct ps kn cx)
def mC (dC : Nat → ClassId) (dI : Nat → Nat → Nat) (ad : Nat → Nat) (cI cJ : ClassId) (S C : Nat) (n : Nat → Nat) (va : Nat → Nat → Int32) (mk ct ps kn cx rd : Nat → Nat → Nat) (sz : Nat) (U : State) : Prop := U.heap.size = sz ∧ va_P (dC, dI) vwCl (mw ad cI cJ S C n va mk ct ps kn cx rd) U.heap ∧ va_K (dC, dI) vwCl [(cI, .int), (cJ, .long)] U ∧ va_D (fun _ => True) (mw ad cI cJ S C n va mk ct ps kn cx rd)
def mE (A : Nat → Prop) (dC : Nat → ClassId) (dI : Nat → Nat → Nat) (ad : Nat → Nat) (cI cJ : ClassId) (S C : Nat) (n : Nat → Nat) (va : Nat → Nat → Int32) (mk ct ps kn cx rd : Nat → Nat → Nat) (t : State) : Prop := va_P (dC, dI) vwCl (mw ad cI cJ S C n va mk ct ps kn cx rd) t.heap ∧ va_K (dC, dI) vwCl [(cI, .int), (cJ, .long)] t ∧ va_D A (mw ad cI cJ S C n va mk ct ps kn cx rd)
theorem xC_blind {av : List Value} {dC : Nat → ClassId} {dI : Nat → Nat → Nat} {ad : Nat → Nat} {cI cJ cII cJJ : ClassId} {S C : Nat} {n : Nat → Nat} {va : Nat → Nat → Int32} {mk ct ps kn cx : Nat → Nat → Nat} {sz : Nat} : FrameBlind (va_Pc av (xC dC dI ad cI cJ cII cJJ S C n va mk ct ps kn cx sz)) := fun a U g k q => by
  obtain ⟨q0, q1, qP, qK, qD⟩ := q
  exact ⟨q0, q1, qP, va_K.moved (u := U) (U := U.calling g k a) (Vm.Alike.refl U.vm) qK, qD⟩
theorem mC_blind {av : List Value} {dC : Nat → ClassId} {dI : Nat → Nat → Nat} {ad : Nat → Nat} {cI cJ : ClassId} {S C : Nat} {n : Nat → Nat} {va : Nat → Nat → Int32} {mk ct ps kn cx rd : Nat → Nat → Nat} {sz : Nat} : FrameBlind (va_Pc av (mC dC dI ad cI cJ S C n va mk ct ps kn cx rd sz)) := fun a U g k q => by
  obtain ⟨q0, q1, qP, qK, qD⟩ := q
  exact ⟨q0, q1, qP, va_K.moved (u := U) (U := U.calling g k a) (Vm.Alike.refl U.vm) qK, qD⟩
theorem zVec_congr {ct : Nat → Nat} {h1 h2 : Nat → Bool} : ∀ {i : Nat}, (∀ w, w < i → h1 w = h2 w) → zVec ct h1 i = zVec ct h2 i
  | 0, _ => rfl
  | i + 1, h => by
    unfold zVec
    rw [h i (by omega), zVec_congr (i := i) (fun w hw => h w (by omega))]
/-- a server's own greatest counter is how many writes it made -/
theorem zVec_own {n sv set : Nat} {mk ct : Nat → Nat} (h1 : ∀ w, w < n → ct w = 1 + cn (fun v => decide (mk v = mk w)) w) (h2 : ∀ w, w < n → mk w = sv → set.testBit w = true) : ∀ i, i ≤ n → zVec ct (zHit mk set sv) i = cn (fun v => decide (mk v = sv)) i
  | 0, _ => rfl
  | i + 1, hi => by
    have ih := zVec_own h1 h2 i (by omega)
    by_cases h : mk i = sv
    · rw [zVec_t (zHit_t h (h2 i (by omega) h)), ih, cn_t (f := fun v => decide (mk v = sv)) (i := i) (decide_eq_true h), h1 i (by omega), h, if_pos (by omega), Nat.add_comm]
    · rw [zVec_f (zHit_n h), ih, cn_f (f := fun v => decide (mk v = sv)) (i := i) (decide_eq_false h)]
theorem zVec_put {S C : Nat} {n : Nat → Nat} {mk ct ps kn cx : Nat → Nat → Nat} (hG : zG S C n mk ct ps kn cx) (k sv : Nat) : zVec (ct k) (zHit (zU mk k (n k) sv k) (kn k sv) sv) (n k) + 1 = 1 + cn (fun v => decide (mk k v = sv)) (n k) := by
  obtain ⟨-, -, -, -, -, -, -, hcn, hkw⟩ := hG
  rw [zVec_congr (h2 := zHit (mk k) (kn k sv) sv) (fun w hw => by unfold zHit; rw [zU_k, zu_n _ _ (Nat.ne_of_lt hw)]), zVec_own (hcn k) (fun w hw e => by rw [← e]; exact hkw k w hw) (n k) (Nat.le_refl _), Nat.add_comm]
end
section
set_option maxHeartbeats 4000000 in
set_option maxRecDepth 100000 in
/-- get -/
theorem c_X0_get (l : Launch) (dC : Nat → ClassId) (dI : Nat → Nat → Nat) (ad : Nat → Nat) (cI cJ cII cJJ : ClassId) (S C : Nat) (n : Nat → Nat) (va : Nat → Nat → Int32) (mk ct ps kn cx : Nat → Nat → Nat) (hG : zG S C n mk ct ps kn cx) (x1 x2 x3 : Int32) (sz : Nat) : Met l yX0_get wsX0_get ({ frames := 2, cells := 0, slots := 0, locals := 48 }) (va_Pc [.ref (ad 0), .int x1, .int x2, .int x3] (xC dC dI ad cI cJ cII cJJ S C n va mk ct ps kn cx sz)) (va_Qi (fun (r : Int32) (u : Nat → Nat → Nat) => r = aGet S C n ps kn x1 x2 x3 ∧ u = uGet S C kn cx x1 x2 x3) (fun u t => xE (va_A (xw ad cI cJ cII cJJ S C n va mk ct ps kn cx) sz) dC dI ad cI cJ cII cJJ S C n va mk ct ps kn u t) (va_A (xw ad cI cJ cII cJJ S C n va mk ct ps kn cx) sz)) 0 0 (va_A (xw ad cI cJ cII cJJ S C n va mk ct ps kn cx) sz) := by
  refine Met.ofW (cc := cX0_get) (maxL := 4) (ret := (some .int)) (by decide) rfl ?_
  intro p e s m args below meth c s₁ B hml hv
  obtain ⟨rfl, hsz, hP, hK, hD0⟩ := hv
  have hx := B.exec
  have hb := B.bytes
  have hr := B.returns
  have hts := atoms_spec (ws := wsX0_get) B.pre
  have hown : s.vm.findClass RX0 = some m.cls := findClass_of_methodNamed B.named
  have hlocks := B.notSynchronized
  have hin0 : ∀ w ∈ wsX00, w ∈ wsX0_get := fun _ h => List.mem_cons_of_mem _ (List.mem_append_right _ h)
  subst hsz
  have hD := hD0.self (sz := s.heap.size)
  generalize hAe : va_A (xw ad cI cJ cII cJJ S C n va mk ct ps kn cx) s.heap.size = A at hD ⊢
  have hS : va_S A s.heap s.heap [] := va_S.rf
  have hl := lv_entry ([.ref (ad 0), .int x1, .int x2, .int x3]) (n := 4) (Nat.le_of_ble_eq_true rfl)
  rw [lg_entry_eq]
  generalize (lg_sl ([.ref (ad 0), .int x1, .int x2, .int x3]) ++ List.replicate (4 - (lg_sl ([.ref (ad 0), .int x1, .int x2, .int x3])).length) Slot.unset).toArray = ls at hl ⊢
  have hl : lv_has ls 4 [(0, .ref (ad 0)), (1, .int x1), (2, .int x2), (3, .int x3)] := hl
  obtain ⟨⟨hS1, hS4, hC1, hC4⟩, hn, hmk, hct, hps, hkn, hcx, hcn, hkw⟩ := hG
  refine lv_aload_n hx hb dX0_get_0 rfl (lv_at hl 0 rfl) ?_
  refine lv_iload_n hx hb dX0_get_1 rfl (lv_at hl 1 rfl) ?_
  refine vp_callSi (W.runV (As := [.int x1]) (rest := []) ⟨hx, hb, hml, hown, hts⟩ (c_X0_isServer l dC dI ad cI cJ cII cJJ S C n va mk ct ps kn cx (by omega) x1) (cwV 1 hts gX0_get_X0_isServer rfl rfl rfl (by decide +kernel) ⟨Nat.le_of_ble_eq_true rfl, Nat.le_of_ble_eq_true rfl⟩) ⟨xB_blind, va_recv hK hP (ci := 0) (q0 := 0) rfl rfl, fun U hU hW => ⟨rfl, xB_at hP hK hU hW⟩⟩ rfl rfl hl.1 rfl (lv_room (Nat.le_of_ble_eq_true rfl)) dX0_get_2 ⟨Nat.le_of_ble_eq_true rfl, Nat.le_of_ble_eq_true rfl⟩) (fun r hq => ?_)
  rcases hq with ⟨rfl, sv, hsv, rfl, hdx1⟩ | ⟨rfl, hdx1⟩
  ·
    refine lv_if_eq (tgt := 23) hx hb dX0_get_5 (by decide) (fun q => absurd q (by decide)) (fun _ => ?_)
    refine lv_aload_n hx hb dX0_get_8 rfl (lv_at hl 0 rfl) ?_
    refine lv_iload_n hx hb dX0_get_9 rfl (lv_at hl 2 rfl) ?_
    refine vp_callSi (W.runV (As := [.int x2]) (rest := []) ⟨hx, hb, hml, hown, hts⟩ (c_X0_isClient l dC dI ad cI cJ cII cJJ S C n va mk ct ps kn cx (by omega) x2) (cwV 1 hts gX0_get_X0_isClient rfl rfl rfl (by decide +kernel) ⟨Nat.le_of_ble_eq_true rfl, Nat.le_of_ble_eq_true rfl⟩) ⟨xB_blind, va_recv hK hP (ci := 0) (q0 := 0) rfl rfl, fun U hU hW => ⟨rfl, xB_at hP hK hU hW⟩⟩ rfl rfl hl.1 rfl (lv_room (Nat.le_of_ble_eq_true rfl)) dX0_get_10 ⟨Nat.le_of_ble_eq_true rfl, Nat.le_of_ble_eq_true rfl⟩) (fun r hq => ?_)
    rcases hq with ⟨rfl, cl, hcl, rfl, hdx2⟩ | ⟨rfl, hdx2⟩
    ·
      refine lv_if_eq (tgt := 23) hx hb dX0_get_13 (by decide) (fun q => absurd q (by decide)) (fun _ => ?_)
      refine lv_iload_n hx hb dX0_get_16 rfl (lv_at hl 3 rfl) ?_
      refine vp_callSi (W.runS (As := [.int x3]) (rest := []) ⟨hx, hb, hml, hown, hts⟩ (c_X0_isKey l x3) (va_cwS 1 hts gX0_get_X0_isKey rfl rfl rfl (by decide +kernel) ⟨Nat.le_of_ble_eq_true rfl, Nat.le_of_ble_eq_true rfl⟩) ⟨zB_blind, fun U hU hW => ⟨rfl, trivial⟩⟩ rfl rfl hl.1 rfl (lv_room (Nat.le_of_ble_eq_true rfl)) dX0_get_17 ⟨Nat.le_of_ble_eq_true rfl, Nat.le_of_ble_eq_true rfl⟩) (fun r hq => ?_)
      rcases hq with ⟨rfl, ky, hky, rfl, hdx3⟩ | ⟨rfl, hdx3⟩
      ·
        refine lv_if_ne (tgt := 25) hx hb dX0_get_20 (by decide) (fun _ => ?_) (fun q => absurd q (by decide))
        refine lv_aload_n hx hb dX0_get_25 rfl (lv_at hl 0 rfl) ?_
        refine va_get (D := (dC, dI)) (ci := 0) (v := .ref (ad 7)) (C := RX0) (T := TX0) (N := 9) hx hb hts hin0 hown hK hP 0 rfl rfl 8 (by decide) (hts (.fieldLink RX0 45 "DottedSiblings" "contextSets" "[[J") (by decide +kernel)) (fun _ h9 => h9) rfl dX0_get_26 ?_
        refine lv_iload_n hx hb dX0_get_29 rfl (lv_at hl 3 rfl) ?_
        refine zr_aald (r := ad (23 + ky)) hx hb hK hP 7 3 rfl rfl (by omega) (by decide) (zo_at ad 23 (by omega)) dX0_get_30 ?_
        refine lv_iload_n hx hb dX0_get_31 rfl (lv_at hl 2 rfl) ?_
        refine lv_aload_n hx hb dX0_get_32 rfl (lv_at hl 0 rfl) ?_
        refine va_get (D := (dC, dI)) (ci := 0) (v := .ref (ad 6)) (C := RX0) (T := TX0) (N := 9) hx hb hts hin0 hown hK hP 0 rfl rfl 7 (by decide) (hts (.fieldLink RX0 42 "DottedSiblings" "knownSets" "[[J") (by decide +kernel)) (fun _ h9 => h9) rfl dX0_get_33 ?_
        refine lv_iload_n hx hb dX0_get_36 rfl (lv_at hl 3 rfl) ?_
        refine zr_aald (r := ad (20 + ky)) hx hb hK hP 6 3 rfl rfl (by omega) (by decide) (zo_at ad 20 (by omega)) dX0_get_37 ?_
        refine lv_iload_n hx hb dX0_get_38 rfl (lv_at hl 1 rfl) ?_
        refine zr_lald (v := lN (kn ky sv)) hx hb hK hP (20 + ky) 1 (xw_kn (by omega)) rfl (by omega) (by omega) rfl dX0_get_39 ?_
        refine zr_last hx hb hK hP hD hS (23 + ky) 1 (xw_cx (by omega)) rfl (by omega) (by omega) (xs_cx (by omega) _ _) dX0_get_40 (fun H locs hP hD hS => ?_)
        refine lv_aload_n hx hb dX0_get_41 rfl (lv_at hl 0 rfl) ?_
        refine lv_iload_n hx hb dX0_get_42 rfl (lv_at hl 3 rfl) ?_
        refine lv_aload_n hx hb dX0_get_43 rfl (lv_at hl 0 rfl) ?_
        refine va_get (D := (dC, dI)) (ci := 0) (v := .ref (ad 6)) (C := RX0) (T := TX0) (N := 9) hx hb hts hin0 hown hK hP 0 rfl rfl 7 (by decide) (hts (.fieldLink RX0 42 "DottedSiblings" "knownSets" "[[J") (by decide +kernel)) (fun _ h9 => h9) rfl dX0_get_44 ?_
        refine lv_iload_n hx hb dX0_get_47 rfl (lv_at hl 3 rfl) ?_
        refine zr_aald (r := ad (20 + ky)) hx hb hK hP 6 3 rfl rfl (by omega) (by decide) (zo_at ad 20 (by omega)) dX0_get_48 ?_
        refine lv_iload_n hx hb dX0_get_49 rfl (lv_at hl 1 rfl) ?_
        refine zr_lald (v := lN (kn ky sv)) hx hb hK hP (20 + ky) 1 (xw_kn (by omega)) rfl (by omega) (by omega) rfl dX0_get_50 ?_
        refine vp_callSl (W.runV (As := [.int (nI ky), .long (lN (kn ky sv))]) (rest := []) ⟨hx, hb, hml, hown, hts⟩ (c_X0_greatestOf l dC dI ad cI cJ cII cJJ S C n va mk ct ps kn (zU cx ky cl (kn ky sv)) ky (kn ky sv) (by omega) (Nat.lt_trans (z40 (hkn _ _) (hn _)) (by decide)) (hn _)) (cwV 2 hts gX0_get_X0_greatestOf rfl rfl rfl (by decide +kernel) ⟨Nat.le_of_ble_eq_true rfl, Nat.le_of_ble_eq_true rfl⟩) ⟨xB_blind, va_recv hK hP (ci := 0) (q0 := 0) rfl rfl, fun U hU hW => ⟨rfl, xB_at hP hK hU hW⟩⟩ rfl rfl hl.1 rfl (lv_room (Nat.le_of_ble_eq_true rfl)) dX0_get_51 ⟨Nat.le_of_ble_eq_true rfl, Nat.le_of_ble_eq_true rfl⟩) (fun r hq => ?_)
        subst hq
        refine vp_callSi (W.runS (As := [.long (lN (zNew (n ky) (ps ky) (kn ky sv)))]) (rest := []) ⟨hx, hb, hml, hown, hts⟩ (c_J13_bitCount_95d88 l (zNew (n ky) (ps ky) (kn ky sv)) (Nat.lt_trans (Nat.lt_of_le_of_lt (zNew_le _ _ _) (z40 (hkn _ _) (hn _))) (by decide))) (va_cwS 1 hts gX0_get_J13_bitCount_95d88 rfl rfl rfl (by decide +kernel) ⟨Nat.le_of_ble_eq_true rfl, Nat.le_of_ble_eq_true rfl⟩) ⟨zB_blind, fun U hU hW => ⟨rfl, trivial⟩⟩ rfl rfl hl.1 rfl (lv_room (Nat.le_of_ble_eq_true rfl)) dX0_get_54 ⟨Nat.le_of_ble_eq_true rfl, Nat.le_of_ble_eq_true rfl⟩) (fun r hq => ?_)
        have hq := hq.trans (congrArg nI (zSize64 (Nat.lt_of_le_of_lt (zNew_le _ _ _) (z40 (hkn _ _) (hn _)))))
        subst hq
        exact W.iret (v := nI (zSize (zNew (n ky) (ps ky) (kn ky sv)))) hx hb hr (fun t ht hW => ⟨⟨_, (zU cx ky cl (kn ky sv)), rfl, ⟨(by first | exact (zq3_1 hdx1).symm | exact (zq3_2 hdx2).symm | exact (zq3_3 hdx3).symm | exact (by unfold aGet; rw [zq3_s hdx1 hdx2 hdx3]; first | done | rfl)), (by first | exact (zq3_1 hdx1).symm | exact (zq3_2 hdx2).symm | exact (zq3_3 hdx3).symm | exact (by unfold uGet; rw [zq3_s hdx1 hdx2 hdx3]; first | done | rfl))⟩, by rw [ht]; exact hP, va_K.moved hW.alike hK, hD⟩, hS.F ht⟩) hS.2.2 dX0_get_57
      ·
        refine lv_if_ne (tgt := 25) hx hb dX0_get_20 (by decide) (fun q => absurd q (by decide)) (fun _ => ?_)
        refine lv_iconst (v := (-1)) hx hb dX0_get_23 (by decide) ?_
        exact W.iret (v := (-1)) hx hb hr (fun t ht hW => ⟨⟨_, cx, rfl, ⟨(by first | exact (zq3_1 hdx1).symm | exact (zq3_2 hdx2).symm | exact (zq3_3 hdx3).symm | exact (by unfold aGet; rw [zq3_s hdx1 hdx2 hdx3]; first | done | rfl)), (by first | exact (zq3_1 hdx1).symm | exact (zq3_2 hdx2).symm | exact (zq3_3 hdx3).symm | exact (by unfold uGet; rw [zq3_s hdx1 hdx2 hdx3]; first | done | rfl))⟩, by rw [ht]; exact hP, va_K.moved hW.alike hK, hD⟩, hS.F ht⟩) hS.2.2 dX0_get_24
    ·
      refine lv_if_eq (tgt := 23) hx hb dX0_get_13 (by decide) (fun _ => ?_) (fun q => absurd q (by decide))
      refine lv_iconst (v := (-1)) hx hb dX0_get_23 (by decide) ?_
      exact W.iret (v := (-1)) hx hb hr (fun t ht hW => ⟨⟨_, cx, rfl, ⟨(by first | exact (zq3_1 hdx1).symm | exact (zq3_2 hdx2).symm | exact (zq3_3 hdx3).symm | exact (by unfold aGet; rw [zq3_s hdx1 hdx2 hdx3]; first | done | rfl)), (by first | exact (zq3_1 hdx1).symm | exact (zq3_2 hdx2).symm | exact (zq3_3 hdx3).symm | exact (by unfold uGet; rw [zq3_s hdx1 hdx2 hdx3]; first | done | rfl))⟩, by rw [ht]; exact hP, va_K.moved hW.alike hK, hD⟩, hS.F ht⟩) hS.2.2 dX0_get_24
  ·
    refine lv_if_eq (tgt := 23) hx hb dX0_get_5 (by decide) (fun _ => ?_) (fun q => absurd q (by decide))
    refine lv_iconst (v := (-1)) hx hb dX0_get_23 (by decide) ?_
    exact W.iret (v := (-1)) hx hb hr (fun t ht hW => ⟨⟨_, cx, rfl, ⟨(by first | exact (zq3_1 hdx1).symm | exact (zq3_2 hdx2).symm | exact (zq3_3 hdx3).symm | exact (by unfold aGet; rw [zq3_s hdx1 hdx2 hdx3]; first | done | rfl)), (by first | exact (zq3_1 hdx1).symm | exact (zq3_2 hdx2).symm | exact (zq3_3 hdx3).symm | exact (by unfold uGet; rw [zq3_s hdx1 hdx2 hdx3]; first | done | rfl))⟩, by rw [ht]; exact hP, va_K.moved hW.alike hK, hD⟩, hS.F ht⟩) hS.2.2 dX0_get_24
set_option maxHeartbeats 4000000 in
set_option maxRecDepth 100000 in
/-- forget -/
theorem c_X0_forget (l : Launch) (dC : Nat → ClassId) (dI : Nat → Nat → Nat) (ad : Nat → Nat) (cI cJ cII cJJ : ClassId) (S C : Nat) (n : Nat → Nat) (va : Nat → Nat → Int32) (mk ct ps kn cx : Nat → Nat → Nat) (hG : zG S C n mk ct ps kn cx) (x1 x2 : Int32) (sz : Nat) : Met l yX0_forget wsX0_forget ({ frames := 1, cells := 0, slots := 0, locals := 21 }) (va_Pc [.ref (ad 0), .int x1, .int x2] (xC dC dI ad cI cJ cII cJJ S C n va mk ct ps kn cx sz)) (va_Qi (fun (r : Int32) (u : Nat → Nat → Nat) => r = aForget C x1 x2 ∧ u = uForget C cx x1 x2) (fun u t => xE (va_A (xw ad cI cJ cII cJJ S C n va mk ct ps kn cx) sz) dC dI ad cI cJ cII cJJ S C n va mk ct ps kn u t) (va_A (xw ad cI cJ cII cJJ S C n va mk ct ps kn cx) sz)) 0 0 (va_A (xw ad cI cJ cII cJJ S C n va mk ct ps kn cx) sz) := by
  refine Met.ofW (cc := cX0_forget) (maxL := 3) (ret := (some .boolean)) (by decide) rfl ?_
  intro p e s m args below meth c s₁ B hml hv
  obtain ⟨rfl, hsz, hP, hK, hD0⟩ := hv
  have hx := B.exec
  have hb := B.bytes
  have hr := B.returns
  have hts := atoms_spec (ws := wsX0_forget) B.pre
  have hown : s.vm.findClass RX0 = some m.cls := findClass_of_methodNamed B.named
  have hlocks := B.notSynchronized
  have hin0 : ∀ w ∈ wsX00, w ∈ wsX0_forget := fun _ h => List.mem_cons_of_mem _ (List.mem_append_right _ h)
  subst hsz
  have hD := hD0.self (sz := s.heap.size)
  generalize hAe : va_A (xw ad cI cJ cII cJJ S C n va mk ct ps kn cx) s.heap.size = A at hD ⊢
  have hS : va_S A s.heap s.heap [] := va_S.rf
  have hl := lv_entry ([.ref (ad 0), .int x1, .int x2]) (n := 3) (Nat.le_of_ble_eq_true rfl)
  rw [lg_entry_eq]
  generalize (lg_sl ([.ref (ad 0), .int x1, .int x2]) ++ List.replicate (3 - (lg_sl ([.ref (ad 0), .int x1, .int x2])).length) Slot.unset).toArray = ls at hl ⊢
  have hl : lv_has ls 3 [(0, .ref (ad 0)), (1, .int x1), (2, .int x2)] := hl
  obtain ⟨⟨hS1, hS4, hC1, hC4⟩, hn, hmk, hct, hps, hkn, hcx, hcn, hkw⟩ := hG
  refine lv_aload_n hx hb dX0_forget_0 rfl (lv_at hl 0 rfl) ?_
  refine lv_iload_n hx hb dX0_forget_1 rfl (lv_at hl 1 rfl) ?_
  refine vp_callSi (W.runV (As := [.int x1]) (rest := []) ⟨hx, hb, hml, hown, hts⟩ (c_X0_isClient l dC dI ad cI cJ cII cJJ S C n va mk ct ps kn cx (by omega) x1) (cwV 1 hts gX0_forget_X0_isClient rfl rfl rfl (by decide +kernel) ⟨Nat.le_of_ble_eq_true rfl, Nat.le_of_ble_eq_true rfl⟩) ⟨xB_blind, va_recv hK hP (ci := 0) (q0 := 0) rfl rfl, fun U hU hW => ⟨rfl, xB_at hP hK hU hW⟩⟩ rfl rfl hl.1 rfl (lv_room (Nat.le_of_ble_eq_true rfl)) dX0_forget_2 ⟨Nat.le_of_ble_eq_true rfl, Nat.le_of_ble_eq_true rfl⟩) (fun r hq => ?_)
  rcases hq with ⟨rfl, cl, hcl, rfl, hdx1⟩ | ⟨rfl, hdx1⟩
  ·
    refine lv_if_eq (tgt := 15) hx hb dX0_forget_5 (by decide) (fun q => absurd q (by decide)) (fun _ => ?_)
    refine lv_iload_n hx hb dX0_forget_8 rfl (lv_at hl 2 rfl) ?_
    refine vp_callSi (W.runS (As := [.int x2]) (rest := []) ⟨hx, hb, hml, hown, hts⟩ (c_X0_isKey l x2) (va_cwS 1 hts gX0_forget_X0_isKey rfl rfl rfl (by decide +kernel) ⟨Nat.le_of_ble_eq_true rfl, Nat.le_of_ble_eq_true rfl⟩) ⟨zB_blind, fun U hU hW => ⟨rfl, trivial⟩⟩ rfl rfl hl.1 rfl (lv_room (Nat.le_of_ble_eq_true rfl)) dX0_forget_9 ⟨Nat.le_of_ble_eq_true rfl, Nat.le_of_ble_eq_true rfl⟩) (fun r hq => ?_)
    rcases hq with ⟨rfl, ky, hky, rfl, hdx2⟩ | ⟨rfl, hdx2⟩
    ·
      refine lv_if_ne (tgt := 17) hx hb dX0_forget_12 (by decide) (fun _ => ?_) (fun q => absurd q (by decide))
      refine lv_aload_n hx hb dX0_forget_17 rfl (lv_at hl 0 rfl) ?_
      refine va_get (D := (dC, dI)) (ci := 0) (v := .ref (ad 7)) (C := RX0) (T := TX0) (N := 9) hx hb hts hin0 hown hK hP 0 rfl rfl 8 (by decide) (hts (.fieldLink RX0 45 "DottedSiblings" "contextSets" "[[J") (by decide +kernel)) (fun _ h9 => h9) rfl dX0_forget_18 ?_
      refine lv_iload_n hx hb dX0_forget_21 rfl (lv_at hl 2 rfl) ?_
      refine zr_aald (r := ad (23 + ky)) hx hb hK hP 7 3 rfl rfl (by omega) (by decide) (zo_at ad 23 (by omega)) dX0_forget_22 ?_
      refine lv_iload_n hx hb dX0_forget_23 rfl (lv_at hl 1 rfl) ?_
      refine lv_lconst (v := lN 0) hx hb dX0_forget_24 (by decide) ?_
      refine zr_last hx hb hK hP hD hS (23 + ky) 1 (xw_cx (by omega)) rfl (by omega) (by omega) (xs_cx (by omega) _ _) dX0_forget_25 (fun H locs hP hD hS => ?_)
      refine lv_iconst (v := nI 1) hx hb dX0_forget_26 (by decide) ?_
      exact W.zret (v := nI 1) hx hb hr (by first | rfl | decide) (fun t ht hW => ⟨⟨_, (zU cx ky cl 0), rfl, ⟨(by first | exact (zq2_1 hdx1).symm | exact (zq2_2 hdx2).symm | exact (by unfold aForget; rw [zq2_s hdx1 hdx2]; first | done | rfl)), (by first | exact (zq2_1 hdx1).symm | exact (zq2_2 hdx2).symm | exact (by unfold uForget; rw [zq2_s hdx1 hdx2]; first | done | rfl))⟩, by rw [ht]; exact hP, va_K.moved hW.alike hK, hD⟩, hS.F ht⟩) hS.2.2 dX0_forget_27
    ·
      refine lv_if_ne (tgt := 17) hx hb dX0_forget_12 (by decide) (fun q => absurd q (by decide)) (fun _ => ?_)
      refine lv_iconst (v := nI 0) hx hb dX0_forget_15 (by decide) ?_
      exact W.zret (v := nI 0) hx hb hr (by first | rfl | decide) (fun t ht hW => ⟨⟨_, cx, rfl, ⟨(by first | exact (zq2_1 hdx1).symm | exact (zq2_2 hdx2).symm | exact (by unfold aForget; rw [zq2_s hdx1 hdx2]; first | done | rfl)), (by first | exact (zq2_1 hdx1).symm | exact (zq2_2 hdx2).symm | exact (by unfold uForget; rw [zq2_s hdx1 hdx2]; first | done | rfl))⟩, by rw [ht]; exact hP, va_K.moved hW.alike hK, hD⟩, hS.F ht⟩) hS.2.2 dX0_forget_16
  ·
    refine lv_if_eq (tgt := 15) hx hb dX0_forget_5 (by decide) (fun _ => ?_) (fun q => absurd q (by decide))
    refine lv_iconst (v := nI 0) hx hb dX0_forget_15 (by decide) ?_
    exact W.zret (v := nI 0) hx hb hr (by first | rfl | decide) (fun t ht hW => ⟨⟨_, cx, rfl, ⟨(by first | exact (zq2_1 hdx1).symm | exact (zq2_2 hdx2).symm | exact (by unfold aForget; rw [zq2_s hdx1 hdx2]; first | done | rfl)), (by first | exact (zq2_1 hdx1).symm | exact (zq2_2 hdx2).symm | exact (by unfold uForget; rw [zq2_s hdx1 hdx2]; first | done | rfl))⟩, by rw [ht]; exact hP, va_K.moved hW.alike hK, hD⟩, hS.F ht⟩) hS.2.2 dX0_forget_16
set_option maxHeartbeats 4000000 in
set_option maxRecDepth 100000 in
/-- sync -/
theorem c_X0_sync (l : Launch) (dC : Nat → ClassId) (dI : Nat → Nat → Nat) (ad : Nat → Nat) (cI cJ cII cJJ : ClassId) (S C : Nat) (n : Nat → Nat) (va : Nat → Nat → Int32) (mk ct ps kn cx : Nat → Nat → Nat) (hG : zG S C n mk ct ps kn cx) (x1 x2 x3 : Int32) (sz : Nat) : Met l yX0_sync wsX0_sync ({ frames := 1, cells := 0, slots := 0, locals := 21 }) (va_Pc [.ref (ad 0), .int x1, .int x2, .int x3] (xC dC dI ad cI cJ cII cJJ S C n va mk ct ps kn cx sz)) (va_Qi (fun (r : Int32) (u : Nat → Nat → Nat) => r = aSync S x1 x2 x3 ∧ u = uSync S kn x1 x2 x3) (fun u t => xE (va_A (xw ad cI cJ cII cJJ S C n va mk ct ps kn cx) sz) dC dI ad cI cJ cII cJJ S C n va mk ct ps u cx t) (va_A (xw ad cI cJ cII cJJ S C n va mk ct ps kn cx) sz)) 0 0 (va_A (xw ad cI cJ cII cJJ S C n va mk ct ps kn cx) sz) := by
  refine Met.ofW (cc := cX0_sync) (maxL := 6) (ret := (some .boolean)) (by decide) rfl ?_
  intro p e s m args below meth c s₁ B hml hv
  obtain ⟨rfl, hsz, hP, hK, hD0⟩ := hv
  have hx := B.exec
  have hb := B.bytes
  have hr := B.returns
  have hts := atoms_spec (ws := wsX0_sync) B.pre
  have hown : s.vm.findClass RX0 = some m.cls := findClass_of_methodNamed B.named
  have hlocks := B.notSynchronized
  have hin0 : ∀ w ∈ wsX00, w ∈ wsX0_sync := fun _ h => List.mem_cons_of_mem _ (List.mem_append_right _ h)
  subst hsz
  have hD := hD0.self (sz := s.heap.size)
  generalize hAe : va_A (xw ad cI cJ cII cJJ S C n va mk ct ps kn cx) s.heap.size = A at hD ⊢
  have hS : va_S A s.heap s.heap [] := va_S.rf
  have hl := lv_entry ([.ref (ad 0), .int x1, .int x2, .int x3]) (n := 6) (Nat.le_of_ble_eq_true rfl)
  rw [lg_entry_eq]
  generalize (lg_sl ([.ref (ad 0), .int x1, .int x2, .int x3]) ++ List.replicate (6 - (lg_sl ([.ref (ad 0), .int x1, .int x2, .int x3])).length) Slot.unset).toArray = ls at hl ⊢
  have hl : lv_has ls 6 [(0, .ref (ad 0)), (1, .int x1), (2, .int x2), (3, .int x3)] := hl
  obtain ⟨⟨hS1, hS4, hC1, hC4⟩, hn, hmk, hct, hps, hkn, hcx, hcn, hkw⟩ := hG
  refine lv_aload_n hx hb dX0_sync_0 rfl (lv_at hl 0 rfl) ?_
  refine lv_iload_n hx hb dX0_sync_1 rfl (lv_at hl 1 rfl) ?_
  refine vp_callSi (W.runV (As := [.int x1]) (rest := []) ⟨hx, hb, hml, hown, hts⟩ (c_X0_isServer l dC dI ad cI cJ cII cJJ S C n va mk ct ps kn cx (by omega) x1) (cwV 1 hts gX0_sync_X0_isServer rfl rfl rfl (by decide +kernel) ⟨Nat.le_of_ble_eq_true rfl, Nat.le_of_ble_eq_true rfl⟩) ⟨xB_blind, va_recv hK hP (ci := 0) (q0 := 0) rfl rfl, fun U hU hW => ⟨rfl, xB_at hP hK hU hW⟩⟩ rfl rfl hl.1 rfl (lv_room (Nat.le_of_ble_eq_true rfl)) dX0_sync_2 ⟨Nat.le_of_ble_eq_true rfl, Nat.le_of_ble_eq_true rfl⟩) (fun r hq => ?_)
  rcases hq with ⟨rfl, sa, hsa, rfl, hdx1⟩ | ⟨rfl, hdx1⟩
  ·
    refine lv_if_eq (tgt := 28) hx hb dX0_sync_5 (by decide) (fun q => absurd q (by decide)) (fun _ => ?_)
    refine lv_aload_n hx hb dX0_sync_8 rfl (lv_at hl 0 rfl) ?_
    refine lv_iload_n hx hb dX0_sync_9 rfl (lv_at hl 2 rfl) ?_
    refine vp_callSi (W.runV (As := [.int x2]) (rest := []) ⟨hx, hb, hml, hown, hts⟩ (c_X0_isServer l dC dI ad cI cJ cII cJJ S C n va mk ct ps kn cx (by omega) x2) (cwV 1 hts gX0_sync_X0_isServer rfl rfl rfl (by decide +kernel) ⟨Nat.le_of_ble_eq_true rfl, Nat.le_of_ble_eq_true rfl⟩) ⟨xB_blind, va_recv hK hP (ci := 0) (q0 := 0) rfl rfl, fun U hU hW => ⟨rfl, xB_at hP hK hU hW⟩⟩ rfl rfl hl.1 rfl (lv_room (Nat.le_of_ble_eq_true rfl)) dX0_sync_10 ⟨Nat.le_of_ble_eq_true rfl, Nat.le_of_ble_eq_true rfl⟩) (fun r hq => ?_)
    rcases hq with ⟨rfl, sb, hsb, rfl, hdx2⟩ | ⟨rfl, hdx2⟩
    ·
      refine lv_if_eq (tgt := 28) hx hb dX0_sync_13 (by decide) (fun q => absurd q (by decide)) (fun _ => ?_)
      refine lv_iload_n hx hb dX0_sync_16 rfl (lv_at hl 1 rfl) ?_
      refine lv_iload_n hx hb dX0_sync_17 rfl (lv_at hl 2 rfl) ?_
      refine zr_ieq (tgt := 28) hx hb (by omega) (by omega) dX0_sync_18 (by decide) (fun c18 => ?_) (fun c18 => ?_)
      ·
        refine lv_iconst (v := nI 0) hx hb dX0_sync_28 (by decide) ?_
        exact W.zret (v := nI 0) hx hb hr (by first | rfl | decide) (fun t ht hW => ⟨⟨_, kn, rfl, ⟨(by first | exact (zq3_1 hdx1).symm | exact (zq3_2 hdx2).symm | exact (zq3_3 hdx3).symm | exact (by unfold aSync; rw [zq3_s hdx1 hdx2 hdx3, if_neg c18]; first | done | rfl) | exact (by unfold aSync; rw [hdx1, hdx2]; cases zD 3 x3 <;> simp [zq3, c18, nI_0])), (by first | exact (zq3_1 hdx1).symm | exact (zq3_2 hdx2).symm | exact (zq3_3 hdx3).symm | exact (by unfold uSync; rw [zq3_s hdx1 hdx2 hdx3, if_neg c18]; first | done | rfl) | exact (by unfold uSync; rw [hdx1, hdx2]; cases zD 3 x3 <;> simp [zq3, c18]))⟩, by rw [ht]; exact hP, va_K.moved hW.alike hK, hD⟩, hS.F ht⟩) hS.2.2 dX0_sync_29
      ·
        refine lv_iload_n hx hb dX0_sync_21 rfl (lv_at hl 3 rfl) ?_
        refine vp_callSi (W.runS (As := [.int x3]) (rest := []) ⟨hx, hb, hml, hown, hts⟩ (c_X0_isKey l x3) (va_cwS 1 hts gX0_sync_X0_isKey rfl rfl rfl (by decide +kernel) ⟨Nat.le_of_ble_eq_true rfl, Nat.le_of_ble_eq_true rfl⟩) ⟨zB_blind, fun U hU hW => ⟨rfl, trivial⟩⟩ rfl rfl hl.1 rfl (lv_room (Nat.le_of_ble_eq_true rfl)) dX0_sync_22 ⟨Nat.le_of_ble_eq_true rfl, Nat.le_of_ble_eq_true rfl⟩) (fun r hq => ?_)
        rcases hq with ⟨rfl, ky, hky, rfl, hdx3⟩ | ⟨rfl, hdx3⟩
        ·
          refine lv_if_ne (tgt := 30) hx hb dX0_sync_25 (by decide) (fun _ => ?_) (fun q => absurd q (by decide))
          refine lv_aload_n hx hb dX0_sync_30 rfl (lv_at hl 0 rfl) ?_
          refine va_get (D := (dC, dI)) (ci := 0) (v := .ref (ad 6)) (C := RX0) (T := TX0) (N := 9) hx hb hts hin0 hown hK hP 0 rfl rfl 7 (by decide) (hts (.fieldLink RX0 42 "DottedSiblings" "knownSets" "[[J") (by decide +kernel)) (fun _ h9 => h9) rfl dX0_sync_31 ?_
          refine lv_iload_n hx hb dX0_sync_34 rfl (lv_at hl 3 rfl) ?_
          refine zr_aald (r := ad (20 + ky)) hx hb hK hP 6 3 rfl rfl (by omega) (by decide) (zo_at ad 20 (by omega)) dX0_sync_35 ?_
          refine lv_iload_n hx hb dX0_sync_36 rfl (lv_at hl 1 rfl) ?_
          refine zr_lald (v := lN (kn ky sa)) hx hb hK hP (20 + ky) 1 (xw_kn (by omega)) rfl (by omega) (by omega) rfl dX0_sync_37 ?_
          refine lv_aload_n hx hb dX0_sync_38 rfl (lv_at hl 0 rfl) ?_
          refine va_get (D := (dC, dI)) (ci := 0) (v := .ref (ad 6)) (C := RX0) (T := TX0) (N := 9) hx hb hts hin0 hown hK hP 0 rfl rfl 7 (by decide) (hts (.fieldLink RX0 42 "DottedSiblings" "knownSets" "[[J") (by decide +kernel)) (fun _ h9 => h9) rfl dX0_sync_39 ?_
          refine lv_iload_n hx hb dX0_sync_42 rfl (lv_at hl 3 rfl) ?_
          refine zr_aald (r := ad (20 + ky)) hx hb hK hP 6 3 rfl rfl (by omega) (by decide) (zo_at ad 20 (by omega)) dX0_sync_43 ?_
          refine lv_iload_n hx hb dX0_sync_44 rfl (lv_at hl 2 rfl) ?_
          refine zr_lald (v := lN (kn ky sb)) hx hb hK hP (20 + ky) 1 (xw_kn (by omega)) rfl (by omega) (by omega) rfl dX0_sync_45 ?_
          refine zr_lor hx hb dX0_sync_46 ?_
          refine lv_lstore (lv' := [(4, .long (lN ((kn ky sa) ||| (kn ky sb)))), (0, .ref (ad 0)), (1, .int (nI sa)), (2, .int (nI sb)), (3, .int (nI ky))]) hx hb dX0_sync_47 hl (by decide) rfl (fun ls hl => ?_)
          refine lv_aload_n hx hb dX0_sync_49 rfl (lv_at hl 1 rfl) ?_
          refine va_get (D := (dC, dI)) (ci := 0) (v := .ref (ad 6)) (C := RX0) (T := TX0) (N := 9) hx hb hts hin0 hown hK hP 0 rfl rfl 7 (by decide) (hts (.fieldLink RX0 42 "DottedSiblings" "knownSets" "[[J") (by decide +kernel)) (fun _ h9 => h9) rfl dX0_sync_50 ?_
          refine lv_iload_n hx hb dX0_sync_53 rfl (lv_at hl 4 rfl) ?_
          refine zr_aald (r := ad (20 + ky)) hx hb hK hP 6 3 rfl rfl (by omega) (by decide) (zo_at ad 20 (by omega)) dX0_sync_54 ?_
          refine lv_iload_n hx hb dX0_sync_55 rfl (lv_at hl 2 rfl) ?_
          refine lv_lload hx hb dX0_sync_56 (lv_at hl 0 rfl) ?_
          refine zr_last hx hb hK hP hD hS (20 + ky) 1 (xw_kn (by omega)) rfl (by omega) (by omega) (xs_kn (by omega) _ _) dX0_sync_58 (fun H locs hP hD hS => ?_)
          refine lv_aload_n hx hb dX0_sync_59 rfl (lv_at hl 1 rfl) ?_
          refine va_get (D := (dC, dI)) (ci := 0) (v := .ref (ad 6)) (C := RX0) (T := TX0) (N := 9) hx hb hts hin0 hown hK hP 0 rfl rfl 7 (by decide) (hts (.fieldLink RX0 42 "DottedSiblings" "knownSets" "[[J") (by decide +kernel)) (fun _ h9 => h9) rfl dX0_sync_60 ?_
          refine lv_iload_n hx hb dX0_sync_63 rfl (lv_at hl 4 rfl) ?_
          refine zr_aald (r := ad (20 + ky)) hx hb hK hP 6 3 rfl rfl (by omega) (by decide) (zo_at ad 20 (by omega)) dX0_sync_64 ?_
          refine lv_iload_n hx hb dX0_sync_65 rfl (lv_at hl 3 rfl) ?_
          refine lv_lload hx hb dX0_sync_66 (lv_at hl 0 rfl) ?_
          refine zr_last hx hb hK hP hD hS (20 + ky) 1 (xw_kn (by omega)) rfl (by omega) (by omega) (xs_kn (by omega) _ _) dX0_sync_68 (fun H locs hP hD hS => ?_)
          refine lv_iconst (v := nI 1) hx hb dX0_sync_69 (by decide) ?_
          exact W.zret (v := nI 1) hx hb hr (by first | rfl | decide) (fun t ht hW => ⟨⟨_, (zU (zU kn ky sa ((kn ky sa) ||| (kn ky sb))) ky sb ((kn ky sa) ||| (kn ky sb))), rfl, ⟨(by first | exact (zq3_1 hdx1).symm | exact (zq3_2 hdx2).symm | exact (zq3_3 hdx3).symm | exact (by unfold aSync; rw [zq3_s hdx1 hdx2 hdx3, if_neg c18]; first | done | rfl) | exact (by unfold aSync; rw [hdx1, hdx2]; cases zD 3 x3 <;> simp [zq3, c18, nI_0])), (by first | exact (zq3_1 hdx1).symm | exact (zq3_2 hdx2).symm | exact (zq3_3 hdx3).symm | exact (by unfold uSync; rw [zq3_s hdx1 hdx2 hdx3, if_neg c18]; first | done | rfl) | exact (by unfold uSync; rw [hdx1, hdx2]; cases zD 3 x3 <;> simp [zq3, c18]))⟩, by rw [ht]; exact hP, va_K.moved hW.alike hK, hD⟩, hS.F ht⟩) hS.2.2 dX0_sync_70
        ·
          refine lv_if_ne (tgt := 30) hx hb dX0_sync_25 (by decide) (fun q => absurd q (by decide)) (fun _ => ?_)
          refine lv_iconst (v := nI 0) hx hb dX0_sync_28 (by decide) ?_
          exact W.zret (v := nI 0) hx hb hr (by first | rfl | decide) (fun t ht hW => ⟨⟨_, kn, rfl, ⟨(by first | exact (zq3_1 hdx1).symm | exact (zq3_2 hdx2).symm | exact (zq3_3 hdx3).symm | exact (by unfold aSync; rw [zq3_s hdx1 hdx2 hdx3, if_neg c18]; first | done | rfl) | exact (by unfold aSync; rw [hdx1, hdx2]; cases zD 3 x3 <;> simp [zq3, c18, nI_0])), (by first | exact (zq3_1 hdx1).symm | exact (zq3_2 hdx2).symm | exact (zq3_3 hdx3).symm | exact (by unfold uSync; rw [zq3_s hdx1 hdx2 hdx3, if_neg c18]; first | done | rfl) | exact (by unfold uSync; rw [hdx1, hdx2]; cases zD 3 x3 <;> simp [zq3, c18]))⟩, by rw [ht]; exact hP, va_K.moved hW.alike hK, hD⟩, hS.F ht⟩) hS.2.2 dX0_sync_29
    ·
      refine lv_if_eq (tgt := 28) hx hb dX0_sync_13 (by decide) (fun _ => ?_) (fun q => absurd q (by decide))
      refine lv_iconst (v := nI 0) hx hb dX0_sync_28 (by decide) ?_
      exact W.zret (v := nI 0) hx hb hr (by first | rfl | decide) (fun t ht hW => ⟨⟨_, kn, rfl, ⟨(by first | exact (zq3_1 hdx1).symm | exact (zq3_2 hdx2).symm | exact (zq3_3 hdx3).symm | exact (by unfold aSync; rw [zq3_s hdx1 hdx2 hdx3, if_neg c18]; first | done | rfl) | exact (by unfold aSync; rw [hdx1, hdx2]; cases zD 3 x3 <;> simp [zq3, c18, nI_0])), (by first | exact (zq3_1 hdx1).symm | exact (zq3_2 hdx2).symm | exact (zq3_3 hdx3).symm | exact (by unfold uSync; rw [zq3_s hdx1 hdx2 hdx3, if_neg c18]; first | done | rfl) | exact (by unfold uSync; rw [hdx1, hdx2]; cases zD 3 x3 <;> simp [zq3, c18]))⟩, by rw [ht]; exact hP, va_K.moved hW.alike hK, hD⟩, hS.F ht⟩) hS.2.2 dX0_sync_29
  ·
    refine lv_if_eq (tgt := 28) hx hb dX0_sync_5 (by decide) (fun _ => ?_) (fun q => absurd q (by decide))
    refine lv_iconst (v := nI 0) hx hb dX0_sync_28 (by decide) ?_
    exact W.zret (v := nI 0) hx hb hr (by first | rfl | decide) (fun t ht hW => ⟨⟨_, kn, rfl, ⟨(by first | exact (zq3_1 hdx1).symm | exact (zq3_2 hdx2).symm | exact (zq3_3 hdx3).symm | exact (by unfold aSync; rw [zq3_s hdx1 hdx2 hdx3, if_neg c18]; first | done | rfl) | exact (by unfold aSync; rw [hdx1, hdx2]; cases zD 3 x3 <;> simp [zq3, c18, nI_0])), (by first | exact (zq3_1 hdx1).symm | exact (zq3_2 hdx2).symm | exact (zq3_3 hdx3).symm | exact (by unfold uSync; rw [zq3_s hdx1 hdx2 hdx3, if_neg c18]; first | done | rfl) | exact (by unfold uSync; rw [hdx1, hdx2]; cases zD 3 x3 <;> simp [zq3, c18]))⟩, by rw [ht]; exact hP, va_K.moved hW.alike hK, hD⟩, hS.F ht⟩) hS.2.2 dX0_sync_29
set_option maxHeartbeats 4000000 in
set_option maxRecDepth 100000 in
/-- put -/
theorem c_X0_put (l : Launch) (dC : Nat → ClassId) (dI : Nat → Nat → Nat) (ad : Nat → Nat) (cI cJ cII cJJ : ClassId) (S C : Nat) (n : Nat → Nat) (va : Nat → Nat → Int32) (mk ct ps kn cx : Nat → Nat → Nat) (hG : zG S C n mk ct ps kn cx) (x1 x2 x3 x4 : Int32) (sz : Nat) : Met l yX0_put wsX0_put ({ frames := 2, cells := 0, slots := 0, locals := 48 }) (va_Pc [.ref (ad 0), .int x1, .int x2, .int x3, .int x4] (xC dC dI ad cI cJ cII cJJ S C n va mk ct ps kn cx sz)) (va_Qi (fun (r : Int32) (u : zPT) => r = aPut S C n x1 x2 x3 ∧ u = uPut S C n va mk ct ps kn cx x1 x2 x3 x4) (fun u t => xE (va_A (xw ad cI cJ cII cJJ S C n va mk ct ps kn cx) sz) dC dI ad cI cJ cII cJJ S C (u.1) (u.2.1) (u.2.2.1) (u.2.2.2.1) (u.2.2.2.2.1) (u.2.2.2.2.2) cx t) (va_A (xw ad cI cJ cII cJJ S C n va mk ct ps kn cx) sz)) 0 0 (va_A (xw ad cI cJ cII cJJ S C n va mk ct ps kn cx) sz) := by
  refine Met.ofW (cc := cX0_put) (maxL := 8) (ret := (some .int)) (by decide) rfl ?_
  intro p e s m args below meth c s₁ B hml hv
  obtain ⟨rfl, hsz, hP, hK, hD0⟩ := hv
  have hx := B.exec
  have hb := B.bytes
  have hr := B.returns
  have hts := atoms_spec (ws := wsX0_put) B.pre
  have hown : s.vm.findClass RX0 = some m.cls := findClass_of_methodNamed B.named
  have hlocks := B.notSynchronized
  have hin0 : ∀ w ∈ wsX00, w ∈ wsX0_put := fun _ h => List.mem_cons_of_mem _ (List.mem_append_right _ h)
  subst hsz
  have hD := hD0.self (sz := s.heap.size)
  generalize hAe : va_A (xw ad cI cJ cII cJJ S C n va mk ct ps kn cx) s.heap.size = A at hD ⊢
  have hS : va_S A s.heap s.heap [] := va_S.rf
  have hl := lv_entry ([.ref (ad 0), .int x1, .int x2, .int x3, .int x4]) (n := 8) (Nat.le_of_ble_eq_true rfl)
  rw [lg_entry_eq]
  generalize (lg_sl ([.ref (ad 0), .int x1, .int x2, .int x3, .int x4]) ++ List.replicate (8 - (lg_sl ([.ref (ad 0), .int x1, .int x2, .int x3, .int x4])).length) Slot.unset).toArray = ls at hl ⊢
  have hl : lv_has ls 8 [(0, .ref (ad 0)), (1, .int x1), (2, .int x2), (3, .int x3), (4, .int x4)] := hl
  have hG0 := hG
  obtain ⟨⟨hS1, hS4, hC1, hC4⟩, hn, hmk, hct, hps, hkn, hcx, hcn, hkw⟩ := hG
  refine lv_aload_n hx hb dX0_put_0 rfl (lv_at hl 0 rfl) ?_
  refine lv_iload_n hx hb dX0_put_1 rfl (lv_at hl 1 rfl) ?_
  refine vp_callSi (W.runV (As := [.int x1]) (rest := []) ⟨hx, hb, hml, hown, hts⟩ (c_X0_isServer l dC dI ad cI cJ cII cJJ S C n va mk ct ps kn cx (by omega) x1) (cwV 1 hts gX0_put_X0_isServer rfl rfl rfl (by decide +kernel) ⟨Nat.le_of_ble_eq_true rfl, Nat.le_of_ble_eq_true rfl⟩) ⟨xB_blind, va_recv hK hP (ci := 0) (q0 := 0) rfl rfl, fun U hU hW => ⟨rfl, xB_at hP hK hU hW⟩⟩ rfl rfl hl.1 rfl (lv_room (Nat.le_of_ble_eq_true rfl)) dX0_put_2 ⟨Nat.le_of_ble_eq_true rfl, Nat.le_of_ble_eq_true rfl⟩) (fun r hq => ?_)
  rcases hq with ⟨rfl, sv, hsv, rfl, hdx1⟩ | ⟨rfl, hdx1⟩
  ·
    refine lv_if_eq (tgt := 34) hx hb dX0_put_5 (by decide) (fun q => absurd q (by decide)) (fun _ => ?_)
    refine lv_aload_n hx hb dX0_put_8 rfl (lv_at hl 0 rfl) ?_
    refine lv_iload_n hx hb dX0_put_9 rfl (lv_at hl 2 rfl) ?_
    refine vp_callSi (W.runV (As := [.int x2]) (rest := []) ⟨hx, hb, hml, hown, hts⟩ (c_X0_isClient l dC dI ad cI cJ cII cJJ S C n va mk ct ps kn cx (by omega) x2) (cwV 1 hts gX0_put_X0_isClient rfl rfl rfl (by decide +kernel) ⟨Nat.le_of_ble_eq_true rfl, Nat.le_of_ble_eq_true rfl⟩) ⟨xB_blind, va_recv hK hP (ci := 0) (q0 := 0) rfl rfl, fun U hU hW => ⟨rfl, xB_at hP hK hU hW⟩⟩ rfl rfl hl.1 rfl (lv_room (Nat.le_of_ble_eq_true rfl)) dX0_put_10 ⟨Nat.le_of_ble_eq_true rfl, Nat.le_of_ble_eq_true rfl⟩) (fun r hq => ?_)
    rcases hq with ⟨rfl, cl, hcl, rfl, hdx2⟩ | ⟨rfl, hdx2⟩
    ·
      refine lv_if_eq (tgt := 34) hx hb dX0_put_13 (by decide) (fun q => absurd q (by decide)) (fun _ => ?_)
      refine lv_iload_n hx hb dX0_put_16 rfl (lv_at hl 3 rfl) ?_
      refine vp_callSi (W.runS (As := [.int x3]) (rest := []) ⟨hx, hb, hml, hown, hts⟩ (c_X0_isKey l x3) (va_cwS 1 hts gX0_put_X0_isKey rfl rfl rfl (by decide +kernel) ⟨Nat.le_of_ble_eq_true rfl, Nat.le_of_ble_eq_true rfl⟩) ⟨zB_blind, fun U hU hW => ⟨rfl, trivial⟩⟩ rfl rfl hl.1 rfl (lv_room (Nat.le_of_ble_eq_true rfl)) dX0_put_17 ⟨Nat.le_of_ble_eq_true rfl, Nat.le_of_ble_eq_true rfl⟩) (fun r hq => ?_)
      rcases hq with ⟨rfl, ky, hky, rfl, hdx3⟩ | ⟨rfl, hdx3⟩
      ·
        refine lv_if_eq (tgt := 34) hx hb dX0_put_20 (by decide) (fun q => absurd q (by decide)) (fun _ => ?_)
        refine lv_aload_n hx hb dX0_put_23 rfl (lv_at hl 0 rfl) ?_
        refine va_get (D := (dC, dI)) (ci := 0) (v := .ref (ad 1)) (C := RX0) (T := TX0) (N := 9) hx hb hts hin0 hown hK hP 0 rfl rfl 2 (by decide) (hts (.fieldLink RX0 22 "DottedSiblings" "written" "[I") (by decide +kernel)) (fun _ h9 => h9) rfl dX0_put_24 ?_
        refine lv_iload_n hx hb dX0_put_27 rfl (lv_at hl 3 rfl) ?_
        refine zr_iald (v := nI (n ky)) hx hb hK hP 1 0 rfl rfl (by omega) (by omega) rfl dX0_put_28 ?_
        have hn9 := hn ky
        refine lv_bipush (v := nI 40) hx hb dX0_put_29 (by decide) ?_
        refine zr_ilt (tgt := 36) hx hb (by omega) (by omega) dX0_put_31 (by decide) (fun c31 => ?_) (fun c31 => ?_)
        ·
          refine lv_aload_n hx hb dX0_put_36 rfl (lv_at hl 0 rfl) ?_
          refine va_get (D := (dC, dI)) (ci := 0) (v := .ref (ad 1)) (C := RX0) (T := TX0) (N := 9) hx hb hts hin0 hown hK hP 0 rfl rfl 2 (by decide) (hts (.fieldLink RX0 22 "DottedSiblings" "written" "[I") (by decide +kernel)) (fun _ h9 => h9) rfl dX0_put_37 ?_
          refine lv_iload_n hx hb dX0_put_40 rfl (lv_at hl 3 rfl) ?_
          refine zr_iald (v := nI (n ky)) hx hb hK hP 1 0 rfl rfl (by omega) (by omega) rfl dX0_put_41 ?_
          refine lv_istore (lv' := [(5, .int (nI (n ky))), (0, .ref (ad 0)), (1, .int (nI sv)), (2, .int (nI cl)), (3, .int (nI ky)), (4, .int x4)]) hx hb dX0_put_42 hl (by decide) rfl (fun ls hl => ?_)
          refine lv_aload_n hx hb dX0_put_44 rfl (lv_at hl 1 rfl) ?_
          refine va_get (D := (dC, dI)) (ci := 0) (v := .ref (ad 7)) (C := RX0) (T := TX0) (N := 9) hx hb hts hin0 hown hK hP 0 rfl rfl 8 (by decide) (hts (.fieldLink RX0 45 "DottedSiblings" "contextSets" "[[J") (by decide +kernel)) (fun _ h9 => h9) rfl dX0_put_45 ?_
          refine lv_iload_n hx hb dX0_put_48 rfl (lv_at hl 4 rfl) ?_
          refine zr_aald (r := ad (23 + ky)) hx hb hK hP 7 3 rfl rfl (by omega) (by decide) (zo_at ad 23 (by omega)) dX0_put_49 ?_
          refine lv_iload_n hx hb dX0_put_50 rfl (lv_at hl 3 rfl) ?_
          refine zr_lald (v := lN (cx ky cl)) hx hb hK hP (23 + ky) 1 (xw_cx (by omega)) rfl (by omega) (by omega) rfl dX0_put_51 ?_
          refine lv_lstore (lv' := [(6, .long (lN (cx ky cl))), (5, .int (nI (n ky))), (0, .ref (ad 0)), (1, .int (nI sv)), (2, .int (nI cl)), (3, .int (nI ky)), (4, .int x4)]) hx hb dX0_put_52 hl (by decide) rfl (fun ls hl => ?_)
          refine lv_aload_n hx hb dX0_put_54 rfl (lv_at hl 2 rfl) ?_
          refine va_get (D := (dC, dI)) (ci := 0) (v := .ref (ad 2)) (C := RX0) (T := TX0) (N := 9) hx hb hts hin0 hown hK hP 0 rfl rfl 3 (by decide) (hts (.fieldLink RX0 28 "DottedSiblings" "values" "[[I") (by decide +kernel)) (fun _ h9 => h9) rfl dX0_put_55 ?_
          refine lv_iload_n hx hb dX0_put_58 rfl (lv_at hl 5 rfl) ?_
          refine zr_aald (r := ad (8 + ky)) hx hb hK hP 2 2 rfl rfl (by omega) (by decide) (zo_at ad 8 (by omega)) dX0_put_59 ?_
          refine lv_iload hx hb dX0_put_60 (lv_at hl 1 rfl) ?_
          refine lv_iload hx hb dX0_put_62 (lv_at hl 6 rfl) ?_
          refine zr_iast hx hb hK hP hD hS (8 + ky) 0 (xw_va (by omega)) rfl (by omega) (by omega) (xs_va (by omega) _ _) dX0_put_64 (fun H locs hP hD hS => ?_)
          refine lv_aload_n hx hb dX0_put_65 rfl (lv_at hl 2 rfl) ?_
          refine va_get (D := (dC, dI)) (ci := 0) (v := .ref (ad 3)) (C := RX0) (T := TX0) (N := 9) hx hb hts hin0 hown hK hP 0 rfl rfl 4 (by decide) (hts (.fieldLink RX0 31 "DottedSiblings" "makers" "[[I") (by decide +kernel)) (fun _ h9 => h9) rfl dX0_put_66 ?_
          refine lv_iload_n hx hb dX0_put_69 rfl (lv_at hl 5 rfl) ?_
          refine zr_aald (r := ad (11 + ky)) hx hb hK hP 3 2 rfl rfl (by omega) (by decide) (zo_at ad 11 (by omega)) dX0_put_70 ?_
          refine lv_iload hx hb dX0_put_71 (lv_at hl 1 rfl) ?_
          refine lv_iload_n hx hb dX0_put_73 rfl (lv_at hl 3 rfl) ?_
          refine zr_iast hx hb hK hP hD hS (11 + ky) 0 (xw_mk (by omega)) rfl (by omega) (by omega) (xs_mk (by omega) _ _) dX0_put_74 (fun H locs hP hD hS => ?_)
          refine lv_aload_n hx hb dX0_put_75 rfl (lv_at hl 2 rfl) ?_
          refine va_get (D := (dC, dI)) (ci := 0) (v := .ref (ad 4)) (C := RX0) (T := TX0) (N := 9) hx hb hts hin0 hown hK hP 0 rfl rfl 5 (by decide) (hts (.fieldLink RX0 34 "DottedSiblings" "counters" "[[I") (by decide +kernel)) (fun _ h9 => h9) rfl dX0_put_76 ?_
          refine lv_iload_n hx hb dX0_put_79 rfl (lv_at hl 5 rfl) ?_
          refine zr_aald (r := ad (14 + ky)) hx hb hK hP 4 2 rfl rfl (by omega) (by decide) (zo_at ad 14 (by omega)) dX0_put_80 ?_
          refine lv_iload hx hb dX0_put_81 (lv_at hl 1 rfl) ?_
          refine lv_aload_n hx hb dX0_put_83 rfl (lv_at hl 2 rfl) ?_
          refine lv_iload_n hx hb dX0_put_84 rfl (lv_at hl 5 rfl) ?_
          refine lv_aload_n hx hb dX0_put_85 rfl (lv_at hl 2 rfl) ?_
          refine va_get (D := (dC, dI)) (ci := 0) (v := .ref (ad 6)) (C := RX0) (T := TX0) (N := 9) hx hb hts hin0 hown hK hP 0 rfl rfl 7 (by decide) (hts (.fieldLink RX0 42 "DottedSiblings" "knownSets" "[[J") (by decide +kernel)) (fun _ h9 => h9) rfl dX0_put_86 ?_
          refine lv_iload_n hx hb dX0_put_89 rfl (lv_at hl 5 rfl) ?_
          refine zr_aald (r := ad (20 + ky)) hx hb hK hP 6 3 rfl rfl (by omega) (by decide) (zo_at ad 20 (by omega)) dX0_put_90 ?_
          refine lv_iload_n hx hb dX0_put_91 rfl (lv_at hl 3 rfl) ?_
          refine zr_lald (v := lN (kn ky sv)) hx hb hK hP (20 + ky) 1 (xw_kn (by omega)) rfl (by omega) (by omega) rfl dX0_put_92 ?_
          refine lv_iload_n hx hb dX0_put_93 rfl (lv_at hl 3 rfl) ?_
          refine vp_callSi (W.runV (As := [.int (nI ky), .long (lN (kn ky sv)), .int (nI sv)]) (rest := [.int (nI (n ky)), .ref (ad (14 + ky))]) ⟨hx, hb, hml, hown, hts⟩ (c_X0_vectorAt l dC dI ad cI cJ cII cJJ S C n (zV va ky (n ky) x4) (zU mk ky (n ky) sv) ct ps kn cx ky (kn ky sv) sv (by omega) (Nat.lt_trans (z40 (hkn _ _) (hn _)) (by decide)) (by omega) (hn _) (fun w h => by rw [zU_nj _ _ (Or.inr (Nat.ne_of_lt h))]; exact Nat.lt_of_lt_of_le (hmk _ w h) hS4) (hct _)) (cwV 3 hts gX0_put_X0_vectorAt rfl rfl rfl (by decide +kernel) ⟨Nat.le_of_ble_eq_true rfl, Nat.le_of_ble_eq_true rfl⟩) ⟨xB_blind, va_recv hK hP (ci := 0) (q0 := 0) rfl rfl, fun U hU hW => ⟨rfl, xB_at hP hK hU hW⟩⟩ rfl rfl hl.1 rfl (lv_room (Nat.le_of_ble_eq_true rfl)) dX0_put_94 ⟨Nat.le_of_ble_eq_true rfl, Nat.le_of_ble_eq_true rfl⟩) (fun r hq => ?_)
          subst hq
          refine lv_iconst (v := nI 1) hx hb dX0_put_97 (by decide) ?_
          refine zr_iadd hx hb dX0_put_98 ?_
          refine zr_iast hx hb hK hP hD hS (14 + ky) 0 (xw_ct (by omega)) rfl (by omega) (by omega) (xs_ct (by omega) _ _) dX0_put_99 (fun H locs hP hD hS => ?_)
          refine lv_aload_n hx hb dX0_put_100 rfl (lv_at hl 2 rfl) ?_
          refine va_get (D := (dC, dI)) (ci := 0) (v := .ref (ad 5)) (C := RX0) (T := TX0) (N := 9) hx hb hts hin0 hown hK hP 0 rfl rfl 6 (by decide) (hts (.fieldLink RX0 39 "DottedSiblings" "pasts" "[[J") (by decide +kernel)) (fun _ h9 => h9) rfl dX0_put_101 ?_
          refine lv_iload_n hx hb dX0_put_104 rfl (lv_at hl 5 rfl) ?_
          refine zr_aald (r := ad (17 + ky)) hx hb hK hP 5 3 rfl rfl (by omega) (by decide) (zo_at ad 17 (by omega)) dX0_put_105 ?_
          refine lv_iload hx hb dX0_put_106 (lv_at hl 1 rfl) ?_
          refine lv_lload hx hb dX0_put_108 (lv_at hl 0 rfl) ?_
          refine zr_last hx hb hK hP hD hS (17 + ky) 1 (xw_ps (by omega)) rfl (by omega) (by omega) (xs_ps (by omega) _ _) dX0_put_110 (fun H locs hP hD hS => ?_)
          refine lv_aload_n hx hb dX0_put_111 rfl (lv_at hl 2 rfl) ?_
          refine va_get (D := (dC, dI)) (ci := 0) (v := .ref (ad 6)) (C := RX0) (T := TX0) (N := 9) hx hb hts hin0 hown hK hP 0 rfl rfl 7 (by decide) (hts (.fieldLink RX0 42 "DottedSiblings" "knownSets" "[[J") (by decide +kernel)) (fun _ h9 => h9) rfl dX0_put_112 ?_
          refine lv_iload_n hx hb dX0_put_115 rfl (lv_at hl 5 rfl) ?_
          refine zr_aald (r := ad (20 + ky)) hx hb hK hP 6 3 rfl rfl (by omega) (by decide) (zo_at ad 20 (by omega)) dX0_put_116 ?_
          refine lv_iload_n hx hb dX0_put_117 rfl (lv_at hl 3 rfl) ?_
          refine lv_dup2_11 hx hb dX0_put_118 rfl rfl ?_
          refine zr_lald (v := lN (kn ky sv)) hx hb hK hP (20 + ky) 1 (xw_kn (by omega)) rfl (by omega) (by omega) rfl dX0_put_119 ?_
          refine lv_lload hx hb dX0_put_120 (lv_at hl 0 rfl) ?_
          refine lv_lconst (v := lN 1) hx hb dX0_put_122 (by decide) ?_
          refine lv_iload hx hb dX0_put_123 (lv_at hl 1 rfl) ?_
          refine zr_lshl hx hb (by omega) dX0_put_125 ?_
          refine zr_lor hx hb dX0_put_126 ?_
          refine zr_lor hx hb dX0_put_127 ?_
          refine zr_last hx hb hK hP hD hS (20 + ky) 1 (xw_kn (by omega)) rfl (by omega) (by omega) (xs_kn (by omega) _ _) dX0_put_128 (fun H locs hP hD hS => ?_)
          refine lv_aload_n hx hb dX0_put_129 rfl (lv_at hl 2 rfl) ?_
          refine va_get (D := (dC, dI)) (ci := 0) (v := .ref (ad 1)) (C := RX0) (T := TX0) (N := 9) hx hb hts hin0 hown hK hP 0 rfl rfl 2 (by decide) (hts (.fieldLink RX0 22 "DottedSiblings" "written" "[I") (by decide +kernel)) (fun _ h9 => h9) rfl dX0_put_130 ?_
          refine lv_iload_n hx hb dX0_put_133 rfl (lv_at hl 5 rfl) ?_
          refine lv_iload hx hb dX0_put_134 (lv_at hl 1 rfl) ?_
          refine lv_iconst (v := nI 1) hx hb dX0_put_136 (by decide) ?_
          refine zr_iadd hx hb dX0_put_137 ?_
          refine zr_iast hx hb hK hP hD hS 1 0 rfl rfl (by omega) (by omega) (xs_n (by omega) _) dX0_put_138 (fun H locs hP hD hS => ?_)
          refine lv_iload hx hb dX0_put_139 (lv_at hl 1 rfl) ?_
          exact W.iret (v := nI (n ky)) hx hb hr (fun t ht hW => ⟨⟨_, ((zu n ky (n ky + 1)), (zV va ky (n ky) x4), (zU mk ky (n ky) sv), (zU ct ky (n ky) (zVec (ct ky) (zHit ((zU mk ky (n ky) sv) ky) (kn ky sv) sv) (n ky) + 1)), (zU ps ky (n ky) (cx ky cl)), (zU kn ky sv ((kn ky sv) ||| ((cx ky cl) ||| (1 * 2 ^ (n ky)))))), rfl, ⟨(by first | exact (zq3_1 hdx1).symm | exact (zq3_2 hdx2).symm | exact (zq3_3 hdx3).symm | exact (by unfold aPut; rw [zq3_s hdx1 hdx2 hdx3, if_pos c31]; first | done | rfl) | exact (by unfold aPut; rw [zq3_s hdx1 hdx2 hdx3, if_neg (Nat.not_lt.mpr c31)]; first | done | rfl)), (by first | exact (zq3_1 hdx1).symm | exact (zq3_2 hdx2).symm | exact (zq3_3 hdx3).symm | exact (by unfold uPut; rw [zq3_s hdx1 hdx2 hdx3, if_neg (Nat.not_lt.mpr c31)]; first | done | rfl) | exact (by unfold uPut; rw [zq3_s hdx1 hdx2 hdx3, if_pos c31, zVec_put hG0]))⟩, by rw [ht]; exact hP, va_K.moved hW.alike hK, hD⟩, hS.F ht⟩) hS.2.2 dX0_put_141
        ·
          refine lv_iconst (v := (-1)) hx hb dX0_put_34 (by decide) ?_
          exact W.iret (v := (-1)) hx hb hr (fun t ht hW => ⟨⟨_, (n, va, mk, ct, ps, kn), rfl, ⟨(by first | exact (zq3_1 hdx1).symm | exact (zq3_2 hdx2).symm | exact (zq3_3 hdx3).symm | exact (by unfold aPut; rw [zq3_s hdx1 hdx2 hdx3, if_pos c31]; first | done | rfl) | exact (by unfold aPut; rw [zq3_s hdx1 hdx2 hdx3, if_neg (Nat.not_lt.mpr c31)]; first | done | rfl)), (by first | exact (zq3_1 hdx1).symm | exact (zq3_2 hdx2).symm | exact (zq3_3 hdx3).symm | exact (by unfold uPut; rw [zq3_s hdx1 hdx2 hdx3, if_neg (Nat.not_lt.mpr c31)]; first | done | rfl) | exact (by unfold uPut; rw [zq3_s hdx1 hdx2 hdx3, if_pos c31, zVec_put hG0]))⟩, by rw [ht]; exact hP, va_K.moved hW.alike hK, hD⟩, hS.F ht⟩) hS.2.2 dX0_put_35
      ·
        refine lv_if_eq (tgt := 34) hx hb dX0_put_20 (by decide) (fun _ => ?_) (fun q => absurd q (by decide))
        refine lv_iconst (v := (-1)) hx hb dX0_put_34 (by decide) ?_
        exact W.iret (v := (-1)) hx hb hr (fun t ht hW => ⟨⟨_, (n, va, mk, ct, ps, kn), rfl, ⟨(by first | exact (zq3_1 hdx1).symm | exact (zq3_2 hdx2).symm | exact (zq3_3 hdx3).symm | exact (by unfold aPut; rw [zq3_s hdx1 hdx2 hdx3, if_pos c31]; first | done | rfl) | exact (by unfold aPut; rw [zq3_s hdx1 hdx2 hdx3, if_neg (Nat.not_lt.mpr c31)]; first | done | rfl)), (by first | exact (zq3_1 hdx1).symm | exact (zq3_2 hdx2).symm | exact (zq3_3 hdx3).symm | exact (by unfold uPut; rw [zq3_s hdx1 hdx2 hdx3, if_neg (Nat.not_lt.mpr c31)]; first | done | rfl) | exact (by unfold uPut; rw [zq3_s hdx1 hdx2 hdx3, if_pos c31, zVec_put hG0]))⟩, by rw [ht]; exact hP, va_K.moved hW.alike hK, hD⟩, hS.F ht⟩) hS.2.2 dX0_put_35
    ·
      refine lv_if_eq (tgt := 34) hx hb dX0_put_13 (by decide) (fun _ => ?_) (fun q => absurd q (by decide))
      refine lv_iconst (v := (-1)) hx hb dX0_put_34 (by decide) ?_
      exact W.iret (v := (-1)) hx hb hr (fun t ht hW => ⟨⟨_, (n, va, mk, ct, ps, kn), rfl, ⟨(by first | exact (zq3_1 hdx1).symm | exact (zq3_2 hdx2).symm | exact (zq3_3 hdx3).symm | exact (by unfold aPut; rw [zq3_s hdx1 hdx2 hdx3, if_pos c31]; first | done | rfl) | exact (by unfold aPut; rw [zq3_s hdx1 hdx2 hdx3, if_neg (Nat.not_lt.mpr c31)]; first | done | rfl)), (by first | exact (zq3_1 hdx1).symm | exact (zq3_2 hdx2).symm | exact (zq3_3 hdx3).symm | exact (by unfold uPut; rw [zq3_s hdx1 hdx2 hdx3, if_neg (Nat.not_lt.mpr c31)]; first | done | rfl) | exact (by unfold uPut; rw [zq3_s hdx1 hdx2 hdx3, if_pos c31, zVec_put hG0]))⟩, by rw [ht]; exact hP, va_K.moved hW.alike hK, hD⟩, hS.F ht⟩) hS.2.2 dX0_put_35
  ·
    refine lv_if_eq (tgt := 34) hx hb dX0_put_5 (by decide) (fun _ => ?_) (fun q => absurd q (by decide))
    refine lv_iconst (v := (-1)) hx hb dX0_put_34 (by decide) ?_
    exact W.iret (v := (-1)) hx hb hr (fun t ht hW => ⟨⟨_, (n, va, mk, ct, ps, kn), rfl, ⟨(by first | exact (zq3_1 hdx1).symm | exact (zq3_2 hdx2).symm | exact (zq3_3 hdx3).symm | exact (by unfold aPut; rw [zq3_s hdx1 hdx2 hdx3, if_pos c31]; first | done | rfl) | exact (by unfold aPut; rw [zq3_s hdx1 hdx2 hdx3, if_neg (Nat.not_lt.mpr c31)]; first | done | rfl)), (by first | exact (zq3_1 hdx1).symm | exact (zq3_2 hdx2).symm | exact (zq3_3 hdx3).symm | exact (by unfold uPut; rw [zq3_s hdx1 hdx2 hdx3, if_neg (Nat.not_lt.mpr c31)]; first | done | rfl) | exact (by unfold uPut; rw [zq3_s hdx1 hdx2 hdx3, if_pos c31, zVec_put hG0]))⟩, by rw [ht]; exact hP, va_K.moved hW.alike hK, hD⟩, hS.F ht⟩) hS.2.2 dX0_put_35
set_option maxHeartbeats 4000000 in
set_option maxRecDepth 100000 in
/-- get -/
theorem c_X1_get (l : Launch) (dC : Nat → ClassId) (dI : Nat → Nat → Nat) (ad : Nat → Nat) (cI cJ : ClassId) (S C : Nat) (n : Nat → Nat) (va : Nat → Nat → Int32) (mk ct ps kn cx rd : Nat → Nat → Nat) (hG : zG S C n mk ct ps kn cx) (x1 x2 x3 : Int32) (sz : Nat) : Met l yX1_get wsX1_get ({ frames := 1, cells := 0, slots := 0, locals := 26 }) (va_Pc [.ref (ad 0), .int x1, .int x2, .int x3] (mC dC dI ad cI cJ S C n va mk ct ps kn cx rd sz)) (va_Qi (fun (r : Int32) (u : (Nat → Nat → Nat) × (Nat → Nat → Nat)) => r = aGet S C n ps kn x1 x2 x3 ∧ u = (uGet S C kn cx x1 x2 x3, vGet S C n ps kn rd x1 x2 x3)) (fun u t => mE (va_A (mw ad cI cJ S C n va mk ct ps kn cx rd) sz) dC dI ad cI cJ S C n va mk ct ps kn (u.1) (u.2) t) (va_A (mw ad cI cJ S C n va mk ct ps kn cx rd) sz)) 0 0 (va_A (mw ad cI cJ S C n va mk ct ps kn cx rd) sz) := by
  refine Met.ofW (cc := cX1_get) (maxL := 4) (ret := (some .int)) (by decide) rfl ?_
  intro p e s m args below meth c s₁ B hml hv
  obtain ⟨rfl, hsz, hP, hK, hD0⟩ := hv
  have hx := B.exec
  have hb := B.bytes
  have hr := B.returns
  have hts := atoms_spec (ws := wsX1_get) B.pre
  have hown : s.vm.findClass RX1 = some m.cls := findClass_of_methodNamed B.named
  have hlocks := B.notSynchronized
  have hin0 : ∀ w ∈ wsX10, w ∈ wsX1_get := fun _ h => List.mem_cons_of_mem _ (List.mem_append_right _ h)
  subst hsz
  have hD := hD0.self (sz := s.heap.size)
  generalize hAe : va_A (mw ad cI cJ S C n va mk ct ps kn cx rd) s.heap.size = A at hD ⊢
  have hS : va_S A s.heap s.heap [] := va_S.rf
  have hl := lv_entry ([.ref (ad 0), .int x1, .int x2, .int x3]) (n := 4) (Nat.le_of_ble_eq_true rfl)
  rw [lg_entry_eq]
  generalize (lg_sl ([.ref (ad 0), .int x1, .int x2, .int x3]) ++ List.replicate (4 - (lg_sl ([.ref (ad 0), .int x1, .int x2, .int x3])).length) Slot.unset).toArray = ls at hl ⊢
  have hl : lv_has ls 4 [(0, .ref (ad 0)), (1, .int x1), (2, .int x2), (3, .int x3)] := hl
  obtain ⟨⟨hS1, hS4, hC1, hC4⟩, hn, hmk, hct, hps, hkn, hcx, hcn, hkw⟩ := hG
  refine lv_aload_n hx hb dX1_get_0 rfl (lv_at hl 0 rfl) ?_
  refine lv_iload_n hx hb dX1_get_1 rfl (lv_at hl 1 rfl) ?_
  refine vp_callSi (W.runV (As := [.int x1]) (rest := []) ⟨hx, hb, hml, hown, hts⟩ (c_X1_isServer l dC dI ad cI cJ S C n va mk ct ps kn cx rd (by omega) x1) (cwV 1 hts gX1_get_X1_isServer rfl rfl rfl (by decide +kernel) ⟨Nat.le_of_ble_eq_true rfl, Nat.le_of_ble_eq_true rfl⟩) ⟨mB_blind, va_recv hK hP (ci := 1) (q0 := 0) rfl rfl, fun U hU hW => ⟨rfl, mB_at hP hK hU hW⟩⟩ rfl rfl hl.1 rfl (lv_room (Nat.le_of_ble_eq_true rfl)) dX1_get_2 ⟨Nat.le_of_ble_eq_true rfl, Nat.le_of_ble_eq_true rfl⟩) (fun r hq => ?_)
  rcases hq with ⟨rfl, sv, hsv, rfl, hdx1⟩ | ⟨rfl, hdx1⟩
  ·
    refine lv_if_eq (tgt := 23) hx hb dX1_get_5 (by decide) (fun q => absurd q (by decide)) (fun _ => ?_)
    refine lv_aload_n hx hb dX1_get_8 rfl (lv_at hl 0 rfl) ?_
    refine lv_iload_n hx hb dX1_get_9 rfl (lv_at hl 2 rfl) ?_
    refine vp_callSi (W.runV (As := [.int x2]) (rest := []) ⟨hx, hb, hml, hown, hts⟩ (c_X1_isClient l dC dI ad cI cJ S C n va mk ct ps kn cx rd (by omega) x2) (cwV 1 hts gX1_get_X1_isClient rfl rfl rfl (by decide +kernel) ⟨Nat.le_of_ble_eq_true rfl, Nat.le_of_ble_eq_true rfl⟩) ⟨mB_blind, va_recv hK hP (ci := 1) (q0 := 0) rfl rfl, fun U hU hW => ⟨rfl, mB_at hP hK hU hW⟩⟩ rfl rfl hl.1 rfl (lv_room (Nat.le_of_ble_eq_true rfl)) dX1_get_10 ⟨Nat.le_of_ble_eq_true rfl, Nat.le_of_ble_eq_true rfl⟩) (fun r hq => ?_)
    rcases hq with ⟨rfl, cl, hcl, rfl, hdx2⟩ | ⟨rfl, hdx2⟩
    ·
      refine lv_if_eq (tgt := 23) hx hb dX1_get_13 (by decide) (fun q => absurd q (by decide)) (fun _ => ?_)
      refine lv_iload_n hx hb dX1_get_16 rfl (lv_at hl 3 rfl) ?_
      refine vp_callSi (W.runS (As := [.int x3]) (rest := []) ⟨hx, hb, hml, hown, hts⟩ (c_X1_isKey l x3) (va_cwS 1 hts gX1_get_X1_isKey rfl rfl rfl (by decide +kernel) ⟨Nat.le_of_ble_eq_true rfl, Nat.le_of_ble_eq_true rfl⟩) ⟨zB_blind, fun U hU hW => ⟨rfl, trivial⟩⟩ rfl rfl hl.1 rfl (lv_room (Nat.le_of_ble_eq_true rfl)) dX1_get_17 ⟨Nat.le_of_ble_eq_true rfl, Nat.le_of_ble_eq_true rfl⟩) (fun r hq => ?_)
      rcases hq with ⟨rfl, ky, hky, rfl, hdx3⟩ | ⟨rfl, hdx3⟩
      ·
        refine lv_if_ne (tgt := 25) hx hb dX1_get_20 (by decide) (fun _ => ?_) (fun q => absurd q (by decide))
        refine lv_aload_n hx hb dX1_get_25 rfl (lv_at hl 0 rfl) ?_
        refine va_get (D := (dC, dI)) (ci := 1) (v := .ref (ad 7)) (C := RX1) (T := TX1) (N := 10) hx hb hts hin0 hown hK hP 0 rfl rfl 8 (by decide) (hts (.fieldLink RX1 29 "DottedSiblingsModel" "contexts" "[J") (by decide +kernel)) (fun _ h9 => h9) rfl dX1_get_26 ?_
        refine lv_iconst (v := nI 3) hx hb dX1_get_29 (by decide) ?_
        refine lv_iload_n hx hb dX1_get_30 rfl (lv_at hl 2 rfl) ?_
        refine zr_imul hx hb dX1_get_31 ?_
        refine lv_iload_n hx hb dX1_get_32 rfl (lv_at hl 3 rfl) ?_
        refine zr_iadd hx hb dX1_get_33 ?_
        refine lv_aload_n hx hb dX1_get_34 rfl (lv_at hl 0 rfl) ?_
        refine va_get (D := (dC, dI)) (ci := 1) (v := .ref (ad 6)) (C := RX1) (T := TX1) (N := 10) hx hb hts hin0 hown hK hP 0 rfl rfl 7 (by decide) (hts (.fieldLink RX1 26 "DottedSiblingsModel" "known" "[J") (by decide +kernel)) (fun _ h9 => h9) rfl dX1_get_35 ?_
        refine lv_iconst (v := nI 3) hx hb dX1_get_38 (by decide) ?_
        refine lv_iload_n hx hb dX1_get_39 rfl (lv_at hl 1 rfl) ?_
        refine zr_imul hx hb dX1_get_40 ?_
        refine lv_iload_n hx hb dX1_get_41 rfl (lv_at hl 3 rfl) ?_
        refine zr_iadd hx hb dX1_get_42 ?_
        refine zr_lald (v := lN (kn ky sv)) hx hb hK hP 6 1 rfl rfl (by omega) (by omega) (congrArg lN (zf3 _ (by omega))) dX1_get_43 ?_
        refine zr_last hx hb hK hP hD hS 7 1 rfl rfl (by omega) (by omega) (ms_cx (by omega) _) dX1_get_44 (fun H locs hP hD hS => ?_)
        refine lv_aload_n hx hb dX1_get_45 rfl (lv_at hl 0 rfl) ?_
        refine va_get (D := (dC, dI)) (ci := 1) (v := .ref (ad 8)) (C := RX1) (T := TX1) (N := 10) hx hb hts hin0 hown hK hP 0 rfl rfl 9 (by decide) (hts (.fieldLink RX1 32 "DottedSiblingsModel" "reads" "[J") (by decide +kernel)) (fun _ h9 => h9) rfl dX1_get_46 ?_
        refine lv_iconst (v := nI 3) hx hb dX1_get_49 (by decide) ?_
        refine lv_iload_n hx hb dX1_get_50 rfl (lv_at hl 2 rfl) ?_
        refine zr_imul hx hb dX1_get_51 ?_
        refine lv_iload_n hx hb dX1_get_52 rfl (lv_at hl 3 rfl) ?_
        refine zr_iadd hx hb dX1_get_53 ?_
        refine lv_aload_n hx hb dX1_get_54 rfl (lv_at hl 0 rfl) ?_
        refine lv_aload_n hx hb dX1_get_55 rfl (lv_at hl 0 rfl) ?_
        refine va_get (D := (dC, dI)) (ci := 1) (v := .ref (ad 6)) (C := RX1) (T := TX1) (N := 10) hx hb hts hin0 hown hK hP 0 rfl rfl 7 (by decide) (hts (.fieldLink RX1 26 "DottedSiblingsModel" "known" "[J") (by decide +kernel)) (fun _ h9 => h9) rfl dX1_get_56 ?_
        refine lv_iconst (v := nI 3) hx hb dX1_get_59 (by decide) ?_
        refine lv_iload_n hx hb dX1_get_60 rfl (lv_at hl 1 rfl) ?_
        refine zr_imul hx hb dX1_get_61 ?_
        refine lv_iload_n hx hb dX1_get_62 rfl (lv_at hl 3 rfl) ?_
        refine zr_iadd hx hb dX1_get_63 ?_
        refine zr_lald (v := lN (kn ky sv)) hx hb hK hP 6 1 rfl rfl (by omega) (by omega) (congrArg lN (zf3 _ (by omega))) dX1_get_64 ?_
        refine lv_iload_n hx hb dX1_get_65 rfl (lv_at hl 3 rfl) ?_
        refine vp_callSl (W.runV (As := [.long (lN (kn ky sv)), .int (nI ky)]) (rest := [.int (nI (3 * cl + ky)), .ref (ad 8)]) ⟨hx, hb, hml, hown, hts⟩ (c_X1_newest l dC dI ad cI cJ S C n va mk ct ps kn (zU cx ky cl (kn ky sv)) rd ky (kn ky sv) (by omega) (Nat.lt_trans (z40 (hkn _ _) (hn _)) (by decide)) (hn _)) (cwV 2 hts gX1_get_X1_newest rfl rfl rfl (by decide +kernel) ⟨Nat.le_of_ble_eq_true rfl, Nat.le_of_ble_eq_true rfl⟩) ⟨mB_blind, va_recv hK hP (ci := 1) (q0 := 0) rfl rfl, fun U hU hW => ⟨rfl, mB_at hP hK hU hW⟩⟩ rfl rfl hl.1 rfl (lv_room (Nat.le_of_ble_eq_true rfl)) dX1_get_66 ⟨Nat.le_of_ble_eq_true rfl, Nat.le_of_ble_eq_true rfl⟩) (fun r hq => ?_)
        subst hq
        refine zr_last hx hb hK hP hD hS 8 1 rfl rfl (by omega) (by omega) (ms_rd (by omega) _) dX1_get_69 (fun H locs hP hD hS => ?_)
        refine lv_aload_n hx hb dX1_get_70 rfl (lv_at hl 0 rfl) ?_
        refine va_get (D := (dC, dI)) (ci := 1) (v := .ref (ad 8)) (C := RX1) (T := TX1) (N := 10) hx hb hts hin0 hown hK hP 0 rfl rfl 9 (by decide) (hts (.fieldLink RX1 32 "DottedSiblingsModel" "reads" "[J") (by decide +kernel)) (fun _ h9 => h9) rfl dX1_get_71 ?_
        refine lv_iconst (v := nI 3) hx hb dX1_get_74 (by decide) ?_
        refine lv_iload_n hx hb dX1_get_75 rfl (lv_at hl 2 rfl) ?_
        refine zr_imul hx hb dX1_get_76 ?_
        refine lv_iload_n hx hb dX1_get_77 rfl (lv_at hl 3 rfl) ?_
        refine zr_iadd hx hb dX1_get_78 ?_
        refine zr_lald (v := lN (zNew (n ky) (ps ky) (kn ky sv))) hx hb hK hP 8 1 rfl rfl (by omega) (by omega) (congrArg lN ((zf3 _ (by omega)).trans (zU_s _ _ _ _))) dX1_get_79 ?_
        refine vp_callSi (W.runS (As := [.long (lN (zNew (n ky) (ps ky) (kn ky sv)))]) (rest := []) ⟨hx, hb, hml, hown, hts⟩ (c_X1_sizeOf l (zNew (n ky) (ps ky) (kn ky sv)) (Nat.lt_trans (Nat.lt_of_le_of_lt (zNew_le _ _ _) (z40 (hkn _ _) (hn _))) (by decide))) (va_cwS 1 hts gX1_get_X1_sizeOf rfl rfl rfl (by decide +kernel) ⟨Nat.le_of_ble_eq_true rfl, Nat.le_of_ble_eq_true rfl⟩) ⟨zB_blind, fun U hU hW => ⟨rfl, trivial⟩⟩ rfl rfl hl.1 rfl (lv_room (Nat.le_of_ble_eq_true rfl)) dX1_get_80 ⟨Nat.le_of_ble_eq_true rfl, Nat.le_of_ble_eq_true rfl⟩) (fun r hq => ?_)
        subst hq
        exact W.iret (v := nI (zSize (zNew (n ky) (ps ky) (kn ky sv)))) hx hb hr (fun t ht hW => ⟨⟨_, ((zU cx ky cl (kn ky sv)), (zU rd ky cl (zNew (n ky) (ps ky) (kn ky sv)))), rfl, ⟨(by first | exact (zq3_1 hdx1).symm | exact (zq3_2 hdx2).symm | exact (zq3_3 hdx3).symm | exact (by unfold aGet; rw [zq3_s hdx1 hdx2 hdx3]; first | done | rfl)), (by first | exact congr (congrArg Prod.mk (by first | exact (zq3_1 hdx1).symm | exact (zq3_2 hdx2).symm | exact (zq3_3 hdx3).symm | exact (by unfold uGet; rw [zq3_s hdx1 hdx2 hdx3]; first | done | rfl))) (by first | exact (zq3_1 hdx1).symm | exact (zq3_2 hdx2).symm | exact (zq3_3 hdx3).symm | exact (by unfold vGet; rw [zq3_s hdx1 hdx2 hdx3]; first | done | rfl)))⟩, by rw [ht]; exact hP, va_K.moved hW.alike hK, hD⟩, hS.F ht⟩) hS.2.2 dX1_get_83
      ·
        refine lv_if_ne (tgt := 25) hx hb dX1_get_20 (by decide) (fun q => absurd q (by decide)) (fun _ => ?_)
        refine lv_iconst (v := (-1)) hx hb dX1_get_23 (by decide) ?_
        exact W.iret (v := (-1)) hx hb hr (fun t ht hW => ⟨⟨_, (cx, rd), rfl, ⟨(by first | exact (zq3_1 hdx1).symm | exact (zq3_2 hdx2).symm | exact (zq3_3 hdx3).symm | exact (by unfold aGet; rw [zq3_s hdx1 hdx2 hdx3]; first | done | rfl)), (by first | exact congr (congrArg Prod.mk (by first | exact (zq3_1 hdx1).symm | exact (zq3_2 hdx2).symm | exact (zq3_3 hdx3).symm | exact (by unfold uGet; rw [zq3_s hdx1 hdx2 hdx3]; first | done | rfl))) (by first | exact (zq3_1 hdx1).symm | exact (zq3_2 hdx2).symm | exact (zq3_3 hdx3).symm | exact (by unfold vGet; rw [zq3_s hdx1 hdx2 hdx3]; first | done | rfl)))⟩, by rw [ht]; exact hP, va_K.moved hW.alike hK, hD⟩, hS.F ht⟩) hS.2.2 dX1_get_24
    ·
      refine lv_if_eq (tgt := 23) hx hb dX1_get_13 (by decide) (fun _ => ?_) (fun q => absurd q (by decide))
      refine lv_iconst (v := (-1)) hx hb dX1_get_23 (by decide) ?_
      exact W.iret (v := (-1)) hx hb hr (fun t ht hW => ⟨⟨_, (cx, rd), rfl, ⟨(by first | exact (zq3_1 hdx1).symm | exact (zq3_2 hdx2).symm | exact (zq3_3 hdx3).symm | exact (by unfold aGet; rw [zq3_s hdx1 hdx2 hdx3]; first | done | rfl)), (by first | exact congr (congrArg Prod.mk (by first | exact (zq3_1 hdx1).symm | exact (zq3_2 hdx2).symm | exact (zq3_3 hdx3).symm | exact (by unfold uGet; rw [zq3_s hdx1 hdx2 hdx3]; first | done | rfl))) (by first | exact (zq3_1 hdx1).symm | exact (zq3_2 hdx2).symm | exact (zq3_3 hdx3).symm | exact (by unfold vGet; rw [zq3_s hdx1 hdx2 hdx3]; first | done | rfl)))⟩, by rw [ht]; exact hP, va_K.moved hW.alike hK, hD⟩, hS.F ht⟩) hS.2.2 dX1_get_24
  ·
    refine lv_if_eq (tgt := 23) hx hb dX1_get_5 (by decide) (fun _ => ?_) (fun q => absurd q (by decide))
    refine lv_iconst (v := (-1)) hx hb dX1_get_23 (by decide) ?_
    exact W.iret (v := (-1)) hx hb hr (fun t ht hW => ⟨⟨_, (cx, rd), rfl, ⟨(by first | exact (zq3_1 hdx1).symm | exact (zq3_2 hdx2).symm | exact (zq3_3 hdx3).symm | exact (by unfold aGet; rw [zq3_s hdx1 hdx2 hdx3]; first | done | rfl)), (by first | exact congr (congrArg Prod.mk (by first | exact (zq3_1 hdx1).symm | exact (zq3_2 hdx2).symm | exact (zq3_3 hdx3).symm | exact (by unfold uGet; rw [zq3_s hdx1 hdx2 hdx3]; first | done | rfl))) (by first | exact (zq3_1 hdx1).symm | exact (zq3_2 hdx2).symm | exact (zq3_3 hdx3).symm | exact (by unfold vGet; rw [zq3_s hdx1 hdx2 hdx3]; first | done | rfl)))⟩, by rw [ht]; exact hP, va_K.moved hW.alike hK, hD⟩, hS.F ht⟩) hS.2.2 dX1_get_24
set_option maxHeartbeats 4000000 in
set_option maxRecDepth 100000 in
/-- forget -/
theorem c_X1_forget (l : Launch) (dC : Nat → ClassId) (dI : Nat → Nat → Nat) (ad : Nat → Nat) (cI cJ : ClassId) (S C : Nat) (n : Nat → Nat) (va : Nat → Nat → Int32) (mk ct ps kn cx rd : Nat → Nat → Nat) (hG : zG S C n mk ct ps kn cx) (x1 x2 : Int32) (sz : Nat) : Met l yX1_forget wsX1_forget ({ frames := 1, cells := 0, slots := 0, locals := 21 }) (va_Pc [.ref (ad 0), .int x1, .int x2] (mC dC dI ad cI cJ S C n va mk ct ps kn cx rd sz)) (va_Qi (fun (r : Int32) (u : (Nat → Nat → Nat) × (Nat → Nat → Nat)) => r = aForget C x1 x2 ∧ u = (uForget C cx x1 x2, uForget C rd x1 x2)) (fun u t => mE (va_A (mw ad cI cJ S C n va mk ct ps kn cx rd) sz) dC dI ad cI cJ S C n va mk ct ps kn (u.1) (u.2) t) (va_A (mw ad cI cJ S C n va mk ct ps kn cx rd) sz)) 0 0 (va_A (mw ad cI cJ S C n va mk ct ps kn cx rd) sz) := by
  refine Met.ofW (cc := cX1_forget) (maxL := 3) (ret := (some .boolean)) (by decide) rfl ?_
  intro p e s m args below meth c s₁ B hml hv
  obtain ⟨rfl, hsz, hP, hK, hD0⟩ := hv
  have hx := B.exec
  have hb := B.bytes
  have hr := B.returns
  have hts := atoms_spec (ws := wsX1_forget) B.pre
  have hown : s.vm.findClass RX1 = some m.cls := findClass_of_methodNamed B.named
  have hlocks := B.notSynchronized
  have hin0 : ∀ w ∈ wsX10, w ∈ wsX1_forget := fun _ h => List.mem_cons_of_mem _ (List.mem_append_right _ h)
  subst hsz
  have hD := hD0.self (sz := s.heap.size)
  generalize hAe : va_A (mw ad cI cJ S C n va mk ct ps kn cx rd) s.heap.size = A at hD ⊢
  have hS : va_S A s.heap s.heap [] := va_S.rf
  have hl := lv_entry ([.ref (ad 0), .int x1, .int x2]) (n := 3) (Nat.le_of_ble_eq_true rfl)
  rw [lg_entry_eq]
  generalize (lg_sl ([.ref (ad 0), .int x1, .int x2]) ++ List.replicate (3 - (lg_sl ([.ref (ad 0), .int x1, .int x2])).length) Slot.unset).toArray = ls at hl ⊢
  have hl : lv_has ls 3 [(0, .ref (ad 0)), (1, .int x1), (2, .int x2)] := hl
  obtain ⟨⟨hS1, hS4, hC1, hC4⟩, hn, hmk, hct, hps, hkn, hcx, hcn, hkw⟩ := hG
  refine lv_aload_n hx hb dX1_forget_0 rfl (lv_at hl 0 rfl) ?_
  refine lv_iload_n hx hb dX1_forget_1 rfl (lv_at hl 1 rfl) ?_
  refine vp_callSi (W.runV (As := [.int x1]) (rest := []) ⟨hx, hb, hml, hown, hts⟩ (c_X1_isClient l dC dI ad cI cJ S C n va mk ct ps kn cx rd (by omega) x1) (cwV 1 hts gX1_forget_X1_isClient rfl rfl rfl (by decide +kernel) ⟨Nat.le_of_ble_eq_true rfl, Nat.le_of_ble_eq_true rfl⟩) ⟨mB_blind, va_recv hK hP (ci := 1) (q0 := 0) rfl rfl, fun U hU hW => ⟨rfl, mB_at hP hK hU hW⟩⟩ rfl rfl hl.1 rfl (lv_room (Nat.le_of_ble_eq_true rfl)) dX1_forget_2 ⟨Nat.le_of_ble_eq_true rfl, Nat.le_of_ble_eq_true rfl⟩) (fun r hq => ?_)
  rcases hq with ⟨rfl, cl, hcl, rfl, hdx1⟩ | ⟨rfl, hdx1⟩
  ·
    refine lv_if_eq (tgt := 15) hx hb dX1_forget_5 (by decide) (fun q => absurd q (by decide)) (fun _ => ?_)
    refine lv_iload_n hx hb dX1_forget_8 rfl (lv_at hl 2 rfl) ?_
    refine vp_callSi (W.runS (As := [.int x2]) (rest := []) ⟨hx, hb, hml, hown, hts⟩ (c_X1_isKey l x2) (va_cwS 1 hts gX1_forget_X1_isKey rfl rfl rfl (by decide +kernel) ⟨Nat.le_of_ble_eq_true rfl, Nat.le_of_ble_eq_true rfl⟩) ⟨zB_blind, fun U hU hW => ⟨rfl, trivial⟩⟩ rfl rfl hl.1 rfl (lv_room (Nat.le_of_ble_eq_true rfl)) dX1_forget_9 ⟨Nat.le_of_ble_eq_true rfl, Nat.le_of_ble_eq_true rfl⟩) (fun r hq => ?_)
    rcases hq with ⟨rfl, ky, hky, rfl, hdx2⟩ | ⟨rfl, hdx2⟩
    ·
      refine lv_if_ne (tgt := 17) hx hb dX1_forget_12 (by decide) (fun _ => ?_) (fun q => absurd q (by decide))
      refine lv_aload_n hx hb dX1_forget_17 rfl (lv_at hl 0 rfl) ?_
      refine va_get (D := (dC, dI)) (ci := 1) (v := .ref (ad 7)) (C := RX1) (T := TX1) (N := 10) hx hb hts hin0 hown hK hP 0 rfl rfl 8 (by decide) (hts (.fieldLink RX1 29 "DottedSiblingsModel" "contexts" "[J") (by decide +kernel)) (fun _ h9 => h9) rfl dX1_forget_18 ?_
      refine lv_iconst (v := nI 3) hx hb dX1_forget_21 (by decide) ?_
      refine lv_iload_n hx hb dX1_forget_22 rfl (lv_at hl 1 rfl) ?_
      refine zr_imul hx hb dX1_forget_23 ?_
      refine lv_iload_n hx hb dX1_forget_24 rfl (lv_at hl 2 rfl) ?_
      refine zr_iadd hx hb dX1_forget_25 ?_
      refine lv_lconst (v := lN 0) hx hb dX1_forget_26 (by decide) ?_
      refine zr_last hx hb hK hP hD hS 7 1 rfl rfl (by omega) (by omega) (ms_cx (by omega) _) dX1_forget_27 (fun H locs hP hD hS => ?_)
      refine lv_aload_n hx hb dX1_forget_28 rfl (lv_at hl 0 rfl) ?_
      refine va_get (D := (dC, dI)) (ci := 1) (v := .ref (ad 8)) (C := RX1) (T := TX1) (N := 10) hx hb hts hin0 hown hK hP 0 rfl rfl 9 (by decide) (hts (.fieldLink RX1 32 "DottedSiblingsModel" "reads" "[J") (by decide +kernel)) (fun _ h9 => h9) rfl dX1_forget_29 ?_
      refine lv_iconst (v := nI 3) hx hb dX1_forget_32 (by decide) ?_
      refine lv_iload_n hx hb dX1_forget_33 rfl (lv_at hl 1 rfl) ?_
      refine zr_imul hx hb dX1_forget_34 ?_
      refine lv_iload_n hx hb dX1_forget_35 rfl (lv_at hl 2 rfl) ?_
      refine zr_iadd hx hb dX1_forget_36 ?_
      refine lv_lconst (v := lN 0) hx hb dX1_forget_37 (by decide) ?_
      refine zr_last hx hb hK hP hD hS 8 1 rfl rfl (by omega) (by omega) (ms_rd (by omega) _) dX1_forget_38 (fun H locs hP hD hS => ?_)
      refine lv_iconst (v := nI 1) hx hb dX1_forget_39 (by decide) ?_
      exact W.zret (v := nI 1) hx hb hr (by first | rfl | decide) (fun t ht hW => ⟨⟨_, ((zU cx ky cl 0), (zU rd ky cl 0)), rfl, ⟨(by first | exact (zq2_1 hdx1).symm | exact (zq2_2 hdx2).symm | exact (by unfold aForget; rw [zq2_s hdx1 hdx2]; first | done | rfl)), (by first | exact congr (congrArg Prod.mk (by first | exact (zq2_1 hdx1).symm | exact (zq2_2 hdx2).symm | exact (by unfold uForget; rw [zq2_s hdx1 hdx2]; first | done | rfl))) (by first | exact (zq2_1 hdx1).symm | exact (zq2_2 hdx2).symm | exact (by unfold uForget; rw [zq2_s hdx1 hdx2]; first | done | rfl)))⟩, by rw [ht]; exact hP, va_K.moved hW.alike hK, hD⟩, hS.F ht⟩) hS.2.2 dX1_forget_40
    ·
      refine lv_if_ne (tgt := 17) hx hb dX1_forget_12 (by decide) (fun q => absurd q (by decide)) (fun _ => ?_)
      refine lv_iconst (v := nI 0) hx hb dX1_forget_15 (by decide) ?_
      exact W.zret (v := nI 0) hx hb hr (by first | rfl | decide) (fun t ht hW => ⟨⟨_, (cx, rd), rfl, ⟨(by first | exact (zq2_1 hdx1).symm | exact (zq2_2 hdx2).symm | exact (by unfold aForget; rw [zq2_s hdx1 hdx2]; first | done | rfl)), (by first | exact congr (congrArg Prod.mk (by first | exact (zq2_1 hdx1).symm | exact (zq2_2 hdx2).symm | exact (by unfold uForget; rw [zq2_s hdx1 hdx2]; first | done | rfl))) (by first | exact (zq2_1 hdx1).symm | exact (zq2_2 hdx2).symm | exact (by unfold uForget; rw [zq2_s hdx1 hdx2]; first | done | rfl)))⟩, by rw [ht]; exact hP, va_K.moved hW.alike hK, hD⟩, hS.F ht⟩) hS.2.2 dX1_forget_16
  ·
    refine lv_if_eq (tgt := 15) hx hb dX1_forget_5 (by decide) (fun _ => ?_) (fun q => absurd q (by decide))
    refine lv_iconst (v := nI 0) hx hb dX1_forget_15 (by decide) ?_
    exact W.zret (v := nI 0) hx hb hr (by first | rfl | decide) (fun t ht hW => ⟨⟨_, (cx, rd), rfl, ⟨(by first | exact (zq2_1 hdx1).symm | exact (zq2_2 hdx2).symm | exact (by unfold aForget; rw [zq2_s hdx1 hdx2]; first | done | rfl)), (by first | exact congr (congrArg Prod.mk (by first | exact (zq2_1 hdx1).symm | exact (zq2_2 hdx2).symm | exact (by unfold uForget; rw [zq2_s hdx1 hdx2]; first | done | rfl))) (by first | exact (zq2_1 hdx1).symm | exact (zq2_2 hdx2).symm | exact (by unfold uForget; rw [zq2_s hdx1 hdx2]; first | done | rfl)))⟩, by rw [ht]; exact hP, va_K.moved hW.alike hK, hD⟩, hS.F ht⟩) hS.2.2 dX1_forget_16
set_option maxHeartbeats 4000000 in
set_option maxRecDepth 100000 in
/-- sync -/
theorem c_X1_sync (l : Launch) (dC : Nat → ClassId) (dI : Nat → Nat → Nat) (ad : Nat → Nat) (cI cJ : ClassId) (S C : Nat) (n : Nat → Nat) (va : Nat → Nat → Int32) (mk ct ps kn cx rd : Nat → Nat → Nat) (hG : zG S C n mk ct ps kn cx) (x1 x2 x3 : Int32) (sz : Nat) : Met l yX1_sync wsX1_sync ({ frames := 1, cells := 0, slots := 0, locals := 21 }) (va_Pc [.ref (ad 0), .int x1, .int x2, .int x3] (mC dC dI ad cI cJ S C n va mk ct ps kn cx rd sz)) (va_Qi (fun (r : Int32) (u : Nat → Nat → Nat) => r = aSync S x1 x2 x3 ∧ u = uSync S kn x1 x2 x3) (fun u t => mE (va_A (mw ad cI cJ S C n va mk ct ps kn cx rd) sz) dC dI ad cI cJ S C n va mk ct ps u cx rd t) (va_A (mw ad cI cJ S C n va mk ct ps kn cx rd) sz)) 0 0 (va_A (mw ad cI cJ S C n va mk ct ps kn cx rd) sz) := by
  refine Met.ofW (cc := cX1_sync) (maxL := 4) (ret := (some .boolean)) (by decide) rfl ?_
  intro p e s m args below meth c s₁ B hml hv
  obtain ⟨rfl, hsz, hP, hK, hD0⟩ := hv
  have hx := B.exec
  have hb := B.bytes
  have hr := B.returns
  have hts := atoms_spec (ws := wsX1_sync) B.pre
  have hown : s.vm.findClass RX1 = some m.cls := findClass_of_methodNamed B.named
  have hlocks := B.notSynchronized
  have hin0 : ∀ w ∈ wsX10, w ∈ wsX1_sync := fun _ h => List.mem_cons_of_mem _ (List.mem_append_right _ h)
  subst hsz
  have hD := hD0.self (sz := s.heap.size)
  generalize hAe : va_A (mw ad cI cJ S C n va mk ct ps kn cx rd) s.heap.size = A at hD ⊢
  have hS : va_S A s.heap s.heap [] := va_S.rf
  have hl := lv_entry ([.ref (ad 0), .int x1, .int x2, .int x3]) (n := 4) (Nat.le_of_ble_eq_true rfl)
  rw [lg_entry_eq]
  generalize (lg_sl ([.ref (ad 0), .int x1, .int x2, .int x3]) ++ List.replicate (4 - (lg_sl ([.ref (ad 0), .int x1, .int x2, .int x3])).length) Slot.unset).toArray = ls at hl ⊢
  have hl : lv_has ls 4 [(0, .ref (ad 0)), (1, .int x1), (2, .int x2), (3, .int x3)] := hl
  obtain ⟨⟨hS1, hS4, hC1, hC4⟩, hn, hmk, hct, hps, hkn, hcx, hcn, hkw⟩ := hG
  refine lv_aload_n hx hb dX1_sync_0 rfl (lv_at hl 0 rfl) ?_
  refine lv_iload_n hx hb dX1_sync_1 rfl (lv_at hl 1 rfl) ?_
  refine vp_callSi (W.runV (As := [.int x1]) (rest := []) ⟨hx, hb, hml, hown, hts⟩ (c_X1_isServer l dC dI ad cI cJ S C n va mk ct ps kn cx rd (by omega) x1) (cwV 1 hts gX1_sync_X1_isServer rfl rfl rfl (by decide +kernel) ⟨Nat.le_of_ble_eq_true rfl, Nat.le_of_ble_eq_true rfl⟩) ⟨mB_blind, va_recv hK hP (ci := 1) (q0 := 0) rfl rfl, fun U hU hW => ⟨rfl, mB_at hP hK hU hW⟩⟩ rfl rfl hl.1 rfl (lv_room (Nat.le_of_ble_eq_true rfl)) dX1_sync_2 ⟨Nat.le_of_ble_eq_true rfl, Nat.le_of_ble_eq_true rfl⟩) (fun r hq => ?_)
  rcases hq with ⟨rfl, sa, hsa, rfl, hdx1⟩ | ⟨rfl, hdx1⟩
  ·
    refine lv_if_eq (tgt := 28) hx hb dX1_sync_5 (by decide) (fun q => absurd q (by decide)) (fun _ => ?_)
    refine lv_aload_n hx hb dX1_sync_8 rfl (lv_at hl 0 rfl) ?_
    refine lv_iload_n hx hb dX1_sync_9 rfl (lv_at hl 2 rfl) ?_
    refine vp_callSi (W.runV (As := [.int x2]) (rest := []) ⟨hx, hb, hml, hown, hts⟩ (c_X1_isServer l dC dI ad cI cJ S C n va mk ct ps kn cx rd (by omega) x2) (cwV 1 hts gX1_sync_X1_isServer rfl rfl rfl (by decide +kernel) ⟨Nat.le_of_ble_eq_true rfl, Nat.le_of_ble_eq_true rfl⟩) ⟨mB_blind, va_recv hK hP (ci := 1) (q0 := 0) rfl rfl, fun U hU hW => ⟨rfl, mB_at hP hK hU hW⟩⟩ rfl rfl hl.1 rfl (lv_room (Nat.le_of_ble_eq_true rfl)) dX1_sync_10 ⟨Nat.le_of_ble_eq_true rfl, Nat.le_of_ble_eq_true rfl⟩) (fun r hq => ?_)
    rcases hq with ⟨rfl, sb, hsb, rfl, hdx2⟩ | ⟨rfl, hdx2⟩
    ·
      refine lv_if_eq (tgt := 28) hx hb dX1_sync_13 (by decide) (fun q => absurd q (by decide)) (fun _ => ?_)
      refine lv_iload_n hx hb dX1_sync_16 rfl (lv_at hl 1 rfl) ?_
      refine lv_iload_n hx hb dX1_sync_17 rfl (lv_at hl 2 rfl) ?_
      refine zr_ieq (tgt := 28) hx hb (by omega) (by omega) dX1_sync_18 (by decide) (fun c18 => ?_) (fun c18 => ?_)
      ·
        refine lv_iconst (v := nI 0) hx hb dX1_sync_28 (by decide) ?_
        exact W.zret (v := nI 0) hx hb hr (by first | rfl | decide) (fun t ht hW => ⟨⟨_, kn, rfl, ⟨(by first | exact (zq3_1 hdx1).symm | exact (zq3_2 hdx2).symm | exact (zq3_3 hdx3).symm | exact (by unfold aSync; rw [zq3_s hdx1 hdx2 hdx3, if_neg c18]; first | done | rfl) | exact (by unfold aSync; rw [hdx1, hdx2]; cases zD 3 x3 <;> simp [zq3, c18, nI_0])), (by first | exact (zq3_1 hdx1).symm | exact (zq3_2 hdx2).symm | exact (zq3_3 hdx3).symm | exact (by unfold uSync; rw [zq3_s hdx1 hdx2 hdx3, if_neg c18]; first | done | rfl) | exact (by unfold uSync; rw [hdx1, hdx2]; cases zD 3 x3 <;> simp [zq3, c18]))⟩, by rw [ht]; exact hP, va_K.moved hW.alike hK, hD⟩, hS.F ht⟩) hS.2.2 dX1_sync_29
      ·
        refine lv_iload_n hx hb dX1_sync_21 rfl (lv_at hl 3 rfl) ?_
        refine vp_callSi (W.runS (As := [.int x3]) (rest := []) ⟨hx, hb, hml, hown, hts⟩ (c_X1_isKey l x3) (va_cwS 1 hts gX1_sync_X1_isKey rfl rfl rfl (by decide +kernel) ⟨Nat.le_of_ble_eq_true rfl, Nat.le_of_ble_eq_true rfl⟩) ⟨zB_blind, fun U hU hW => ⟨rfl, trivial⟩⟩ rfl rfl hl.1 rfl (lv_room (Nat.le_of_ble_eq_true rfl)) dX1_sync_22 ⟨Nat.le_of_ble_eq_true rfl, Nat.le_of_ble_eq_true rfl⟩) (fun r hq => ?_)
        rcases hq with ⟨rfl, ky, hky, rfl, hdx3⟩ | ⟨rfl, hdx3⟩
        ·
          refine lv_if_ne (tgt := 30) hx hb dX1_sync_25 (by decide) (fun _ => ?_) (fun q => absurd q (by decide))
          refine lv_aload_n hx hb dX1_sync_30 rfl (lv_at hl 0 rfl) ?_
          refine va_get (D := (dC, dI)) (ci := 1) (v := .ref (ad 6)) (C := RX1) (T := TX1) (N := 10) hx hb hts hin0 hown hK hP 0 rfl rfl 7 (by decide) (hts (.fieldLink RX1 26 "DottedSiblingsModel" "known" "[J") (by decide +kernel)) (fun _ h9 => h9) rfl dX1_sync_31 ?_
          refine lv_iconst (v := nI 3) hx hb dX1_sync_34 (by decide) ?_
          refine lv_iload_n hx hb dX1_sync_35 rfl (lv_at hl 1 rfl) ?_
          refine zr_imul hx hb dX1_sync_36 ?_
          refine lv_iload_n hx hb dX1_sync_37 rfl (lv_at hl 3 rfl) ?_
          refine zr_iadd hx hb dX1_sync_38 ?_
          refine lv_dup2_11 hx hb dX1_sync_39 rfl rfl ?_
          refine zr_lald (v := lN (kn ky sa)) hx hb hK hP 6 1 rfl rfl (by omega) (by omega) (congrArg lN (zf3 _ (by omega))) dX1_sync_40 ?_
          refine lv_aload_n hx hb dX1_sync_41 rfl (lv_at hl 0 rfl) ?_
          refine va_get (D := (dC, dI)) (ci := 1) (v := .ref (ad 6)) (C := RX1) (T := TX1) (N := 10) hx hb hts hin0 hown hK hP 0 rfl rfl 7 (by decide) (hts (.fieldLink RX1 26 "DottedSiblingsModel" "known" "[J") (by decide +kernel)) (fun _ h9 => h9) rfl dX1_sync_42 ?_
          refine lv_iconst (v := nI 3) hx hb dX1_sync_45 (by decide) ?_
          refine lv_iload_n hx hb dX1_sync_46 rfl (lv_at hl 2 rfl) ?_
          refine zr_imul hx hb dX1_sync_47 ?_
          refine lv_iload_n hx hb dX1_sync_48 rfl (lv_at hl 3 rfl) ?_
          refine zr_iadd hx hb dX1_sync_49 ?_
          refine zr_lald (v := lN (kn ky sb)) hx hb hK hP 6 1 rfl rfl (by omega) (by omega) (congrArg lN (zf3 _ (by omega))) dX1_sync_50 ?_
          refine zr_lor hx hb dX1_sync_51 ?_
          refine zr_last hx hb hK hP hD hS 6 1 rfl rfl (by omega) (by omega) (ms_kn (by omega) _) dX1_sync_52 (fun H locs hP hD hS => ?_)
          refine lv_aload_n hx hb dX1_sync_53 rfl (lv_at hl 0 rfl) ?_
          refine va_get (D := (dC, dI)) (ci := 1) (v := .ref (ad 6)) (C := RX1) (T := TX1) (N := 10) hx hb hts hin0 hown hK hP 0 rfl rfl 7 (by decide) (hts (.fieldLink RX1 26 "DottedSiblingsModel" "known" "[J") (by decide +kernel)) (fun _ h9 => h9) rfl dX1_sync_54 ?_
          refine lv_iconst (v := nI 3) hx hb dX1_sync_57 (by decide) ?_
          refine lv_iload_n hx hb dX1_sync_58 rfl (lv_at hl 2 rfl) ?_
          refine zr_imul hx hb dX1_sync_59 ?_
          refine lv_iload_n hx hb dX1_sync_60 rfl (lv_at hl 3 rfl) ?_
          refine zr_iadd hx hb dX1_sync_61 ?_
          refine lv_aload_n hx hb dX1_sync_62 rfl (lv_at hl 0 rfl) ?_
          refine va_get (D := (dC, dI)) (ci := 1) (v := .ref (ad 6)) (C := RX1) (T := TX1) (N := 10) hx hb hts hin0 hown hK hP 0 rfl rfl 7 (by decide) (hts (.fieldLink RX1 26 "DottedSiblingsModel" "known" "[J") (by decide +kernel)) (fun _ h9 => h9) rfl dX1_sync_63 ?_
          refine lv_iconst (v := nI 3) hx hb dX1_sync_66 (by decide) ?_
          refine lv_iload_n hx hb dX1_sync_67 rfl (lv_at hl 1 rfl) ?_
          refine zr_imul hx hb dX1_sync_68 ?_
          refine lv_iload_n hx hb dX1_sync_69 rfl (lv_at hl 3 rfl) ?_
          refine zr_iadd hx hb dX1_sync_70 ?_
          refine zr_lald (v := lN ((kn ky sa) ||| (kn ky sb))) hx hb hK hP 6 1 rfl rfl (by omega) (by omega) (congrArg lN ((zf3 _ (by omega)).trans (zU_s _ _ _ _))) dX1_sync_71 ?_
          refine zr_last hx hb hK hP hD hS 6 1 rfl rfl (by omega) (by omega) (ms_kn (by omega) _) dX1_sync_72 (fun H locs hP hD hS => ?_)
          refine lv_iconst (v := nI 1) hx hb dX1_sync_73 (by decide) ?_
          exact W.zret (v := nI 1) hx hb hr (by first | rfl | decide) (fun t ht hW => ⟨⟨_, (zU (zU kn ky sa ((kn ky sa) ||| (kn ky sb))) ky sb ((kn ky sa) ||| (kn ky sb))), rfl, ⟨(by first | exact (zq3_1 hdx1).symm | exact (zq3_2 hdx2).symm | exact (zq3_3 hdx3).symm | exact (by unfold aSync; rw [zq3_s hdx1 hdx2 hdx3, if_neg c18]; first | done | rfl) | exact (by unfold aSync; rw [hdx1, hdx2]; cases zD 3 x3 <;> simp [zq3, c18, nI_0])), (by first | exact (zq3_1 hdx1).symm | exact (zq3_2 hdx2).symm | exact (zq3_3 hdx3).symm | exact (by unfold uSync; rw [zq3_s hdx1 hdx2 hdx3, if_neg c18]; first | done | rfl) | exact (by unfold uSync; rw [hdx1, hdx2]; cases zD 3 x3 <;> simp [zq3, c18]))⟩, by rw [ht]; exact hP, va_K.moved hW.alike hK, hD⟩, hS.F ht⟩) hS.2.2 dX1_sync_74
        ·
          refine lv_if_ne (tgt := 30) hx hb dX1_sync_25 (by decide) (fun q => absurd q (by decide)) (fun _ => ?_)
          refine lv_iconst (v := nI 0) hx hb dX1_sync_28 (by decide) ?_
          exact W.zret (v := nI 0) hx hb hr (by first | rfl | decide) (fun t ht hW => ⟨⟨_, kn, rfl, ⟨(by first | exact (zq3_1 hdx1).symm | exact (zq3_2 hdx2).symm | exact (zq3_3 hdx3).symm | exact (by unfold aSync; rw [zq3_s hdx1 hdx2 hdx3, if_neg c18]; first | done | rfl) | exact (by unfold aSync; rw [hdx1, hdx2]; cases zD 3 x3 <;> simp [zq3, c18, nI_0])), (by first | exact (zq3_1 hdx1).symm | exact (zq3_2 hdx2).symm | exact (zq3_3 hdx3).symm | exact (by unfold uSync; rw [zq3_s hdx1 hdx2 hdx3, if_neg c18]; first | done | rfl) | exact (by unfold uSync; rw [hdx1, hdx2]; cases zD 3 x3 <;> simp [zq3, c18]))⟩, by rw [ht]; exact hP, va_K.moved hW.alike hK, hD⟩, hS.F ht⟩) hS.2.2 dX1_sync_29
    ·
      refine lv_if_eq (tgt := 28) hx hb dX1_sync_13 (by decide) (fun _ => ?_) (fun q => absurd q (by decide))
      refine lv_iconst (v := nI 0) hx hb dX1_sync_28 (by decide) ?_
      exact W.zret (v := nI 0) hx hb hr (by first | rfl | decide) (fun t ht hW => ⟨⟨_, kn, rfl, ⟨(by first | exact (zq3_1 hdx1).symm | exact (zq3_2 hdx2).symm | exact (zq3_3 hdx3).symm | exact (by unfold aSync; rw [zq3_s hdx1 hdx2 hdx3, if_neg c18]; first | done | rfl) | exact (by unfold aSync; rw [hdx1, hdx2]; cases zD 3 x3 <;> simp [zq3, c18, nI_0])), (by first | exact (zq3_1 hdx1).symm | exact (zq3_2 hdx2).symm | exact (zq3_3 hdx3).symm | exact (by unfold uSync; rw [zq3_s hdx1 hdx2 hdx3, if_neg c18]; first | done | rfl) | exact (by unfold uSync; rw [hdx1, hdx2]; cases zD 3 x3 <;> simp [zq3, c18]))⟩, by rw [ht]; exact hP, va_K.moved hW.alike hK, hD⟩, hS.F ht⟩) hS.2.2 dX1_sync_29
  ·
    refine lv_if_eq (tgt := 28) hx hb dX1_sync_5 (by decide) (fun _ => ?_) (fun q => absurd q (by decide))
    refine lv_iconst (v := nI 0) hx hb dX1_sync_28 (by decide) ?_
    exact W.zret (v := nI 0) hx hb hr (by first | rfl | decide) (fun t ht hW => ⟨⟨_, kn, rfl, ⟨(by first | exact (zq3_1 hdx1).symm | exact (zq3_2 hdx2).symm | exact (zq3_3 hdx3).symm | exact (by unfold aSync; rw [zq3_s hdx1 hdx2 hdx3, if_neg c18]; first | done | rfl) | exact (by unfold aSync; rw [hdx1, hdx2]; cases zD 3 x3 <;> simp [zq3, c18, nI_0])), (by first | exact (zq3_1 hdx1).symm | exact (zq3_2 hdx2).symm | exact (zq3_3 hdx3).symm | exact (by unfold uSync; rw [zq3_s hdx1 hdx2 hdx3, if_neg c18]; first | done | rfl) | exact (by unfold uSync; rw [hdx1, hdx2]; cases zD 3 x3 <;> simp [zq3, c18]))⟩, by rw [ht]; exact hP, va_K.moved hW.alike hK, hD⟩, hS.F ht⟩) hS.2.2 dX1_sync_29
set_option maxHeartbeats 4000000 in
set_option maxRecDepth 100000 in
/-- put -/
theorem c_X1_put (l : Launch) (dC : Nat → ClassId) (dI : Nat → Nat → Nat) (ad : Nat → Nat) (cI cJ : ClassId) (S C : Nat) (n : Nat → Nat) (va : Nat → Nat → Int32) (mk ct ps kn cx rd : Nat → Nat → Nat) (hG : zG S C n mk ct ps kn cx) (x1 x2 x3 x4 : Int32) (sz : Nat) : Met l yX1_put wsX1_put ({ frames := 1, cells := 0, slots := 0, locals := 21 }) (va_Pc [.ref (ad 0), .int x1, .int x2, .int x3, .int x4] (mC dC dI ad cI cJ S C n va mk ct ps kn cx rd sz)) (va_Qi (fun (r : Int32) (u : zPT) => r = aPut S C n x1 x2 x3 ∧ u = uPut S C n va mk ct ps kn cx x1 x2 x3 x4) (fun u t => mE (va_A (mw ad cI cJ S C n va mk ct ps kn cx rd) sz) dC dI ad cI cJ S C (u.1) (u.2.1) (u.2.2.1) (u.2.2.2.1) (u.2.2.2.2.1) (u.2.2.2.2.2) cx rd t) (va_A (mw ad cI cJ S C n va mk ct ps kn cx rd) sz)) 0 0 (va_A (mw ad cI cJ S C n va mk ct ps kn cx rd) sz) := by
  refine Met.ofW (cc := cX1_put) (maxL := 8) (ret := (some .int)) (by decide) rfl ?_
  intro p e s m args below meth c s₁ B hml hv
  obtain ⟨rfl, hsz, hP, hK, hD0⟩ := hv
  have hx := B.exec
  have hb := B.bytes
  have hr := B.returns
  have hts := atoms_spec (ws := wsX1_put) B.pre
  have hown : s.vm.findClass RX1 = some m.cls := findClass_of_methodNamed B.named
  have hlocks := B.notSynchronized
  have hin0 : ∀ w ∈ wsX10, w ∈ wsX1_put := fun _ h => List.mem_cons_of_mem _ (List.mem_append_right _ h)
  subst hsz
  have hD := hD0.self (sz := s.heap.size)
  generalize hAe : va_A (mw ad cI cJ S C n va mk ct ps kn cx rd) s.heap.size = A at hD ⊢
  have hS : va_S A s.heap s.heap [] := va_S.rf
  have hl := lv_entry ([.ref (ad 0), .int x1, .int x2, .int x3, .int x4]) (n := 8) (Nat.le_of_ble_eq_true rfl)
  rw [lg_entry_eq]
  generalize (lg_sl ([.ref (ad 0), .int x1, .int x2, .int x3, .int x4]) ++ List.replicate (8 - (lg_sl ([.ref (ad 0), .int x1, .int x2, .int x3, .int x4])).length) Slot.unset).toArray = ls at hl ⊢
  have hl : lv_has ls 8 [(0, .ref (ad 0)), (1, .int x1), (2, .int x2), (3, .int x3), (4, .int x4)] := hl
  obtain ⟨⟨hS1, hS4, hC1, hC4⟩, hn, hmk, hct, hps, hkn, hcx, hcn, hkw⟩ := hG
  refine lv_aload_n hx hb dX1_put_0 rfl (lv_at hl 0 rfl) ?_
  refine lv_iload_n hx hb dX1_put_1 rfl (lv_at hl 1 rfl) ?_
  refine vp_callSi (W.runV (As := [.int x1]) (rest := []) ⟨hx, hb, hml, hown, hts⟩ (c_X1_isServer l dC dI ad cI cJ S C n va mk ct ps kn cx rd (by omega) x1) (cwV 1 hts gX1_put_X1_isServer rfl rfl rfl (by decide +kernel) ⟨Nat.le_of_ble_eq_true rfl, Nat.le_of_ble_eq_true rfl⟩) ⟨mB_blind, va_recv hK hP (ci := 1) (q0 := 0) rfl rfl, fun U hU hW => ⟨rfl, mB_at hP hK hU hW⟩⟩ rfl rfl hl.1 rfl (lv_room (Nat.le_of_ble_eq_true rfl)) dX1_put_2 ⟨Nat.le_of_ble_eq_true rfl, Nat.le_of_ble_eq_true rfl⟩) (fun r hq => ?_)
  rcases hq with ⟨rfl, sv, hsv, rfl, hdx1⟩ | ⟨rfl, hdx1⟩
  ·
    refine lv_if_eq (tgt := 34) hx hb dX1_put_5 (by decide) (fun q => absurd q (by decide)) (fun _ => ?_)
    refine lv_aload_n hx hb dX1_put_8 rfl (lv_at hl 0 rfl) ?_
    refine lv_iload_n hx hb dX1_put_9 rfl (lv_at hl 2 rfl) ?_
    refine vp_callSi (W.runV (As := [.int x2]) (rest := []) ⟨hx, hb, hml, hown, hts⟩ (c_X1_isClient l dC dI ad cI cJ S C n va mk ct ps kn cx rd (by omega) x2) (cwV 1 hts gX1_put_X1_isClient rfl rfl rfl (by decide +kernel) ⟨Nat.le_of_ble_eq_true rfl, Nat.le_of_ble_eq_true rfl⟩) ⟨mB_blind, va_recv hK hP (ci := 1) (q0 := 0) rfl rfl, fun U hU hW => ⟨rfl, mB_at hP hK hU hW⟩⟩ rfl rfl hl.1 rfl (lv_room (Nat.le_of_ble_eq_true rfl)) dX1_put_10 ⟨Nat.le_of_ble_eq_true rfl, Nat.le_of_ble_eq_true rfl⟩) (fun r hq => ?_)
    rcases hq with ⟨rfl, cl, hcl, rfl, hdx2⟩ | ⟨rfl, hdx2⟩
    ·
      refine lv_if_eq (tgt := 34) hx hb dX1_put_13 (by decide) (fun q => absurd q (by decide)) (fun _ => ?_)
      refine lv_iload_n hx hb dX1_put_16 rfl (lv_at hl 3 rfl) ?_
      refine vp_callSi (W.runS (As := [.int x3]) (rest := []) ⟨hx, hb, hml, hown, hts⟩ (c_X1_isKey l x3) (va_cwS 1 hts gX1_put_X1_isKey rfl rfl rfl (by decide +kernel) ⟨Nat.le_of_ble_eq_true rfl, Nat.le_of_ble_eq_true rfl⟩) ⟨zB_blind, fun U hU hW => ⟨rfl, trivial⟩⟩ rfl rfl hl.1 rfl (lv_room (Nat.le_of_ble_eq_true rfl)) dX1_put_17 ⟨Nat.le_of_ble_eq_true rfl, Nat.le_of_ble_eq_true rfl⟩) (fun r hq => ?_)
      rcases hq with ⟨rfl, ky, hky, rfl, hdx3⟩ | ⟨rfl, hdx3⟩
      ·
        refine lv_if_eq (tgt := 34) hx hb dX1_put_20 (by decide) (fun q => absurd q (by decide)) (fun _ => ?_)
        refine lv_aload_n hx hb dX1_put_23 rfl (lv_at hl 0 rfl) ?_
        refine va_get (D := (dC, dI)) (ci := 1) (v := .ref (ad 1)) (C := RX1) (T := TX1) (N := 10) hx hb hts hin0 hown hK hP 0 rfl rfl 2 (by decide) (hts (.fieldLink RX1 7 "DottedSiblingsModel" "counts" "[I") (by decide +kernel)) (fun _ h9 => h9) rfl dX1_put_24 ?_
        refine lv_iload_n hx hb dX1_put_27 rfl (lv_at hl 3 rfl) ?_
        refine zr_iald (v := nI (n ky)) hx hb hK hP 1 0 rfl rfl (by omega) (by omega) rfl dX1_put_28 ?_
        have hn9 := hn ky
        refine lv_bipush (v := nI 40) hx hb dX1_put_29 (by decide) ?_
        refine zr_ine (tgt := 36) hx hb (by omega) (by omega) dX1_put_31 (by decide) (fun c31 => ?_) (fun c31 => ?_)
        ·
          refine lv_aload_n hx hb dX1_put_36 rfl (lv_at hl 0 rfl) ?_
          refine va_get (D := (dC, dI)) (ci := 1) (v := .ref (ad 1)) (C := RX1) (T := TX1) (N := 10) hx hb hts hin0 hown hK hP 0 rfl rfl 2 (by decide) (hts (.fieldLink RX1 7 "DottedSiblingsModel" "counts" "[I") (by decide +kernel)) (fun _ h9 => h9) rfl dX1_put_37 ?_
          refine lv_iload_n hx hb dX1_put_40 rfl (lv_at hl 3 rfl) ?_
          refine zr_iald (v := nI (n ky)) hx hb hK hP 1 0 rfl rfl (by omega) (by omega) rfl dX1_put_41 ?_
          refine lv_istore (lv' := [(5, .int (nI (n ky))), (0, .ref (ad 0)), (1, .int (nI sv)), (2, .int (nI cl)), (3, .int (nI ky)), (4, .int x4)]) hx hb dX1_put_42 hl (by decide) rfl (fun ls hl => ?_)
          refine lv_iconst (v := nI 1) hx hb dX1_put_44 (by decide) ?_
          refine lv_istore (lv' := [(6, .int (nI 1)), (5, .int (nI (n ky))), (0, .ref (ad 0)), (1, .int (nI sv)), (2, .int (nI cl)), (3, .int (nI ky)), (4, .int x4)]) hx hb dX1_put_45 hl (by decide) rfl (fun ls hl => ?_)
          refine lv_iconst (v := nI 0) hx hb dX1_put_47 (by decide) ?_
          refine lv_istore (lv' := [(7, .int (nI 0)), (6, .int (nI 1)), (5, .int (nI (n ky))), (0, .ref (ad 0)), (1, .int (nI sv)), (2, .int (nI cl)), (3, .int (nI ky)), (4, .int x4)]) hx hb dX1_put_48 hl (by decide) rfl (fun ls hl => ?_)
          refine zr_loop (pc := 50) (fun d ls => ∃ i, i ≤ n ky ∧ d = n ky - i ∧ lv_has ls 8 [(0, .ref (ad 0)), (1, .int (nI sv)), (2, .int (nI cl)), (3, .int (nI ky)), (4, .int x4), (5, .int (nI (n ky))), (6, .int (nI (1 + cn (fun v => decide (mk ky v = sv)) i))), (7, .int (nI i))]) ?_ _ _ ⟨0, Nat.zero_le _, rfl, lv_sub hl [3, 4, 5, 6, 7, 2, 1, 0] rfl⟩
          rintro d ls ⟨i, hi, rfl, hl⟩ ih50
          refine lv_iload hx hb dX1_put_50 (lv_at hl 7 rfl) ?_
          refine lv_iload hx hb dX1_put_52 (lv_at hl 5 rfl) ?_
          refine zr_ige (tgt := 89) hx hb (by omega) (by omega) dX1_put_54 (by decide) (fun c54 => ?_) (fun c54 => ?_)
          ·
            have ei : i = n ky := by omega
            subst ei
            refine lv_aload_n hx hb dX1_put_89 rfl (lv_at hl 0 rfl) ?_
            refine va_get (D := (dC, dI)) (ci := 1) (v := .ref (ad 2)) (C := RX1) (T := TX1) (N := 10) hx hb hts hin0 hown hK hP 0 rfl rfl 3 (by decide) (hts (.fieldLink RX1 13 "DottedSiblingsModel" "values" "[I") (by decide +kernel)) (fun _ h9 => h9) rfl dX1_put_90 ?_
            refine lv_bipush (v := nI 40) hx hb dX1_put_93 (by decide) ?_
            refine lv_iload_n hx hb dX1_put_95 rfl (lv_at hl 3 rfl) ?_
            refine zr_imul hx hb dX1_put_96 ?_
            refine lv_iload hx hb dX1_put_97 (lv_at hl 5 rfl) ?_
            refine zr_iadd hx hb dX1_put_99 ?_
            refine lv_iload hx hb dX1_put_100 (lv_at hl 4 rfl) ?_
            refine zr_iast hx hb hK hP hD hS 2 0 rfl rfl (by omega) (by omega) (ms_va (by omega) _) dX1_put_102 (fun H locs hP hD hS => ?_)
            refine lv_aload_n hx hb dX1_put_103 rfl (lv_at hl 0 rfl) ?_
            refine va_get (D := (dC, dI)) (ci := 1) (v := .ref (ad 3)) (C := RX1) (T := TX1) (N := 10) hx hb hts hin0 hown hK hP 0 rfl rfl 4 (by decide) (hts (.fieldLink RX1 16 "DottedSiblingsModel" "made" "[I") (by decide +kernel)) (fun _ h9 => h9) rfl dX1_put_104 ?_
            refine lv_bipush (v := nI 40) hx hb dX1_put_107 (by decide) ?_
            refine lv_iload_n hx hb dX1_put_109 rfl (lv_at hl 3 rfl) ?_
            refine zr_imul hx hb dX1_put_110 ?_
            refine lv_iload hx hb dX1_put_111 (lv_at hl 5 rfl) ?_
            refine zr_iadd hx hb dX1_put_113 ?_
            refine lv_iload_n hx hb dX1_put_114 rfl (lv_at hl 1 rfl) ?_
            refine zr_iast hx hb hK hP hD hS 3 0 rfl rfl (by omega) (by omega) (ms_mk (by omega) _) dX1_put_115 (fun H locs hP hD hS => ?_)
            refine lv_aload_n hx hb dX1_put_116 rfl (lv_at hl 0 rfl) ?_
            refine va_get (D := (dC, dI)) (ci := 1) (v := .ref (ad 4)) (C := RX1) (T := TX1) (N := 10) hx hb hts hin0 hown hK hP 0 rfl rfl 5 (by decide) (hts (.fieldLink RX1 19 "DottedSiblingsModel" "counters" "[I") (by decide +kernel)) (fun _ h9 => h9) rfl dX1_put_117 ?_
            refine lv_bipush (v := nI 40) hx hb dX1_put_120 (by decide) ?_
            refine lv_iload_n hx hb dX1_put_122 rfl (lv_at hl 3 rfl) ?_
            refine zr_imul hx hb dX1_put_123 ?_
            refine lv_iload hx hb dX1_put_124 (lv_at hl 5 rfl) ?_
            refine zr_iadd hx hb dX1_put_126 ?_
            refine lv_iload hx hb dX1_put_127 (lv_at hl 6 rfl) ?_
            refine zr_iast hx hb hK hP hD hS 4 0 rfl rfl (by omega) (by omega) (ms_ct (by omega) _) dX1_put_129 (fun H locs hP hD hS => ?_)
            refine lv_aload_n hx hb dX1_put_130 rfl (lv_at hl 0 rfl) ?_
            refine va_get (D := (dC, dI)) (ci := 1) (v := .ref (ad 5)) (C := RX1) (T := TX1) (N := 10) hx hb hts hin0 hown hK hP 0 rfl rfl 6 (by decide) (hts (.fieldLink RX1 22 "DottedSiblingsModel" "pasts" "[J") (by decide +kernel)) (fun _ h9 => h9) rfl dX1_put_131 ?_
            refine lv_bipush (v := nI 40) hx hb dX1_put_134 (by decide) ?_
            refine lv_iload_n hx hb dX1_put_136 rfl (lv_at hl 3 rfl) ?_
            refine zr_imul hx hb dX1_put_137 ?_
            refine lv_iload hx hb dX1_put_138 (lv_at hl 5 rfl) ?_
            refine zr_iadd hx hb dX1_put_140 ?_
            refine lv_aload_n hx hb dX1_put_141 rfl (lv_at hl 0 rfl) ?_
            refine va_get (D := (dC, dI)) (ci := 1) (v := .ref (ad 7)) (C := RX1) (T := TX1) (N := 10) hx hb hts hin0 hown hK hP 0 rfl rfl 8 (by decide) (hts (.fieldLink RX1 29 "DottedSiblingsModel" "contexts" "[J") (by decide +kernel)) (fun _ h9 => h9) rfl dX1_put_142 ?_
            refine lv_iconst (v := nI 3) hx hb dX1_put_145 (by decide) ?_
            refine lv_iload_n hx hb dX1_put_146 rfl (lv_at hl 2 rfl) ?_
            refine zr_imul hx hb dX1_put_147 ?_
            refine lv_iload_n hx hb dX1_put_148 rfl (lv_at hl 3 rfl) ?_
            refine zr_iadd hx hb dX1_put_149 ?_
            refine zr_lald (v := lN (cx ky cl)) hx hb hK hP 7 1 rfl rfl (by omega) (by omega) (congrArg lN (zf3 _ (by omega))) dX1_put_150 ?_
            refine zr_last hx hb hK hP hD hS 5 1 rfl rfl (by omega) (by omega) (ms_ps (by omega) _) dX1_put_151 (fun H locs hP hD hS => ?_)
            refine lv_aload_n hx hb dX1_put_152 rfl (lv_at hl 0 rfl) ?_
            refine va_get (D := (dC, dI)) (ci := 1) (v := .ref (ad 6)) (C := RX1) (T := TX1) (N := 10) hx hb hts hin0 hown hK hP 0 rfl rfl 7 (by decide) (hts (.fieldLink RX1 26 "DottedSiblingsModel" "known" "[J") (by decide +kernel)) (fun _ h9 => h9) rfl dX1_put_153 ?_
            refine lv_iconst (v := nI 3) hx hb dX1_put_156 (by decide) ?_
            refine lv_iload_n hx hb dX1_put_157 rfl (lv_at hl 1 rfl) ?_
            refine zr_imul hx hb dX1_put_158 ?_
            refine lv_iload_n hx hb dX1_put_159 rfl (lv_at hl 3 rfl) ?_
            refine zr_iadd hx hb dX1_put_160 ?_
            refine lv_dup2_11 hx hb dX1_put_161 rfl rfl ?_
            refine zr_lald (v := lN (kn ky sv)) hx hb hK hP 6 1 rfl rfl (by omega) (by omega) (congrArg lN (zf3 _ (by omega))) dX1_put_162 ?_
            refine lv_aload_n hx hb dX1_put_163 rfl (lv_at hl 0 rfl) ?_
            refine va_get (D := (dC, dI)) (ci := 1) (v := .ref (ad 5)) (C := RX1) (T := TX1) (N := 10) hx hb hts hin0 hown hK hP 0 rfl rfl 6 (by decide) (hts (.fieldLink RX1 22 "DottedSiblingsModel" "pasts" "[J") (by decide +kernel)) (fun _ h9 => h9) rfl dX1_put_164 ?_
            refine lv_bipush (v := nI 40) hx hb dX1_put_167 (by decide) ?_
            refine lv_iload_n hx hb dX1_put_169 rfl (lv_at hl 3 rfl) ?_
            refine zr_imul hx hb dX1_put_170 ?_
            refine lv_iload hx hb dX1_put_171 (lv_at hl 5 rfl) ?_
            refine zr_iadd hx hb dX1_put_173 ?_
            refine zr_lald (v := lN (cx ky cl)) hx hb hK hP 5 1 rfl rfl (by omega) (by omega) (congrArg lN ((zf40 _ (by omega)).trans (zU_s _ _ _ _))) dX1_put_174 ?_
            refine lv_lconst (v := lN 1) hx hb dX1_put_175 (by decide) ?_
            refine lv_iload hx hb dX1_put_176 (lv_at hl 5 rfl) ?_
            refine zr_lshl hx hb (by omega) dX1_put_178 ?_
            refine zr_lor hx hb dX1_put_179 ?_
            refine zr_lor hx hb dX1_put_180 ?_
            refine zr_last hx hb hK hP hD hS 6 1 rfl rfl (by omega) (by omega) (ms_kn (by omega) _) dX1_put_181 (fun H locs hP hD hS => ?_)
            refine lv_aload_n hx hb dX1_put_182 rfl (lv_at hl 0 rfl) ?_
            refine va_get (D := (dC, dI)) (ci := 1) (v := .ref (ad 1)) (C := RX1) (T := TX1) (N := 10) hx hb hts hin0 hown hK hP 0 rfl rfl 2 (by decide) (hts (.fieldLink RX1 7 "DottedSiblingsModel" "counts" "[I") (by decide +kernel)) (fun _ h9 => h9) rfl dX1_put_183 ?_
            refine lv_iload_n hx hb dX1_put_186 rfl (lv_at hl 3 rfl) ?_
            refine lv_dup2_11 hx hb dX1_put_187 rfl rfl ?_
            refine zr_iald (v := nI (n ky)) hx hb hK hP 1 0 rfl rfl (by omega) (by omega) rfl dX1_put_188 ?_
            refine lv_iconst (v := nI 1) hx hb dX1_put_189 (by decide) ?_
            refine zr_iadd hx hb dX1_put_190 ?_
            refine zr_iast hx hb hK hP hD hS 1 0 rfl rfl (by omega) (by omega) (ms_n _ _) dX1_put_191 (fun H locs hP hD hS => ?_)
            refine lv_iload hx hb dX1_put_192 (lv_at hl 5 rfl) ?_
            exact W.iret (v := nI (n ky)) hx hb hr (fun t ht hW => ⟨⟨_, ((zu n ky (n ky + 1)), (zV va ky (n ky) x4), (zU mk ky (n ky) sv), (zU ct ky (n ky) (1 + cn (fun v => decide (mk ky v = sv)) (n ky))), (zU ps ky (n ky) (cx ky cl)), (zU kn ky sv ((kn ky sv) ||| ((cx ky cl) ||| (1 * 2 ^ (n ky)))))), rfl, ⟨(by first | exact (zq3_1 hdx1).symm | exact (zq3_2 hdx2).symm | exact (zq3_3 hdx3).symm | exact (by unfold aPut; rw [zq3_s hdx1 hdx2 hdx3, if_pos (show n ky < 40 by omega)]; first | done | rfl) | exact (by unfold aPut; rw [zq3_s hdx1 hdx2 hdx3, if_neg (show ¬ n ky < 40 by omega)]; first | done | rfl)), (by first | exact (zq3_1 hdx1).symm | exact (zq3_2 hdx2).symm | exact (zq3_3 hdx3).symm | exact (by unfold uPut; rw [zq3_s hdx1 hdx2 hdx3, if_pos (show n ky < 40 by omega)]; first | done | rfl) | exact (by unfold uPut; rw [zq3_s hdx1 hdx2 hdx3, if_neg (show ¬ n ky < 40 by omega)]; first | done | rfl))⟩, by rw [ht]; exact hP, va_K.moved hW.alike hK, hD⟩, hS.F ht⟩) hS.2.2 dX1_put_194
          ·
            have hm9 := hmk ky i (by omega)
            refine lv_iload hx hb dX1_put_57 (lv_at hl 6 rfl) ?_
            refine lv_aload_n hx hb dX1_put_59 rfl (lv_at hl 0 rfl) ?_
            refine va_get (D := (dC, dI)) (ci := 1) (v := .ref (ad 3)) (C := RX1) (T := TX1) (N := 10) hx hb hts hin0 hown hK hP 0 rfl rfl 4 (by decide) (hts (.fieldLink RX1 16 "DottedSiblingsModel" "made" "[I") (by decide +kernel)) (fun _ h9 => h9) rfl dX1_put_60 ?_
            refine lv_bipush (v := nI 40) hx hb dX1_put_63 (by decide) ?_
            refine lv_iload_n hx hb dX1_put_65 rfl (lv_at hl 3 rfl) ?_
            refine zr_imul hx hb dX1_put_66 ?_
            refine lv_iload hx hb dX1_put_67 (lv_at hl 7 rfl) ?_
            refine zr_iadd hx hb dX1_put_69 ?_
            refine zr_iald (v := nI (mk ky i)) hx hb hK hP 3 0 rfl rfl (by omega) (by omega) (congrArg nI (zf40 _ (by omega))) dX1_put_70 ?_
            refine lv_iload_n hx hb dX1_put_71 rfl (lv_at hl 1 rfl) ?_
            refine zr_ine (tgt := 79) hx hb (by omega) (by omega) dX1_put_72 (by decide) (fun c72 => ?_) (fun c72 => ?_)
            ·
              refine lv_iconst (v := nI 0) hx hb dX1_put_79 (by decide) ?_
              refine zr_iadd hx hb dX1_put_80 ?_
              refine lv_istore (lv' := [(6, .int (nI (1 + cn (fun v => decide (mk ky v = sv)) i + 0))), (0, .ref (ad 0)), (1, .int (nI sv)), (2, .int (nI cl)), (3, .int (nI ky)), (4, .int x4), (5, .int (nI (n ky))), (7, .int (nI i))]) hx hb dX1_put_81 hl (by decide) rfl (fun ls hl => ?_)
              refine lv_iinc (v := nI (i + 1)) (lv' := [(7, .int (nI (i + 1))), (6, .int (nI (1 + cn (fun v => decide (mk ky v = sv)) i + 0))), (0, .ref (ad 0)), (1, .int (nI sv)), (2, .int (nI cl)), (3, .int (nI ky)), (4, .int x4), (5, .int (nI (n ky)))]) hx hb dX1_put_83 hl (k := 7) rfl (by rw [← nI_1]; rfl) (by decide) rfl (fun ls hl => ?_)
              refine lv_goto (tgt := 50) hx hb dX1_put_86 (by decide) ?_
              exact ih50 _ _ (by omega) ⟨i + 1, by omega, rfl, by first | (rw [cn_t (f := (fun v => decide (mk ky v = sv))) (i := i) (decide_eq_true c72)]; exact lv_sub hl [2, 3, 4, 5, 6, 7, 1, 0] rfl) | (rw [cn_f (f := (fun v => decide (mk ky v = sv))) (i := i) (decide_eq_false c72)]; exact lv_sub hl [2, 3, 4, 5, 6, 7, 1, 0] rfl)⟩
            ·
              refine lv_iconst (v := nI 1) hx hb dX1_put_75 (by decide) ?_
              refine lv_goto (tgt := 80) hx hb dX1_put_76 (by decide) ?_
              refine zr_iadd hx hb dX1_put_80 ?_
              refine lv_istore (lv' := [(6, .int (nI (1 + cn (fun v => decide (mk ky v = sv)) i + 1))), (0, .ref (ad 0)), (1, .int (nI sv)), (2, .int (nI cl)), (3, .int (nI ky)), (4, .int x4), (5, .int (nI (n ky))), (7, .int (nI i))]) hx hb dX1_put_81 hl (by decide) rfl (fun ls hl => ?_)
              refine lv_iinc (v := nI (i + 1)) (lv' := [(7, .int (nI (i + 1))), (6, .int (nI (1 + cn (fun v => decide (mk ky v = sv)) i + 1))), (0, .ref (ad 0)), (1, .int (nI sv)), (2, .int (nI cl)), (3, .int (nI ky)), (4, .int x4), (5, .int (nI (n ky)))]) hx hb dX1_put_83 hl (k := 7) rfl (by rw [← nI_1]; rfl) (by decide) rfl (fun ls hl => ?_)
              refine lv_goto (tgt := 50) hx hb dX1_put_86 (by decide) ?_
              exact ih50 _ _ (by omega) ⟨i + 1, by omega, rfl, by first | (rw [cn_t (f := (fun v => decide (mk ky v = sv))) (i := i) (decide_eq_true c72)]; exact lv_sub hl [2, 3, 4, 5, 6, 7, 1, 0] rfl) | (rw [cn_f (f := (fun v => decide (mk ky v = sv))) (i := i) (decide_eq_false c72)]; exact lv_sub hl [2, 3, 4, 5, 6, 7, 1, 0] rfl)⟩
        ·
          refine lv_iconst (v := (-1)) hx hb dX1_put_34 (by decide) ?_
          exact W.iret (v := (-1)) hx hb hr (fun t ht hW => ⟨⟨_, (n, va, mk, ct, ps, kn), rfl, ⟨(by first | exact (zq3_1 hdx1).symm | exact (zq3_2 hdx2).symm | exact (zq3_3 hdx3).symm | exact (by unfold aPut; rw [zq3_s hdx1 hdx2 hdx3, if_pos (show n ky < 40 by omega)]; first | done | rfl) | exact (by unfold aPut; rw [zq3_s hdx1 hdx2 hdx3, if_neg (show ¬ n ky < 40 by omega)]; first | done | rfl)), (by first | exact (zq3_1 hdx1).symm | exact (zq3_2 hdx2).symm | exact (zq3_3 hdx3).symm | exact (by unfold uPut; rw [zq3_s hdx1 hdx2 hdx3, if_pos (show n ky < 40 by omega)]; first | done | rfl) | exact (by unfold uPut; rw [zq3_s hdx1 hdx2 hdx3, if_neg (show ¬ n ky < 40 by omega)]; first | done | rfl))⟩, by rw [ht]; exact hP, va_K.moved hW.alike hK, hD⟩, hS.F ht⟩) hS.2.2 dX1_put_35
      ·
        refine lv_if_eq (tgt := 34) hx hb dX1_put_20 (by decide) (fun _ => ?_) (fun q => absurd q (by decide))
        refine lv_iconst (v := (-1)) hx hb dX1_put_34 (by decide) ?_
        exact W.iret (v := (-1)) hx hb hr (fun t ht hW => ⟨⟨_, (n, va, mk, ct, ps, kn), rfl, ⟨(by first | exact (zq3_1 hdx1).symm | exact (zq3_2 hdx2).symm | exact (zq3_3 hdx3).symm | exact (by unfold aPut; rw [zq3_s hdx1 hdx2 hdx3, if_pos (show n ky < 40 by omega)]; first | done | rfl) | exact (by unfold aPut; rw [zq3_s hdx1 hdx2 hdx3, if_neg (show ¬ n ky < 40 by omega)]; first | done | rfl)), (by first | exact (zq3_1 hdx1).symm | exact (zq3_2 hdx2).symm | exact (zq3_3 hdx3).symm | exact (by unfold uPut; rw [zq3_s hdx1 hdx2 hdx3, if_pos (show n ky < 40 by omega)]; first | done | rfl) | exact (by unfold uPut; rw [zq3_s hdx1 hdx2 hdx3, if_neg (show ¬ n ky < 40 by omega)]; first | done | rfl))⟩, by rw [ht]; exact hP, va_K.moved hW.alike hK, hD⟩, hS.F ht⟩) hS.2.2 dX1_put_35
    ·
      refine lv_if_eq (tgt := 34) hx hb dX1_put_13 (by decide) (fun _ => ?_) (fun q => absurd q (by decide))
      refine lv_iconst (v := (-1)) hx hb dX1_put_34 (by decide) ?_
      exact W.iret (v := (-1)) hx hb hr (fun t ht hW => ⟨⟨_, (n, va, mk, ct, ps, kn), rfl, ⟨(by first | exact (zq3_1 hdx1).symm | exact (zq3_2 hdx2).symm | exact (zq3_3 hdx3).symm | exact (by unfold aPut; rw [zq3_s hdx1 hdx2 hdx3, if_pos (show n ky < 40 by omega)]; first | done | rfl) | exact (by unfold aPut; rw [zq3_s hdx1 hdx2 hdx3, if_neg (show ¬ n ky < 40 by omega)]; first | done | rfl)), (by first | exact (zq3_1 hdx1).symm | exact (zq3_2 hdx2).symm | exact (zq3_3 hdx3).symm | exact (by unfold uPut; rw [zq3_s hdx1 hdx2 hdx3, if_pos (show n ky < 40 by omega)]; first | done | rfl) | exact (by unfold uPut; rw [zq3_s hdx1 hdx2 hdx3, if_neg (show ¬ n ky < 40 by omega)]; first | done | rfl))⟩, by rw [ht]; exact hP, va_K.moved hW.alike hK, hD⟩, hS.F ht⟩) hS.2.2 dX1_put_35
  ·
    refine lv_if_eq (tgt := 34) hx hb dX1_put_5 (by decide) (fun _ => ?_) (fun q => absurd q (by decide))
    refine lv_iconst (v := (-1)) hx hb dX1_put_34 (by decide) ?_
    exact W.iret (v := (-1)) hx hb hr (fun t ht hW => ⟨⟨_, (n, va, mk, ct, ps, kn), rfl, ⟨(by first | exact (zq3_1 hdx1).symm | exact (zq3_2 hdx2).symm | exact (zq3_3 hdx3).symm | exact (by unfold aPut; rw [zq3_s hdx1 hdx2 hdx3, if_pos (show n ky < 40 by omega)]; first | done | rfl) | exact (by unfold aPut; rw [zq3_s hdx1 hdx2 hdx3, if_neg (show ¬ n ky < 40 by omega)]; first | done | rfl)), (by first | exact (zq3_1 hdx1).symm | exact (zq3_2 hdx2).symm | exact (zq3_3 hdx3).symm | exact (by unfold uPut; rw [zq3_s hdx1 hdx2 hdx3, if_pos (show n ky < 40 by omega)]; first | done | rfl) | exact (by unfold uPut; rw [zq3_s hdx1 hdx2 hdx3, if_neg (show ¬ n ky < 40 by omega)]; first | done | rfl))⟩, by rw [ht]; exact hP, va_K.moved hW.alike hK, hD⟩, hS.F ht⟩) hS.2.2 dX1_put_35
end
section
/-! what always holds, kept by every call -/
def zR (n : Nat → Nat) (ps cx rd : Nat → Nat → Nat) : Prop := ∀ k c, rd k c = zNew (n k) (ps k) (cx k c)
theorem zR_lt {n : Nat → Nat} {ps cx rd : Nat → Nat → Nat} (h : zR n ps cx rd) (hcx : ∀ k c, cx k c < 2 ^ n k) (k c : Nat) : rd k c < 2 ^ n k := by
  rw [h k c]
  exact Nat.lt_of_le_of_lt (zNew_le _ _ _) (hcx k c)
theorem zG_cx {S C : Nat} {n : Nat → Nat} {mk ct ps kn cx cx2 : Nat → Nat → Nat} (h : zG S C n mk ct ps kn cx) (h2 : ∀ k c, cx2 k c < 2 ^ n k) : zG S C n mk ct ps kn cx2 := by
  obtain ⟨h1, h3, h4, h5, h6, h7, h8, h9, h10⟩ := h
  exact ⟨h1, h3, h4, h5, h6, h7, h2, h9, h10⟩
theorem zUb {f : Nat → Nat → Nat} {n : Nat → Nat} {k j v : Nat} (h : ∀ a b, f a b < 2 ^ n a) (hv : v < 2 ^ n k) (a b : Nat) : zU f k j v a b < 2 ^ n a := by
  unfold zU zu
  by_cases h1 : a = k
  · rw [if_pos h1]
    by_cases h2 : b = j
    · rw [if_pos h2, h1]
      exact hv
    · rw [if_neg h2]
      exact h a b
  · rw [if_neg h1]
    exact h a b
theorem zG_get {S C : Nat} {n : Nat → Nat} {mk ct ps kn cx : Nat → Nat → Nat} (h : zG S C n mk ct ps kn cx) (x1 x2 x3 : Int32) : zG S C n mk ct ps kn (uGet S C kn cx x1 x2 x3) := by
  refine zG_cx h ?_
  obtain ⟨-, -, -, -, -, hkn, hcx, -, -⟩ := h
  unfold uGet
  cases zD S x1 with
  | none => exact hcx
  | some s =>
    cases zD C x2 with
    | none => exact hcx
    | some c =>
      cases zD 3 x3 with
      | none => exact hcx
      | some k => exact zUb hcx (hkn k s)
theorem zG_forget {S C : Nat} {n : Nat → Nat} {mk ct ps kn cx : Nat → Nat → Nat} (h : zG S C n mk ct ps kn cx) (x1 x2 : Int32) : zG S C n mk ct ps kn (uForget C cx x1 x2) := by
  refine zG_cx h ?_
  obtain ⟨-, -, -, -, -, hkn, hcx, -, -⟩ := h
  unfold uForget
  cases zD C x1 with
  | none => exact hcx
  | some c =>
    cases zD 3 x2 with
    | none => exact hcx
    | some k => exact zUb hcx (Nat.two_pow_pos _)
theorem zG_sync1 {S C : Nat} {n : Nat → Nat} {mk ct ps kn cx : Nat → Nat → Nat} (h : zG S C n mk ct ps kn cx) (k a b : Nat) : zG S C n mk ct ps (zU (zU kn k a (kn k a ||| kn k b)) k b (kn k a ||| kn k b)) cx := by
  obtain ⟨h1, h3, h4, h5, h6, h7, h8, h9, h10⟩ := h
  have hor : kn k a ||| kn k b < 2 ^ n k := Nat.or_lt_two_pow (h7 k a) (h7 k b)
  refine ⟨h1, h3, h4, h5, h6, zUb (zUb h7 hor) hor, h8, h9, fun q w hw => ?_⟩
  have old := h10 q w hw
  generalize mk q w = c at old ⊢
  by_cases e1 : q = k
  · subst e1
    by_cases e2 : c = b
    · subst e2
      rw [zU_s, Nat.testBit_or, old, Bool.or_true]
    · rw [zU_nj _ _ (Or.inr e2)]
      by_cases e3 : c = a
      · subst e3
        rw [zU_s, Nat.testBit_or, old, Bool.true_or]
      · rw [zU_nj _ _ (Or.inr e3)]
        exact old
  · rw [zU_nj _ _ (Or.inl e1), zU_nj _ _ (Or.inl e1)]
    exact old
theorem zG_sync {S C : Nat} {n : Nat → Nat} {mk ct ps kn cx : Nat → Nat → Nat} (h : zG S C n mk ct ps kn cx) (x1 x2 x3 : Int32) : zG S C n mk ct ps (uSync S kn x1 x2 x3) cx := by
  unfold uSync
  cases zD S x1 with
  | none => exact h
  | some a =>
    cases zD S x2 with
    | none => exact h
    | some b =>
      cases zD 3 x3 with
      | none => exact h
      | some k =>
        show zG S C n mk ct ps (if a = b then kn else _) cx
        by_cases e : a = b
        · rw [if_pos e]; exact h
        · rw [if_neg e]; exact zG_sync1 h k a b
theorem zG_put1 {S C : Nat} {n : Nat → Nat} {mk ct ps kn cx : Nat → Nat → Nat} (h : zG S C n mk ct ps kn cx) {s c k : Nat} (hs : s < S) (hk : n k < 40) :
    zG S C (zu n k (n k + 1)) (zU mk k (n k) s) (zU ct k (n k) (1 + cn (fun v => decide (mk k v = s)) (n k))) (zU ps k (n k) (cx k c)) (zU kn k s (kn k s ||| (cx k c ||| 1 * 2 ^ n k))) cx := by
  obtain ⟨h1, h3, h4, h5, h6, h7, h8, h9, h10⟩ := h
  have hnk : zu n k (n k + 1) k = n k + 1 := zu_s _ _ _
  have hno : ∀ a, a ≠ k → zu n k (n k + 1) a = n a := fun a ha => zu_n _ _ ha
  have hle : ∀ a, n a ≤ zu n k (n k + 1) a := fun a => by
    by_cases e : a = k
    · subst e; rw [hnk]; omega
    · rw [hno a e]; exact Nat.le_refl _
  have hpow : ∀ a x, x < 2 ^ n a → x < 2 ^ zu n k (n k + 1) a := fun a x hx => Nat.lt_of_lt_of_le hx (Nat.pow_le_pow_right (by decide) (hle a))
  have hcnt := cn_le (fun v => decide (mk k v = s)) (n k)
  refine ⟨h1, fun a => ?_, fun a w hw => ?_, fun a w => ?_, fun a w => ?_, fun a b => ?_, fun a b => hpow a _ (h8 a b), fun a w hw => ?_, fun a w hw => ?_⟩
  · by_cases e : a = k
    · subst e; rw [hnk]; omega
    · rw [hno a e]; exact h3 a
  · by_cases e : a = k
    · subst e
      rw [hnk] at hw
      by_cases e2 : w = n a
      · subst e2; rw [zU_s]; exact hs
      · rw [zU_nj _ _ (Or.inr e2)]; exact h4 a w (by omega)
    · rw [hno a e] at hw
      rw [zU_nj _ _ (Or.inl e)]; exact h4 a w hw
  · by_cases e : a = k ∧ w = n k
    · obtain ⟨rfl, rfl⟩ := e
      rw [zU_s]; omega
    · rw [zU_nj _ _ (by omega)]; exact h5 a w
  · by_cases e : a = k ∧ w = n k
    · obtain ⟨rfl, rfl⟩ := e
      rw [zU_s]; exact z40 (h8 a c) (h3 a)
    · rw [zU_nj _ _ (by omega)]; exact h6 a w
  · by_cases e : a = k ∧ b = s
    · obtain ⟨rfl, rfl⟩ := e
      rw [zU_s]
      refine Nat.or_lt_two_pow (hpow a _ (h7 a b)) (Nat.or_lt_two_pow (hpow a _ (h8 a c)) ?_)
      rw [hnk, Nat.one_mul]
      exact Nat.pow_lt_pow_right (by decide) (Nat.lt_succ_self _)
    · rw [zU_nj _ _ (by omega)]; exact hpow a _ (h7 a b)
  · by_cases e : a = k
    · subst e
      rw [hnk] at hw
      by_cases e2 : w = n a
      · subst e2
        rw [zU_s, zU_s]
        congr 1
        exact cn_congr (fun v hv => by rw [zU_nj _ _ (Or.inr (Nat.ne_of_lt hv))])
      · rw [zU_nj _ _ (Or.inr e2), zU_nj _ _ (Or.inr e2), h9 a w (by omega)]
        congr 1
        exact cn_congr (fun v hv => by rw [zU_nj _ _ (Or.inr (by omega))])
    · rw [hno a e] at hw
      rw [zU_n _ _ _ e, zU_n _ _ _ e]
      exact h9 a w hw
  · by_cases e : a = k
    · subst e
      rw [hnk] at hw
      by_cases e2 : w = n a
      · subst e2
        rw [zU_s, zU_s, Nat.testBit_or, Nat.testBit_or, Nat.one_mul, Nat.testBit_two_pow_self, Bool.or_true, Bool.or_true]
      · rw [zU_nj _ _ (Or.inr e2)]
        have old := h10 a w (by omega)
        generalize mk a w = b at old ⊢
        by_cases e3 : b = s
        · subst e3
          rw [zU_s, Nat.testBit_or, old, Bool.true_or]
        · rw [zU_nj _ _ (Or.inr e3)]; exact old
    · rw [hno a e] at hw
      rw [zU_n _ _ _ e, zU_n _ _ _ e]
      exact h10 a w hw
theorem zRep_congr {ps ps2 : Nat → Nat} {set : Nat} : ∀ {i : Nat}, (∀ w, w < i → ps w = ps2 w) → zRep ps set i = zRep ps2 set i
  | 0, _ => rfl
  | i + 1, h => by
    unfold zRep
    rw [h i (by omega), zRep_congr (i := i) (fun w hw => h w (by omega))]
theorem zNew_put {n : Nat} {ps : Nat → Nat} {set v : Nat} (h : set < 2 ^ n) : zNew (n + 1) (zu ps n v) set = zNew n ps set := by
  unfold zNew
  rw [zRep_f (Nat.testBit_lt_two_pow h), zRep_congr (ps2 := ps) (fun w hw => zu_n _ _ (Nat.ne_of_lt hw))]
theorem zR_put1 {n : Nat → Nat} {ps cx rd : Nat → Nat → Nat} {k v : Nat} (h : zR n ps cx rd) (hcx : ∀ k c, cx k c < 2 ^ n k) : zR (zu n k (n k + 1)) (zU ps k (n k) v) cx rd := fun a c => by
  rw [h a c]
  by_cases e : a = k
  · subst e
    rw [zu_s, zU_k, zNew_put (hcx a c)]
  · rw [zu_n _ _ e, zU_n _ _ _ e]
theorem zG_put {S C : Nat} {n : Nat → Nat} {va : Nat → Nat → Int32} {mk ct ps kn cx : Nat → Nat → Nat} (h : zG S C n mk ct ps kn cx) (x1 x2 x3 x4 : Int32) : zG S C (uPut S C n va mk ct ps kn cx x1 x2 x3 x4).1 (uPut S C n va mk ct ps kn cx x1 x2 x3 x4).2.2.1 (uPut S C n va mk ct ps kn cx x1 x2 x3 x4).2.2.2.1 (uPut S C n va mk ct ps kn cx x1 x2 x3 x4).2.2.2.2.1 (uPut S C n va mk ct ps kn cx x1 x2 x3 x4).2.2.2.2.2 cx := by
  unfold uPut
  cases h1 : zD S x1 with
  | none => exact h
  | some s =>
    cases zD C x2 with
    | none => exact h
    | some c =>
      cases zD 3 x3 with
      | none => exact h
      | some k =>
        have hs : s < S := by
          unfold zD at h1
          split at h1
          · cases h1; omega
          · cases h1
        simp only [zq3]
        by_cases e : n k < 40
        · rw [if_pos e]; exact zG_put1 h hs e
        · rw [if_neg e]; exact h
theorem zR_put {S C : Nat} {n : Nat → Nat} {va : Nat → Nat → Int32} {mk ct ps kn cx rd : Nat → Nat → Nat} (h : zR n ps cx rd) (hcx : ∀ k c, cx k c < 2 ^ n k) (x1 x2 x3 x4 : Int32) : zR (uPut S C n va mk ct ps kn cx x1 x2 x3 x4).1 (uPut S C n va mk ct ps kn cx x1 x2 x3 x4).2.2.2.2.1 cx rd := by
  unfold uPut
  cases zD S x1 with
  | none => exact h
  | some s =>
    cases zD C x2 with
    | none => exact h
    | some c =>
      cases zD 3 x3 with
      | none => exact h
      | some k =>
        simp only [zq3]
        by_cases e : n k < 40
        · rw [if_pos e]; exact zR_put1 h hcx
        · rw [if_neg e]; exact h
theorem zR_U {n : Nat → Nat} {ps cx rd : Nat → Nat → Nat} {k c v : Nat} (h : zR n ps cx rd) : zR n ps (zU cx k c v) (zU rd k c (zNew (n k) (ps k) v)) := fun a b => by
  by_cases e : a = k ∧ b = c
  · obtain ⟨rfl, rfl⟩ := e
    rw [zU_s, zU_s]
  · rw [zU_nj _ _ (by omega), zU_nj _ _ (by omega)]
    exact h a b
theorem zR_get {S C : Nat} {n : Nat → Nat} {ps kn cx rd : Nat → Nat → Nat} (h : zR n ps cx rd) (x1 x2 x3 : Int32) : zR n ps (uGet S C kn cx x1 x2 x3) (vGet S C n ps kn rd x1 x2 x3) := by
  unfold uGet vGet
  cases zD S x1 with
  | none => exact h
  | some s =>
    cases zD C x2 with
    | none => exact h
    | some c =>
      cases zD 3 x3 with
      | none => exact h
      | some k => exact zR_U h
theorem zR_forget {C : Nat} {n : Nat → Nat} {ps cx rd : Nat → Nat → Nat} (h : zR n ps cx rd) (x1 x2 : Int32) : zR n ps (uForget C cx x1 x2) (uForget C rd x1 x2) := by
  unfold uForget
  cases zD C x1 with
  | none => exact h
  | some c =>
    cases zD 3 x2 with
    | none => exact h
    | some k =>
      have := zR_U (k := k) (c := c) (v := 0) h
      rw [show zNew (n k) (ps k) 0 = 0 from Nat.zero_and _] at this
      exact this
theorem zR_read {S C : Nat} {n : Nat → Nat} {va : Nat → Nat → Int32} {mk ps cx rd : Nat → Nat → Nat} (h : zR n ps cx rd) (x1 x2 x3 : Int32) : aRead2 S C n va mk rd x1 x2 x3 = aRead S C n va mk ps cx x1 x2 x3 := by
  unfold aRead aRead2
  congr 1
  funext c k
  rw [h k c]
theorem zG_0 {S C : Nat} (h : 1 ≤ S ∧ S ≤ 4) (h2 : 1 ≤ C ∧ C ≤ 4) : zG S C (fun _ => 0) (fun _ _ => 0) (fun _ _ => 0) (fun _ _ => 0) (fun _ _ => 0) (fun _ _ => 0) :=
  ⟨⟨h.1, h.2, h2.1, h2.2⟩, fun _ => Nat.zero_le _, fun _ _ hw => absurd hw (Nat.not_lt_zero _), fun _ _ => Nat.zero_le _, fun _ _ => by show 0 < 2 ^ 40; decide, fun _ _ => by show 0 < 2 ^ 0; decide, fun _ _ => by show 0 < 2 ^ 0; decide, fun _ _ hw => absurd hw (Nat.not_lt_zero _), fun _ _ hw => absurd hw (Nat.not_lt_zero _)⟩
theorem zR_0 : zR (fun _ => 0) (fun _ _ => 0) (fun _ _ => 0) (fun _ _ => 0) := fun _ _ => (Nat.zero_and _).symm
end
section
section ZP
variable {p : Program} {l : Launch} {e : Env} {R : Room} {s : State} {m : MethodId} {args : Array Value} {below : List Frame} {meth : Method} {c : Code} {H : Heap} {locs : List Loc} {cells slots : Nat} {Q : State → Prop}
variable {cc : ByteArray} {pc : Nat} {ls : Array Slot} {rest : List Value}
/-- x >= 1 && x <= 4 ? x : 1 -/
theorem zr_par (hexec : p.tables.exec = Jvm.exec) (hb : c.code = cc) {k : Fin 4} {i : Nat} {x : Int32} (hi : (k : Nat) = i) (hl : ls[i]? = some (.val (.int x)))
    (d0 : decode cc pc = .ok (.iload_n k, 1)) (d1 : decode cc (pc + 1) = .ok (.iconst 1, 1)) (d2 : decode cc (pc + 1 + 1) = .ok (.if_icmp .lt 12, 3)) (d3 : decode cc (pc + 1 + 1 + 3) = .ok (.iload_n k, 1)) (d4 : decode cc (pc + 1 + 1 + 3 + 1) = .ok (.iconst 4, 1)) (d5 : decode cc (pc + 1 + 1 + 3 + 1 + 1) = .ok (.if_icmp .gt 7, 3)) (d6 : decode cc (pc + 1 + 1 + 3 + 1 + 1 + 3) = .ok (.iload_n k, 1)) (d7 : decode cc (pc + 1 + 1 + 3 + 1 + 1 + 3 + 1) = .ok (.goto 4, 3)) (d8 : decode cc (pc + 14) = .ok (.iconst 1, 1))
    (kk : W p l e R s m args below meth c H locs cells slots Q (F0 m (pc + 15) ls (.int (nI (zP x)) :: rest))) : W p l e R s m args below meth c H locs cells slots Q (F0 m pc ls rest) := by
  refine lv_iload_n hexec hb d0 hi hl ?_
  refine lv_iconst (v := 1) hexec hb d1 (by decide) ?_
  refine lv_icmp_lt (tgt := pc + 14) hexec hb d2 (by omega) (fun h => ?_) (fun h1 => ?_)
  · refine lv_iconst (v := 1) hexec hb d8 (by decide) ?_
    rw [zP_lo h] at kk
    exact kk
  refine lv_iload_n hexec hb d3 hi hl ?_
  refine lv_iconst (v := 4) hexec hb d4 (by decide) ?_
  refine lv_icmp_gt (tgt := pc + 14) hexec hb d5 (by omega) (fun h => ?_) (fun h2 => ?_)
  · refine lv_iconst (v := 1) hexec hb d8 (by decide) ?_
    rw [zP_hi h] at kk
    exact kk
  refine lv_iload_n hexec hb d6 hi hl ?_
  refine lv_goto (tgt := pc + 15) hexec hb d7 (by omega) ?_
  rw [← zP_ok h1 h2] at kk
  exact kk
end ZP
/-- the class of arrays of numbers, by its word -/
theorem zrc_of {args : Array Value} {s : State} {D : va_G} {cl : List vw_C} {tys : List (ClassId × FieldType)} (hK : va_K D cl tys s) (h1 : (Cond.arrayClass .int).before args s = true) (h2 : (Cond.arrayClass .long).before args s = true) : ∃ cI cJ : ClassId, va_K D cl [(cI, .int), (cJ, .long)] s := by
  obtain ⟨c, k, comp, a1, a2, a3⟩ := Cond.arrayClass_spec h1
  obtain ⟨c2, k2, comp2, b1, b2, b3⟩ := Cond.arrayClass_spec h2
  refine ⟨c, c2, hK.1, fun i q hq => ?_⟩
  match i, hq with
  | 0, hq => cases hq; exact ⟨fun N z => ⟨(fun q hq => by cases hq), k, a2, comp, a3⟩, a1⟩
  | 1, hq => cases hq; exact ⟨fun N z => ⟨(fun q hq => by cases hq), k2, b2, comp2, b3⟩, b1⟩
  | i + 2, hq => simp at hq
/-- a new array of ints has the class of arrays of ints -/
theorem zK_i {s : State} {D : va_G} {cl : List vw_C} {cI cJ cA : ClassId} (h : va_K D cl ([(cI, .int), (cJ, .long)] ++ [(cA, .int)]) s) : cA = cI :=
  Option.some.inj ((show s.vm.findClass ("[" ++ FieldType.int.toString) = some cA from (h.2 2 _ rfl).2).symm.trans (show s.vm.findClass ("[" ++ FieldType.int.toString) = some cI from (h.2 0 _ rfl).2))
theorem zK_l {s : State} {D : va_G} {cl : List vw_C} {cI cJ cA : ClassId} (h : va_K D cl ([(cI, .int), (cJ, .long)] ++ [(cA, .long)]) s) : cA = cJ :=
  Option.some.inj ((show s.vm.findClass ("[" ++ FieldType.long.toString) = some cA from (h.2 2 _ rfl).2).symm.trans (show s.vm.findClass ("[" ++ FieldType.long.toString) = some cJ from (h.2 1 _ rfl).2))
end
section
/-! two worlds side by side -/
theorem zP_l {D : va_G} {cl : List vw_C} {w1 w2 : va_W} {H : Heap} (h : va_P D cl (w1 ++ w2) H) : va_P D cl w1 H := fun k q hk => h k q (by rw [List.getElem?_append_left (List.getElem?_eq_some_iff.mp hk).1]; exact hk)
theorem zP_r {D : va_G} {cl : List vw_C} {w1 w2 : va_W} {H : Heap} (h : va_P D cl (w1 ++ w2) H) : va_P D cl w2 H := fun k q hk => h (w1.length + k) q (by rw [List.getElem?_append_right (by omega), Nat.add_sub_cancel_left]; exact hk)
theorem zD_l {A : Nat → Prop} {w1 w2 : va_W} (h : va_D A (w1 ++ w2)) : va_D A w1 := ⟨fun i j p q h1 h2 e => h.1 i j p q (by rw [List.getElem?_append_left (List.getElem?_eq_some_iff.mp h1).1]; exact h1) (by rw [List.getElem?_append_left (List.getElem?_eq_some_iff.mp h2).1]; exact h2) e, fun k q hk => h.2 k q (by rw [List.getElem?_append_left (List.getElem?_eq_some_iff.mp hk).1]; exact hk)⟩
theorem zD_r {A : Nat → Prop} {w1 w2 : va_W} (h : va_D A (w1 ++ w2)) : va_D A w2 := ⟨fun i j p q h1 h2 e => by
    have := h.1 (w1.length + i) (w1.length + j) p q (by rw [List.getElem?_append_right (by omega), Nat.add_sub_cancel_left]; exact h1) (by rw [List.getElem?_append_right (by omega), Nat.add_sub_cancel_left]; exact h2) e
    omega, fun k q hk => h.2 (w1.length + k) q (by rw [List.getElem?_append_right (by omega), Nat.add_sub_cancel_left]; exact hk)⟩
theorem zD_x {A : Nat → Prop} {w1 w2 : va_W} (h : va_D A (w1 ++ w2)) {i j : Nat} {p q : Nat × va_E} (h1 : w1[i]? = some p) (h2 : w2[j]? = some q) : p.1 ≠ q.1 := fun e => by
  have hi := (List.getElem?_eq_some_iff.mp h1).1
  have := h.1 i (w1.length + j) p q (by rw [List.getElem?_append_left hi]; exact h1) (by rw [List.getElem?_append_right (by omega), Nat.add_sub_cancel_left]; exact h2) e
  omega
theorem zfree {A0 : Nat → Prop} {w : va_W} {H0 H : Heap} {locs : List Loc} (hD : va_D A0 w) (hS : va_S A0 H0 H locs) (hA : ∀ q, H0.size ≤ q → A0 q) : ∀ q, va_A w H.size q → A0 q := fun q h => by
  rcases h with ⟨k, e, h⟩ | h
  · exact hD.2 k (q, e) h
  · exact hA q (Nat.le_trans hS.1 h)
theorem zkeep {A0 : Nat → Prop} {D : va_G} {cl : List vw_C} {wr wc : va_W} {H : Heap} (hP : va_P D cl wr H) (hx : ∀ (i j : Nat) (p q : Nat × va_E), wr[i]? = some p → wc[j]? = some q → p.1 ≠ q.1) (k : Nat) (q : Nat × va_E) (hq : wr[k]? = some q) : q.1 < H.size ∧ ¬ va_A wc H.size q.1 := by
  have hl := (hP k q hq).lt
  refine ⟨hl, fun h => ?_⟩
  rcases h with ⟨k2, e, h⟩ | h
  · exact hx k k2 q (q.1, e) hq h rfl
  · omega
theorem zjoinL {A0 : Nat → Prop} {D : va_G} {cl : List vw_C} {w1 w2 w1' : va_W} {H H1 : Heap} (hP : va_P D cl (w1 ++ w2) H) (hD : va_D A0 (w1 ++ w2)) (hk : ∀ q : Nat, q < H.size → ¬ va_A w1 H.size q → H1[q]? = H[q]?) (hF : ∀ q, va_A w1 H.size q → A0 q) (hP1 : va_P D cl w1' H1) (hD1 : va_D (va_A w1 H.size) w1') : va_P D cl (w1' ++ w2) H1 ∧ va_D A0 (w1' ++ w2) := by
  have ap := zkeep (A0 := A0) (zP_r hP) (wc := w1) (fun i j p q h1 h2 e => zD_x hD h2 h1 e.symm)
  refine ⟨va_P.app hP1 (fun k q hq => (zP_r hP k q hq).kept (hk q.1 (ap k q hq).1 (ap k q hq).2)), va_D.app (hD1.weaken (fun k q _ h => hF q.1 h)) (zD_r hD) (fun i j x y hx hy e => ?_)⟩
  exact (ap j y hy).2 (by rw [← e]; exact hD1.2 i x hx)
theorem zjoinR {A0 : Nat → Prop} {D : va_G} {cl : List vw_C} {w1 w2 w2' : va_W} {H H1 : Heap} (hP : va_P D cl (w1 ++ w2) H) (hD : va_D A0 (w1 ++ w2)) (hk : ∀ q : Nat, q < H.size → ¬ va_A w2 H.size q → H1[q]? = H[q]?) (hF : ∀ q, va_A w2 H.size q → A0 q) (hP1 : va_P D cl w2' H1) (hD1 : va_D (va_A w2 H.size) w2') : va_P D cl (w1 ++ w2') H1 ∧ va_D A0 (w1 ++ w2') := by
  have ap := zkeep (A0 := A0) (zP_l hP) (wc := w2) (fun i j p q h1 h2 e => zD_x hD h1 h2 e)
  refine ⟨va_P.app (fun k q hq => (zP_l hP k q hq).kept (hk q.1 (ap k q hq).1 (ap k q hq).2)) hP1, va_D.app (zD_l hD) (hD1.weaken (fun k q _ h => hF q.1 h)) (fun i j x y hx hy e => ?_)⟩
  exact (ap i x hx).2 (by rw [e]; exact hD1.2 j y hy)
theorem zlaw_c {L i : Nat} (hL : L < 2 ^ 30) (hi : i < 2 ^ 30) : (nI L - nI 5 < nI i) ↔ L < i + 5 := by
  rw [Int32.lt_iff_toInt_lt, pk_sub_toInt hL (by decide), nI_toInt (by omega)]
  omega
section ZLW
variable {p : Program} {l : Launch} {e : Env} {R : Room} {s : State} {m : MethodId} {args : Array Value} {below : List Frame} {meth : Method} {c : Code} {H : Heap} {locs : List Loc} {cells slots : Nat} {Q : State → Prop}
variable {cc : ByteArray} {pc : Nat} {ls : Array Slot} {rest : List Value} {A : Nat → Prop} {H0 : Heap}
theorem zr_sld (hexec : p.tables.exec = Jvm.exec) (hb : c.code = cc) {b L : Nat} {xs : Nat → Int32} (hX : va_X b L xs s H0) (hbl : b < H0.size) (hbA : ¬ A b) (hS : va_S A H0 H locs) {i : Nat} (hi : i < L) (hL : L < 2 ^ 31) (hdg : decode cc pc = .ok (.iaload, 1))
    (kk : W p l e R s m args below meth c H locs cells slots Q (F0 m (pc + 1) ls (.int (xs i) :: rest))) : W p l e R s m args below meth c H locs cells slots Q (F0 m pc ls (.int (nI i) :: .ref b :: rest)) := by
  refine va_sld hexec hb hX hbl hbA hS (vp_in_nI hi hL) hdg ?_
  rw [nI_clamp (by omega)]
  exact kk
theorem zr_lsame (hexec : p.tables.exec = Jvm.exec) (hb : c.code = cc) {x : Int64} {off : Int} {tgt : Nat} (d0 : decode cc pc = .ok (.lcmp, 1)) (d1 : decode cc (pc + 1) = .ok (.ifCond .eq off, 3)) (ht : ((pc + 1 : Nat) : Int) + off = (tgt : Int))
    (kt : W p l e R s m args below meth c H locs cells slots Q (F0 m tgt ls rest)) : W p l e R s m args below meth c H locs cells slots Q (F0 m pc ls (.long x :: .long x :: rest)) := by
  refine W.lcmp hexec hb d0 ?_
  exact lv_if_eq hexec hb d1 ht (fun _ => kt) (fun q => absurd (by simp [lg_cmp]) q)
end ZLW
set_option maxHeartbeats 4000000 in
set_option maxRecDepth 100000 in
/-- cell: a place of the script, or 0 -/
theorem c_L_cell (l : Launch) (b L k : Nat) (xs : Nat → Int32) (hL : L < 2 ^ 31) (hk : k < 2 ^ 31) : Met l yL_cell wsL_cell ({ frames := 0, cells := 0, slots := 0, locals := 0 }) (va_Pc [.ref b, .int (nI k)] (fun U => va_X b L xs U U.heap)) (vp_Si (fun r => r = if k < L then xs k else 0)) 0 0 (fun _ => False) := by
  refine Met.ofW (cc := cL_cell) (maxL := 2) (ret := (some .int)) (by decide) rfl ?_
  intro p e s m args below meth c s₁ B hml hv
  obtain ⟨rfl, hX⟩ := hv
  have hx := B.exec
  have hb := B.bytes
  have hr := B.returns
  have hlocks := B.notSynchronized
  have hbl : b < s.heap.size := by
    obtain ⟨scr, h1, -⟩ := hX
    exact (Array.getElem?_eq_some_iff.mp h1).1
  have hS : va_S (fun _ => False) s.heap s.heap [] := va_S.rf
  have hl := lv_entry ([.ref b, .int (nI k)]) (n := 2) (Nat.le_of_ble_eq_true rfl)
  rw [lg_entry_eq]
  generalize (lg_sl ([.ref b, .int (nI k)]) ++ List.replicate (2 - (lg_sl ([.ref b, .int (nI k)])).length) Slot.unset).toArray = ls at hl ⊢
  have hl : lv_has ls 2 [(0, .ref b), (1, .int (nI k))] := hl
  refine lv_iload_n hx hb dL_cell_0 rfl (lv_at hl 1 rfl) ?_
  refine lv_aload_n hx hb dL_cell_1 rfl (lv_at hl 0 rfl) ?_
  refine va_slen hx hb hX hbl (fun q => q) hS dL_cell_2 ?_
  refine zr_ige (x := k) (y := L) (tgt := 12) hx hb hk hL dL_cell_3 (by decide) (fun c3 => ?_) (fun c3 => ?_)
  · refine lv_iconst (v := 0) hx hb dL_cell_12 (by decide) ?_
    exact W.iret (v := 0) hx hb hr (fun t ht hW => ⟨_, rfl, by rw [if_neg (by omega)], ht⟩) (fun q h => by cases h) dL_cell_13
  · refine lv_aload_n hx hb dL_cell_6 rfl (lv_at hl 0 rfl) ?_
    refine lv_iload_n hx hb dL_cell_7 rfl (lv_at hl 1 rfl) ?_
    refine zr_sld hx hb hX hbl (fun q => q) hS c3 hL dL_cell_8 ?_
    refine lv_goto (tgt := 13) hx hb dL_cell_9 (by decide) ?_
    exact W.iret (v := xs k) hx hb hr (fun t ht hW => ⟨_, rfl, by rw [if_pos c3], ht⟩) (fun q h => by cases h) dL_cell_13
theorem zX_blind {av : List Value} {b L : Nat} {xs : Nat → Int32} : FrameBlind (va_Pc av (fun U => va_X b L xs U U.heap)) := fun a U g k q => by
  obtain ⟨q0, qX⟩ := q
  exact ⟨q0, va_X.moved (u := U) (U := U.calling g k a) (Vm.Alike.refl U.vm) qX⟩
end
section
def R_law : String := "DottedSiblingsLaw"
def lw_P (b : Addr) (xs : List Int32) (args : Array Value) (s : State) : Prop := args = #[.ref b] ∧ s.IntsAt b xs ∧ xs.length ≤ 2562 ∧ (Jvm.Cond.and given_1 narrow_1).before args s = true
def lw_Q (_ : Array Value) (s : State) (o : Outcome) (t : State) : Prop := o = .returned (some (.int 1)) ∧ Framed s o t [] 600000 7302250
def lw_Z (below : List Frame) (a : Array Value) (s : State) : State → Prop := fun t => ∃ o, t.status = .running ∧ Ended t below o ∧ lw_Q a s o t
/-- the law's own end, with 1 on the stack, nothing written that was there before, its room as the claim has it -/
theorem lw_ret {p : Program} {l : Launch} {e : Env} {s : State} {m : MethodId} {below : List Frame} {meth : Method} {c : Code} {b : Nat} (hx : p.tables.exec = Jvm.exec) (hb : c.code = code) (hr : meth.sig.returnType = ret) (hlocks : meth.locks = false) {pc : Nat} {H : Heap} {ls : Array Slot} (hdg : decode code pc = .ok (.ireturn, 1)) : W p l e room_1 s m #[Value.ref b] below meth c H [] 600000 7302250 (lw_Z below #[Value.ref b] s) (F0 m pc ls [.int 1]) := by
  intro T hT X
  obtain ⟨fs, hret, hrun, hended, hW, hframe⟩ := X.leave (v := some (.int 1)) (hlocks := hlocks) (fun h => by rw [hr] at h; cases h)
  have hmeth' : T.vm.method? m = some meth := X.method'
  refine ⟨T.setFrames fs, ?_, .returned (some (.int 1)), hrun, hended, rfl, ⟨_, rfl⟩, hW, hframe⟩
  jvm_step X.here [X.here.top, hx, hb, hdg, hmeth', hr, ret, narrow_b1]
  (try refine ⟨rfl, ?_⟩); (try refine ⟨rfl, ?_⟩)
  first | (intro acts; rw [hret _ acts rfl rfl rfl]) | rw [hret _ _ rfl rfl rfl]
  exact Steps.refl _
/-- what holds at the law's entry: the machine, the code, the tables' words (any of lw_tbl by 'hts w (by decide +kernel)'), the script of L ints xs at the cell b, what the Statement gives of the start (any of its parts by flat_of_before) -/
def lw_At (p : Program) (s : State) (m : MethodId) (meth : Method) (c : Code) (b L : Nat) (xs : Nat → Int32) : Prop :=
  p.tables.exec = Jvm.exec ∧ c.code = code ∧ meth.sig.returnType = ret ∧ c.maxLocals = 4 ∧ s.vm.findClass R_law = some m.cls ∧ (∀ w ∈ lw_tbl, w.before #[Value.ref b] s = true) ∧ va_X b L xs s s.heap ∧ b < s.heap.size ∧ meth.locks = false ∧ (Jvm.Cond.and given_1 narrow_1).before #[Value.ref b] s = true
end
section
set_option maxHeartbeats 16000000 in
set_option maxRecDepth 100000 in
/-- THE LAW'S LOOP: at its head the class and the reference hold one state -/
theorem law_loop {p : Program} {l : Launch} {e : Env} {s : State} {m : MethodId} {below : List Frame} {meth : Method} {c : Code} {dC : Nat → ClassId} {dI : Nat → Nat → Nat} {b L : Nat} {xs : Nat → Int32} (hL : L ≤ 2562) (C0 : lw_At p s m meth c b L xs) {ax am : Nat → Nat} {cI cJ cII cJJ eI eJ : ClassId} {S C : Nat} (hKx : va_K (dC, dI) vwCl (zT cI cJ cII cJJ) s) (hKm : va_K (dC, dI) vwCl [(eI, .int), (eJ, .long)] s) :
    ∀ (f i : Nat), i ≤ L + 5 → L + 6 ≤ i + f → ∀ (n : Nat → Nat) (va : Nat → Nat → Int32) (mk ct ps kn cx rd : Nat → Nat → Nat), zG S C n mk ct ps kn cx → zR n ps cx rd → ∀ (H : Heap) (locs : List Loc), va_P (dC, dI) vwCl (xw ax cI cJ cII cJJ S C n va mk ct ps kn cx ++ mw am eI eJ S C n va mk ct ps kn cx rd) H → va_D (fun q : Nat => s.heap.size ≤ q) (xw ax cI cJ cII cJJ S C n va mk ct ps kn cx ++ mw am eI eJ S C n va mk ct ps kn cx rd) → va_S (fun q : Nat => s.heap.size ≤ q) s.heap H locs → ∀ (ls : Array Slot), lv_has ls 4 [(0, .ref b), (1, .ref (ax 0)), (2, .ref (am 0)), (3, .int (nI i))] → W p l e room_1 s m #[Value.ref b] below meth c H locs 600000 7302250 (lw_Z below #[Value.ref b] s) (F0 m 38 ls []) := by
  obtain ⟨hx, hb, hr, hml, hown, hts0, hX, hbl, hlocks, hgv⟩ := C0
  have hts : ∀ w ∈ wsL_law, w.before #[Value.ref b] s = true := fun w h => hts0 w (wsL_law_in w h)
  have hA : ∀ q : Nat, s.heap.size ≤ q → (fun q : Nat => s.heap.size ≤ q) q := fun _ h => h
  have hbA : ¬ (fun q : Nat => s.heap.size ≤ q) b := Nat.not_le.mpr hbl
  intro f
  induction f with
  | zero =>
    intro i h1 h2
    exact absurd h2 (by omega)
  | succ f ih =>
    intro i hi hf n va mk ct ps kn cx rd hG hR H locs hP hD hS ls hl
    refine lv_iload_n hx hb dL_law_38 rfl (lv_at hl 3 rfl) ?_
    refine lv_aload_n hx hb dL_law_39 rfl (lv_at hl 0 rfl) ?_
    refine va_slen hx hb hX hbl hbA hS dL_law_40 ?_
    refine lv_iconst (v := nI 5) hx hb dL_law_41 (by decide) ?_
    refine lv_isub hx hb dL_law_42 ?_
    refine lv_icmp_gt (tgt := 630) hx hb dL_law_43 (by decide) (fun c43 => ?_) (fun c43 => ?_)
    · refine lv_iconst (v := 1) hx hb dL_law_630 (by decide) ?_
      refine va_forget (fun q hq => hS.2.2 q hq) ?_
      exact lw_ret hx hb hr hlocks dL_law_631
    have hlt : i + 5 ≤ L := Nat.not_lt.mp (fun q => c43 ((zlaw_c (L := L) (by omega) (by omega)).mpr q))
    refine lv_aload_n hx hb dL_law_46 rfl (lv_at hl 0 rfl) ?_
    refine lv_iload_n hx hb dL_law_47 rfl (lv_at hl 3 rfl) ?_
    refine zr_sld hx hb hX hbl hbA hS (i := i) (by omega) (by omega) dL_law_48 ?_
    refine lv_bipush (v := nI 15) hx hb dL_law_49 (by decide) ?_
    refine lv_iand hx hb dL_law_51 ?_
    obtain ⟨j, hj, ej⟩ := pk_andE (xs i) (m := nI 15) 4 (by decide)
    rw [ej]
    rcases (show j = 0 ∨ j = 1 ∨ j = 2 ∨ j = 3 ∨ j = 4 ∨ j = 5 ∨ j = 6 ∨ j = 7 ∨ j = 8 ∨ j = 9 ∨ j = 10 ∨ j = 11 ∨ 12 ≤ j by omega) with rfl | rfl | rfl | rfl | rfl | rfl | rfl | rfl | rfl | rfl | rfl | rfl | h12
    ·
      refine lv_tableIn (tgt := 116) hx hb dL_law_52 (by decide) (by decide) rfl (by decide) ?_
      refine lv_aload_n hx hb dL_law_116 rfl (lv_at hl 1 rfl) ?_
      refine lv_aload_n hx hb dL_law_117 rfl (lv_at hl 0 rfl) ?_
      refine lv_iload_n hx hb dL_law_118 rfl (lv_at hl 3 rfl) ?_
      refine lv_iconst (v := nI 1) hx hb dL_law_119 (by decide) ?_
      refine zr_iadd hx hb dL_law_120 ?_
      refine zr_sld hx hb hX hbl hbA hS (i := i + 1) (by omega) (by omega) dL_law_121 ?_
      refine lv_aload_n hx hb dL_law_122 rfl (lv_at hl 0 rfl) ?_
      refine lv_iload_n hx hb dL_law_123 rfl (lv_at hl 3 rfl) ?_
      refine lv_iconst (v := nI 2) hx hb dL_law_124 (by decide) ?_
      refine zr_iadd hx hb dL_law_125 ?_
      refine zr_sld hx hb hX hbl hbA hS (i := i + 2) (by omega) (by omega) dL_law_126 ?_
      refine lv_aload_n hx hb dL_law_127 rfl (lv_at hl 0 rfl) ?_
      refine lv_iload_n hx hb dL_law_128 rfl (lv_at hl 3 rfl) ?_
      refine lv_iconst (v := nI 3) hx hb dL_law_129 (by decide) ?_
      refine zr_iadd hx hb dL_law_130 ?_
      refine zr_sld hx hb hX hbl hbA hS (i := i + 3) (by omega) (by omega) dL_law_131 ?_
      have hFc := zfree (w := xw ax cI cJ cII cJJ S C n va mk ct ps kn cx) (zD_l hD) hS hA
      refine va_calli (va_runV (As := [.int (xs (i + 1)), .int (xs (i + 2)), .int (xs (i + 3))]) (rest := []) ⟨hx, hb, hml, hown, hts⟩ (c_X0_get l dC dI ax cI cJ cII cJJ S C n va mk ct ps kn cx hG (xs (i + 1)) (xs (i + 2)) (xs (i + 3)) H.size) (cwV 3 hts gL_law_X0_get rfl rfl rfl (by decide +kernel) ⟨Nat.le_of_ble_eq_true rfl, Nat.le_of_ble_eq_true rfl⟩) ⟨xC_blind, va_recv hKx (zP_l hP) (ci := 0) (q0 := 0) rfl rfl, fun U hU hW => ⟨rfl, by rw [hU], by rw [hU]; exact (zP_l hP), va_K.moved hW.alike hKx, (zD_l hD).weaken (fun _ _ _ _ => trivial)⟩⟩ rfl rfl hl.1 rfl (lv_room (Nat.le_of_ble_eq_true rfl)) dL_law_132 ⟨Nat.le_of_ble_eq_true rfl, Nat.le_of_ble_eq_true rfl⟩) hS (fun q _ h => hFc q h) hFc (fun r u t H1 locs ht hvm hw hB hz1 hk1 hS => ?_)
      obtain ⟨rfl, rfl⟩ := hw
      obtain ⟨hP1, hK1, hD1⟩ := hB
      rw [ht] at hP1
      obtain ⟨hP, hD⟩ := zjoinL hP hD hk1 hFc hP1 hD1
      generalize H1 = H at hP hS ⊢
      have hP : va_P (dC, dI) vwCl (xw ax cI cJ cII cJJ S C n va mk ct ps kn (uGet S C kn cx (xs (i + 1)) (xs (i + 2)) (xs (i + 3))) ++ mw am eI eJ S C n va mk ct ps kn cx rd) H := hP
      have hD : va_D (fun q : Nat => s.heap.size ≤ q) (xw ax cI cJ cII cJJ S C n va mk ct ps kn (uGet S C kn cx (xs (i + 1)) (xs (i + 2)) (xs (i + 3))) ++ mw am eI eJ S C n va mk ct ps kn cx rd) := hD
      refine lv_aload_n hx hb dL_law_135 rfl (lv_at hl 2 rfl) ?_
      refine lv_aload_n hx hb dL_law_136 rfl (lv_at hl 0 rfl) ?_
      refine lv_iload_n hx hb dL_law_137 rfl (lv_at hl 3 rfl) ?_
      refine lv_iconst (v := nI 1) hx hb dL_law_138 (by decide) ?_
      refine zr_iadd hx hb dL_law_139 ?_
      refine zr_sld hx hb hX hbl hbA hS (i := i + 1) (by omega) (by omega) dL_law_140 ?_
      refine lv_aload_n hx hb dL_law_141 rfl (lv_at hl 0 rfl) ?_
      refine lv_iload_n hx hb dL_law_142 rfl (lv_at hl 3 rfl) ?_
      refine lv_iconst (v := nI 2) hx hb dL_law_143 (by decide) ?_
      refine zr_iadd hx hb dL_law_144 ?_
      refine zr_sld hx hb hX hbl hbA hS (i := i + 2) (by omega) (by omega) dL_law_145 ?_
      refine lv_aload_n hx hb dL_law_146 rfl (lv_at hl 0 rfl) ?_
      refine lv_iload_n hx hb dL_law_147 rfl (lv_at hl 3 rfl) ?_
      refine lv_iconst (v := nI 3) hx hb dL_law_148 (by decide) ?_
      refine zr_iadd hx hb dL_law_149 ?_
      refine zr_sld hx hb hX hbl hbA hS (i := i + 3) (by omega) (by omega) dL_law_150 ?_
      have hFc := zfree (w := mw am eI eJ S C n va mk ct ps kn cx rd) (zD_r hD) hS hA
      refine va_calli (va_runV (As := [.int (xs (i + 1)), .int (xs (i + 2)), .int (xs (i + 3))]) (rest := [.int (aGet S C n ps kn (xs (i + 1)) (xs (i + 2)) (xs (i + 3)))]) ⟨hx, hb, hml, hown, hts⟩ (c_X1_get l dC dI am eI eJ S C n va mk ct ps kn cx rd hG (xs (i + 1)) (xs (i + 2)) (xs (i + 3)) H.size) (cwV 3 hts gL_law_X1_get rfl rfl rfl (by decide +kernel) ⟨Nat.le_of_ble_eq_true rfl, Nat.le_of_ble_eq_true rfl⟩) ⟨mC_blind, va_recv hKm (zP_r hP) (ci := 1) (q0 := 0) rfl rfl, fun U hU hW => ⟨rfl, by rw [hU], by rw [hU]; exact (zP_r hP), va_K.moved hW.alike hKm, (zD_r hD).weaken (fun _ _ _ _ => trivial)⟩⟩ rfl rfl hl.1 rfl (lv_room (Nat.le_of_ble_eq_true rfl)) dL_law_151 ⟨Nat.le_of_ble_eq_true rfl, Nat.le_of_ble_eq_true rfl⟩) hS (fun q _ h => hFc q h) hFc (fun r u t H1 locs ht hvm hw hB hz1 hk1 hS => ?_)
      obtain ⟨rfl, rfl⟩ := hw
      obtain ⟨hP1, hK1, hD1⟩ := hB
      rw [ht] at hP1
      obtain ⟨hP, hD⟩ := zjoinR hP hD hk1 hFc hP1 hD1
      generalize H1 = H at hP hS ⊢
      have hP : va_P (dC, dI) vwCl (xw ax cI cJ cII cJJ S C n va mk ct ps kn (uGet S C kn cx (xs (i + 1)) (xs (i + 2)) (xs (i + 3))) ++ mw am eI eJ S C n va mk ct ps kn (uGet S C kn cx (xs (i + 1)) (xs (i + 2)) (xs (i + 3))) (vGet S C n ps kn rd (xs (i + 1)) (xs (i + 2)) (xs (i + 3)))) H := hP
      have hD : va_D (fun q : Nat => s.heap.size ≤ q) (xw ax cI cJ cII cJJ S C n va mk ct ps kn (uGet S C kn cx (xs (i + 1)) (xs (i + 2)) (xs (i + 3))) ++ mw am eI eJ S C n va mk ct ps kn (uGet S C kn cx (xs (i + 1)) (xs (i + 2)) (xs (i + 3))) (vGet S C n ps kn rd (xs (i + 1)) (xs (i + 2)) (xs (i + 3)))) := hD
      refine lv_icmp_eq (tgt := 624) hx hb dL_law_154 (by decide) (fun _ => ?_) (fun q => absurd rfl q)
      refine lv_iinc (v := nI (i + 5)) (lv' := [(3, .int (nI (i + 5))), (0, .ref b), (1, .ref (ax 0)), (2, .ref (am 0))]) hx hb dL_law_624 hl (k := 3) rfl (nI_add i 5) (by decide) rfl (fun ls hl => ?_)
      refine lv_goto (tgt := 38) hx hb dL_law_627 (by decide) ?_
      exact ih (i + 5) (by omega) (by omega) n va mk ct ps kn (uGet S C kn cx (xs (i + 1)) (xs (i + 2)) (xs (i + 3))) (vGet S C n ps kn rd (xs (i + 1)) (xs (i + 2)) (xs (i + 3))) (zG_get hG _ _ _) (zR_get hR _ _ _) _ _ hP hD hS ls (lv_sub hl [1, 2, 3, 0] rfl)
    ·
      refine lv_tableIn (tgt := 159) hx hb dL_law_52 (by decide) (by decide) rfl (by decide) ?_
      refine lv_aload_n hx hb dL_law_159 rfl (lv_at hl 1 rfl) ?_
      refine lv_aload_n hx hb dL_law_160 rfl (lv_at hl 0 rfl) ?_
      refine lv_iload_n hx hb dL_law_161 rfl (lv_at hl 3 rfl) ?_
      refine lv_iconst (v := nI 1) hx hb dL_law_162 (by decide) ?_
      refine zr_iadd hx hb dL_law_163 ?_
      refine zr_sld hx hb hX hbl hbA hS (i := i + 1) (by omega) (by omega) dL_law_164 ?_
      refine lv_aload_n hx hb dL_law_165 rfl (lv_at hl 0 rfl) ?_
      refine lv_iload_n hx hb dL_law_166 rfl (lv_at hl 3 rfl) ?_
      refine lv_iconst (v := nI 2) hx hb dL_law_167 (by decide) ?_
      refine zr_iadd hx hb dL_law_168 ?_
      refine zr_sld hx hb hX hbl hbA hS (i := i + 2) (by omega) (by omega) dL_law_169 ?_
      refine lv_aload_n hx hb dL_law_170 rfl (lv_at hl 0 rfl) ?_
      refine lv_iload_n hx hb dL_law_171 rfl (lv_at hl 3 rfl) ?_
      refine lv_iconst (v := nI 3) hx hb dL_law_172 (by decide) ?_
      refine zr_iadd hx hb dL_law_173 ?_
      refine zr_sld hx hb hX hbl hbA hS (i := i + 3) (by omega) (by omega) dL_law_174 ?_
      refine vp_callSl (W.runV (As := [.int (xs (i + 1)), .int (xs (i + 2)), .int (xs (i + 3))]) (rest := []) ⟨hx, hb, hml, hown, hts⟩ (c_X0_read l dC dI ax cI cJ cII cJJ S C n va mk ct ps kn cx hG (xs (i + 1)) (xs (i + 2)) (xs (i + 3))) (cwV 3 hts gL_law_X0_read rfl rfl rfl (by decide +kernel) ⟨Nat.le_of_ble_eq_true rfl, Nat.le_of_ble_eq_true rfl⟩) ⟨xB_blind, va_recv hKx (zP_l hP) (ci := 0) (q0 := 0) rfl rfl, fun U hU hW => ⟨rfl, xB_at (zP_l hP) hKx hU hW⟩⟩ rfl rfl hl.1 rfl (lv_room (Nat.le_of_ble_eq_true rfl)) dL_law_175 ⟨Nat.le_of_ble_eq_true rfl, Nat.le_of_ble_eq_true rfl⟩) (fun r hq => ?_)
      subst hq
      refine lv_aload_n hx hb dL_law_178 rfl (lv_at hl 2 rfl) ?_
      refine lv_aload_n hx hb dL_law_179 rfl (lv_at hl 0 rfl) ?_
      refine lv_iload_n hx hb dL_law_180 rfl (lv_at hl 3 rfl) ?_
      refine lv_iconst (v := nI 1) hx hb dL_law_181 (by decide) ?_
      refine zr_iadd hx hb dL_law_182 ?_
      refine zr_sld hx hb hX hbl hbA hS (i := i + 1) (by omega) (by omega) dL_law_183 ?_
      refine lv_aload_n hx hb dL_law_184 rfl (lv_at hl 0 rfl) ?_
      refine lv_iload_n hx hb dL_law_185 rfl (lv_at hl 3 rfl) ?_
      refine lv_iconst (v := nI 2) hx hb dL_law_186 (by decide) ?_
      refine zr_iadd hx hb dL_law_187 ?_
      refine zr_sld hx hb hX hbl hbA hS (i := i + 2) (by omega) (by omega) dL_law_188 ?_
      refine lv_aload_n hx hb dL_law_189 rfl (lv_at hl 0 rfl) ?_
      refine lv_iload_n hx hb dL_law_190 rfl (lv_at hl 3 rfl) ?_
      refine lv_iconst (v := nI 3) hx hb dL_law_191 (by decide) ?_
      refine zr_iadd hx hb dL_law_192 ?_
      refine zr_sld hx hb hX hbl hbA hS (i := i + 3) (by omega) (by omega) dL_law_193 ?_
      refine vp_callSl (W.runV (As := [.int (xs (i + 1)), .int (xs (i + 2)), .int (xs (i + 3))]) (rest := [.long (aRead S C n va mk ps cx (xs (i + 1)) (xs (i + 2)) (xs (i + 3)))]) ⟨hx, hb, hml, hown, hts⟩ (c_X1_read l dC dI am eI eJ S C n va mk ct ps kn cx rd hG (zR_lt hR hG.2.2.2.2.2.2.1) (xs (i + 1)) (xs (i + 2)) (xs (i + 3))) (cwV 3 hts gL_law_X1_read rfl rfl rfl (by decide +kernel) ⟨Nat.le_of_ble_eq_true rfl, Nat.le_of_ble_eq_true rfl⟩) ⟨mB_blind, va_recv hKm (zP_r hP) (ci := 1) (q0 := 0) rfl rfl, fun U hU hW => ⟨rfl, mB_at (zP_r hP) hKm hU hW⟩⟩ rfl rfl hl.1 rfl (lv_room (Nat.le_of_ble_eq_true rfl)) dL_law_194 ⟨Nat.le_of_ble_eq_true rfl, Nat.le_of_ble_eq_true rfl⟩) (fun r hq => ?_)
      have hq := hq.trans (zR_read hR _ _ _)
      subst hq
      refine zr_lsame (tgt := 624) hx hb dL_law_197 dL_law_198 (by decide) ?_
      refine lv_iinc (v := nI (i + 5)) (lv' := [(3, .int (nI (i + 5))), (0, .ref b), (1, .ref (ax 0)), (2, .ref (am 0))]) hx hb dL_law_624 hl (k := 3) rfl (nI_add i 5) (by decide) rfl (fun ls hl => ?_)
      refine lv_goto (tgt := 38) hx hb dL_law_627 (by decide) ?_
      exact ih (i + 5) (by omega) (by omega) n va mk ct ps kn cx rd hG hR _ _ hP hD hS ls (lv_sub hl [1, 2, 3, 0] rfl)
    ·
      refine lv_tableIn (tgt := 203) hx hb dL_law_52 (by decide) (by decide) rfl (by decide) ?_
      refine lv_aload_n hx hb dL_law_203 rfl (lv_at hl 1 rfl) ?_
      refine lv_aload_n hx hb dL_law_204 rfl (lv_at hl 0 rfl) ?_
      refine lv_iload_n hx hb dL_law_205 rfl (lv_at hl 3 rfl) ?_
      refine lv_iconst (v := nI 1) hx hb dL_law_206 (by decide) ?_
      refine zr_iadd hx hb dL_law_207 ?_
      refine zr_sld hx hb hX hbl hbA hS (i := i + 1) (by omega) (by omega) dL_law_208 ?_
      refine lv_aload_n hx hb dL_law_209 rfl (lv_at hl 0 rfl) ?_
      refine lv_iload_n hx hb dL_law_210 rfl (lv_at hl 3 rfl) ?_
      refine lv_iconst (v := nI 2) hx hb dL_law_211 (by decide) ?_
      refine zr_iadd hx hb dL_law_212 ?_
      refine zr_sld hx hb hX hbl hbA hS (i := i + 2) (by omega) (by omega) dL_law_213 ?_
      refine lv_aload_n hx hb dL_law_214 rfl (lv_at hl 0 rfl) ?_
      refine lv_iload_n hx hb dL_law_215 rfl (lv_at hl 3 rfl) ?_
      refine lv_iconst (v := nI 3) hx hb dL_law_216 (by decide) ?_
      refine zr_iadd hx hb dL_law_217 ?_
      refine zr_sld hx hb hX hbl hbA hS (i := i + 3) (by omega) (by omega) dL_law_218 ?_
      refine lv_aload_n hx hb dL_law_219 rfl (lv_at hl 0 rfl) ?_
      refine lv_iload_n hx hb dL_law_220 rfl (lv_at hl 3 rfl) ?_
      refine lv_iconst (v := nI 4) hx hb dL_law_221 (by decide) ?_
      refine zr_iadd hx hb dL_law_222 ?_
      refine zr_sld hx hb hX hbl hbA hS (i := i + 4) (by omega) (by omega) dL_law_223 ?_
      have hFc := zfree (w := xw ax cI cJ cII cJJ S C n va mk ct ps kn cx) (zD_l hD) hS hA
      refine va_calli (va_runV (As := [.int (xs (i + 1)), .int (xs (i + 2)), .int (xs (i + 3)), .int (xs (i + 4))]) (rest := []) ⟨hx, hb, hml, hown, hts⟩ (c_X0_put l dC dI ax cI cJ cII cJJ S C n va mk ct ps kn cx hG (xs (i + 1)) (xs (i + 2)) (xs (i + 3)) (xs (i + 4)) H.size) (cwV 4 hts gL_law_X0_put rfl rfl rfl (by decide +kernel) ⟨Nat.le_of_ble_eq_true rfl, Nat.le_of_ble_eq_true rfl⟩) ⟨xC_blind, va_recv hKx (zP_l hP) (ci := 0) (q0 := 0) rfl rfl, fun U hU hW => ⟨rfl, by rw [hU], by rw [hU]; exact (zP_l hP), va_K.moved hW.alike hKx, (zD_l hD).weaken (fun _ _ _ _ => trivial)⟩⟩ rfl rfl hl.1 rfl (lv_room (Nat.le_of_ble_eq_true rfl)) dL_law_224 ⟨Nat.le_of_ble_eq_true rfl, Nat.le_of_ble_eq_true rfl⟩) hS (fun q _ h => hFc q h) hFc (fun r u t H1 locs ht hvm hw hB hz1 hk1 hS => ?_)
      obtain ⟨rfl, rfl⟩ := hw
      obtain ⟨hP1, hK1, hD1⟩ := hB
      rw [ht] at hP1
      obtain ⟨hP, hD⟩ := zjoinL hP hD hk1 hFc hP1 hD1
      generalize H1 = H at hP hS ⊢
      have hP : va_P (dC, dI) vwCl (xw ax cI cJ cII cJJ S C ((uPut S C n va mk ct ps kn cx (xs (i + 1)) (xs (i + 2)) (xs (i + 3)) (xs (i + 4))).1) ((uPut S C n va mk ct ps kn cx (xs (i + 1)) (xs (i + 2)) (xs (i + 3)) (xs (i + 4))).2.1) ((uPut S C n va mk ct ps kn cx (xs (i + 1)) (xs (i + 2)) (xs (i + 3)) (xs (i + 4))).2.2.1) ((uPut S C n va mk ct ps kn cx (xs (i + 1)) (xs (i + 2)) (xs (i + 3)) (xs (i + 4))).2.2.2.1) ((uPut S C n va mk ct ps kn cx (xs (i + 1)) (xs (i + 2)) (xs (i + 3)) (xs (i + 4))).2.2.2.2.1) ((uPut S C n va mk ct ps kn cx (xs (i + 1)) (xs (i + 2)) (xs (i + 3)) (xs (i + 4))).2.2.2.2.2) cx ++ mw am eI eJ S C n va mk ct ps kn cx rd) H := hP
      have hD : va_D (fun q : Nat => s.heap.size ≤ q) (xw ax cI cJ cII cJJ S C ((uPut S C n va mk ct ps kn cx (xs (i + 1)) (xs (i + 2)) (xs (i + 3)) (xs (i + 4))).1) ((uPut S C n va mk ct ps kn cx (xs (i + 1)) (xs (i + 2)) (xs (i + 3)) (xs (i + 4))).2.1) ((uPut S C n va mk ct ps kn cx (xs (i + 1)) (xs (i + 2)) (xs (i + 3)) (xs (i + 4))).2.2.1) ((uPut S C n va mk ct ps kn cx (xs (i + 1)) (xs (i + 2)) (xs (i + 3)) (xs (i + 4))).2.2.2.1) ((uPut S C n va mk ct ps kn cx (xs (i + 1)) (xs (i + 2)) (xs (i + 3)) (xs (i + 4))).2.2.2.2.1) ((uPut S C n va mk ct ps kn cx (xs (i + 1)) (xs (i + 2)) (xs (i + 3)) (xs (i + 4))).2.2.2.2.2) cx ++ mw am eI eJ S C n va mk ct ps kn cx rd) := hD
      refine lv_aload_n hx hb dL_law_227 rfl (lv_at hl 2 rfl) ?_
      refine lv_aload_n hx hb dL_law_228 rfl (lv_at hl 0 rfl) ?_
      refine lv_iload_n hx hb dL_law_229 rfl (lv_at hl 3 rfl) ?_
      refine lv_iconst (v := nI 1) hx hb dL_law_230 (by decide) ?_
      refine zr_iadd hx hb dL_law_231 ?_
      refine zr_sld hx hb hX hbl hbA hS (i := i + 1) (by omega) (by omega) dL_law_232 ?_
      refine lv_aload_n hx hb dL_law_233 rfl (lv_at hl 0 rfl) ?_
      refine lv_iload_n hx hb dL_law_234 rfl (lv_at hl 3 rfl) ?_
      refine lv_iconst (v := nI 2) hx hb dL_law_235 (by decide) ?_
      refine zr_iadd hx hb dL_law_236 ?_
      refine zr_sld hx hb hX hbl hbA hS (i := i + 2) (by omega) (by omega) dL_law_237 ?_
      refine lv_aload_n hx hb dL_law_238 rfl (lv_at hl 0 rfl) ?_
      refine lv_iload_n hx hb dL_law_239 rfl (lv_at hl 3 rfl) ?_
      refine lv_iconst (v := nI 3) hx hb dL_law_240 (by decide) ?_
      refine zr_iadd hx hb dL_law_241 ?_
      refine zr_sld hx hb hX hbl hbA hS (i := i + 3) (by omega) (by omega) dL_law_242 ?_
      refine lv_aload_n hx hb dL_law_243 rfl (lv_at hl 0 rfl) ?_
      refine lv_iload_n hx hb dL_law_244 rfl (lv_at hl 3 rfl) ?_
      refine lv_iconst (v := nI 4) hx hb dL_law_245 (by decide) ?_
      refine zr_iadd hx hb dL_law_246 ?_
      refine zr_sld hx hb hX hbl hbA hS (i := i + 4) (by omega) (by omega) dL_law_247 ?_
      have hFc := zfree (w := mw am eI eJ S C n va mk ct ps kn cx rd) (zD_r hD) hS hA
      refine va_calli (va_runV (As := [.int (xs (i + 1)), .int (xs (i + 2)), .int (xs (i + 3)), .int (xs (i + 4))]) (rest := [.int (aPut S C n (xs (i + 1)) (xs (i + 2)) (xs (i + 3)))]) ⟨hx, hb, hml, hown, hts⟩ (c_X1_put l dC dI am eI eJ S C n va mk ct ps kn cx rd hG (xs (i + 1)) (xs (i + 2)) (xs (i + 3)) (xs (i + 4)) H.size) (cwV 4 hts gL_law_X1_put rfl rfl rfl (by decide +kernel) ⟨Nat.le_of_ble_eq_true rfl, Nat.le_of_ble_eq_true rfl⟩) ⟨mC_blind, va_recv hKm (zP_r hP) (ci := 1) (q0 := 0) rfl rfl, fun U hU hW => ⟨rfl, by rw [hU], by rw [hU]; exact (zP_r hP), va_K.moved hW.alike hKm, (zD_r hD).weaken (fun _ _ _ _ => trivial)⟩⟩ rfl rfl hl.1 rfl (lv_room (Nat.le_of_ble_eq_true rfl)) dL_law_248 ⟨Nat.le_of_ble_eq_true rfl, Nat.le_of_ble_eq_true rfl⟩) hS (fun q _ h => hFc q h) hFc (fun r u t H1 locs ht hvm hw hB hz1 hk1 hS => ?_)
      obtain ⟨rfl, rfl⟩ := hw
      obtain ⟨hP1, hK1, hD1⟩ := hB
      rw [ht] at hP1
      obtain ⟨hP, hD⟩ := zjoinR hP hD hk1 hFc hP1 hD1
      generalize H1 = H at hP hS ⊢
      have hP : va_P (dC, dI) vwCl (xw ax cI cJ cII cJJ S C ((uPut S C n va mk ct ps kn cx (xs (i + 1)) (xs (i + 2)) (xs (i + 3)) (xs (i + 4))).1) ((uPut S C n va mk ct ps kn cx (xs (i + 1)) (xs (i + 2)) (xs (i + 3)) (xs (i + 4))).2.1) ((uPut S C n va mk ct ps kn cx (xs (i + 1)) (xs (i + 2)) (xs (i + 3)) (xs (i + 4))).2.2.1) ((uPut S C n va mk ct ps kn cx (xs (i + 1)) (xs (i + 2)) (xs (i + 3)) (xs (i + 4))).2.2.2.1) ((uPut S C n va mk ct ps kn cx (xs (i + 1)) (xs (i + 2)) (xs (i + 3)) (xs (i + 4))).2.2.2.2.1) ((uPut S C n va mk ct ps kn cx (xs (i + 1)) (xs (i + 2)) (xs (i + 3)) (xs (i + 4))).2.2.2.2.2) cx ++ mw am eI eJ S C ((uPut S C n va mk ct ps kn cx (xs (i + 1)) (xs (i + 2)) (xs (i + 3)) (xs (i + 4))).1) ((uPut S C n va mk ct ps kn cx (xs (i + 1)) (xs (i + 2)) (xs (i + 3)) (xs (i + 4))).2.1) ((uPut S C n va mk ct ps kn cx (xs (i + 1)) (xs (i + 2)) (xs (i + 3)) (xs (i + 4))).2.2.1) ((uPut S C n va mk ct ps kn cx (xs (i + 1)) (xs (i + 2)) (xs (i + 3)) (xs (i + 4))).2.2.2.1) ((uPut S C n va mk ct ps kn cx (xs (i + 1)) (xs (i + 2)) (xs (i + 3)) (xs (i + 4))).2.2.2.2.1) ((uPut S C n va mk ct ps kn cx (xs (i + 1)) (xs (i + 2)) (xs (i + 3)) (xs (i + 4))).2.2.2.2.2) cx rd) H := hP
      have hD : va_D (fun q : Nat => s.heap.size ≤ q) (xw ax cI cJ cII cJJ S C ((uPut S C n va mk ct ps kn cx (xs (i + 1)) (xs (i + 2)) (xs (i + 3)) (xs (i + 4))).1) ((uPut S C n va mk ct ps kn cx (xs (i + 1)) (xs (i + 2)) (xs (i + 3)) (xs (i + 4))).2.1) ((uPut S C n va mk ct ps kn cx (xs (i + 1)) (xs (i + 2)) (xs (i + 3)) (xs (i + 4))).2.2.1) ((uPut S C n va mk ct ps kn cx (xs (i + 1)) (xs (i + 2)) (xs (i + 3)) (xs (i + 4))).2.2.2.1) ((uPut S C n va mk ct ps kn cx (xs (i + 1)) (xs (i + 2)) (xs (i + 3)) (xs (i + 4))).2.2.2.2.1) ((uPut S C n va mk ct ps kn cx (xs (i + 1)) (xs (i + 2)) (xs (i + 3)) (xs (i + 4))).2.2.2.2.2) cx ++ mw am eI eJ S C ((uPut S C n va mk ct ps kn cx (xs (i + 1)) (xs (i + 2)) (xs (i + 3)) (xs (i + 4))).1) ((uPut S C n va mk ct ps kn cx (xs (i + 1)) (xs (i + 2)) (xs (i + 3)) (xs (i + 4))).2.1) ((uPut S C n va mk ct ps kn cx (xs (i + 1)) (xs (i + 2)) (xs (i + 3)) (xs (i + 4))).2.2.1) ((uPut S C n va mk ct ps kn cx (xs (i + 1)) (xs (i + 2)) (xs (i + 3)) (xs (i + 4))).2.2.2.1) ((uPut S C n va mk ct ps kn cx (xs (i + 1)) (xs (i + 2)) (xs (i + 3)) (xs (i + 4))).2.2.2.2.1) ((uPut S C n va mk ct ps kn cx (xs (i + 1)) (xs (i + 2)) (xs (i + 3)) (xs (i + 4))).2.2.2.2.2) cx rd) := hD
      refine lv_icmp_eq (tgt := 624) hx hb dL_law_251 (by decide) (fun _ => ?_) (fun q => absurd rfl q)
      refine lv_iinc (v := nI (i + 5)) (lv' := [(3, .int (nI (i + 5))), (0, .ref b), (1, .ref (ax 0)), (2, .ref (am 0))]) hx hb dL_law_624 hl (k := 3) rfl (nI_add i 5) (by decide) rfl (fun ls hl => ?_)
      refine lv_goto (tgt := 38) hx hb dL_law_627 (by decide) ?_
      exact ih (i + 5) (by omega) (by omega) ((uPut S C n va mk ct ps kn cx (xs (i + 1)) (xs (i + 2)) (xs (i + 3)) (xs (i + 4))).1) ((uPut S C n va mk ct ps kn cx (xs (i + 1)) (xs (i + 2)) (xs (i + 3)) (xs (i + 4))).2.1) ((uPut S C n va mk ct ps kn cx (xs (i + 1)) (xs (i + 2)) (xs (i + 3)) (xs (i + 4))).2.2.1) ((uPut S C n va mk ct ps kn cx (xs (i + 1)) (xs (i + 2)) (xs (i + 3)) (xs (i + 4))).2.2.2.1) ((uPut S C n va mk ct ps kn cx (xs (i + 1)) (xs (i + 2)) (xs (i + 3)) (xs (i + 4))).2.2.2.2.1) ((uPut S C n va mk ct ps kn cx (xs (i + 1)) (xs (i + 2)) (xs (i + 3)) (xs (i + 4))).2.2.2.2.2) cx rd (zG_put hG _ _ _ _) (zR_put hR hG.2.2.2.2.2.2.1 _ _ _ _) _ _ hP hD hS ls (lv_sub hl [1, 2, 3, 0] rfl)
    ·
      refine lv_tableIn (tgt := 256) hx hb dL_law_52 (by decide) (by decide) rfl (by decide) ?_
      refine lv_aload_n hx hb dL_law_256 rfl (lv_at hl 1 rfl) ?_
      refine lv_aload_n hx hb dL_law_257 rfl (lv_at hl 0 rfl) ?_
      refine lv_iload_n hx hb dL_law_258 rfl (lv_at hl 3 rfl) ?_
      refine lv_iconst (v := nI 1) hx hb dL_law_259 (by decide) ?_
      refine zr_iadd hx hb dL_law_260 ?_
      refine zr_sld hx hb hX hbl hbA hS (i := i + 1) (by omega) (by omega) dL_law_261 ?_
      refine lv_aload_n hx hb dL_law_262 rfl (lv_at hl 0 rfl) ?_
      refine lv_iload_n hx hb dL_law_263 rfl (lv_at hl 3 rfl) ?_
      refine lv_iconst (v := nI 2) hx hb dL_law_264 (by decide) ?_
      refine zr_iadd hx hb dL_law_265 ?_
      refine zr_sld hx hb hX hbl hbA hS (i := i + 2) (by omega) (by omega) dL_law_266 ?_
      refine lv_aload_n hx hb dL_law_267 rfl (lv_at hl 0 rfl) ?_
      refine lv_iload_n hx hb dL_law_268 rfl (lv_at hl 3 rfl) ?_
      refine lv_iconst (v := nI 3) hx hb dL_law_269 (by decide) ?_
      refine zr_iadd hx hb dL_law_270 ?_
      refine zr_sld hx hb hX hbl hbA hS (i := i + 3) (by omega) (by omega) dL_law_271 ?_
      have hFc := zfree (w := xw ax cI cJ cII cJJ S C n va mk ct ps kn cx) (zD_l hD) hS hA
      refine va_calli (va_runV (As := [.int (xs (i + 1)), .int (xs (i + 2)), .int (xs (i + 3))]) (rest := []) ⟨hx, hb, hml, hown, hts⟩ (c_X0_sync l dC dI ax cI cJ cII cJJ S C n va mk ct ps kn cx hG (xs (i + 1)) (xs (i + 2)) (xs (i + 3)) H.size) (cwV 3 hts gL_law_X0_sync rfl rfl rfl (by decide +kernel) ⟨Nat.le_of_ble_eq_true rfl, Nat.le_of_ble_eq_true rfl⟩) ⟨xC_blind, va_recv hKx (zP_l hP) (ci := 0) (q0 := 0) rfl rfl, fun U hU hW => ⟨rfl, by rw [hU], by rw [hU]; exact (zP_l hP), va_K.moved hW.alike hKx, (zD_l hD).weaken (fun _ _ _ _ => trivial)⟩⟩ rfl rfl hl.1 rfl (lv_room (Nat.le_of_ble_eq_true rfl)) dL_law_272 ⟨Nat.le_of_ble_eq_true rfl, Nat.le_of_ble_eq_true rfl⟩) hS (fun q _ h => hFc q h) hFc (fun r u t H1 locs ht hvm hw hB hz1 hk1 hS => ?_)
      obtain ⟨rfl, rfl⟩ := hw
      obtain ⟨hP1, hK1, hD1⟩ := hB
      rw [ht] at hP1
      obtain ⟨hP, hD⟩ := zjoinL hP hD hk1 hFc hP1 hD1
      generalize H1 = H at hP hS ⊢
      have hP : va_P (dC, dI) vwCl (xw ax cI cJ cII cJJ S C n va mk ct ps (uSync S kn (xs (i + 1)) (xs (i + 2)) (xs (i + 3))) cx ++ mw am eI eJ S C n va mk ct ps kn cx rd) H := hP
      have hD : va_D (fun q : Nat => s.heap.size ≤ q) (xw ax cI cJ cII cJJ S C n va mk ct ps (uSync S kn (xs (i + 1)) (xs (i + 2)) (xs (i + 3))) cx ++ mw am eI eJ S C n va mk ct ps kn cx rd) := hD
      refine lv_aload_n hx hb dL_law_275 rfl (lv_at hl 2 rfl) ?_
      refine lv_aload_n hx hb dL_law_276 rfl (lv_at hl 0 rfl) ?_
      refine lv_iload_n hx hb dL_law_277 rfl (lv_at hl 3 rfl) ?_
      refine lv_iconst (v := nI 1) hx hb dL_law_278 (by decide) ?_
      refine zr_iadd hx hb dL_law_279 ?_
      refine zr_sld hx hb hX hbl hbA hS (i := i + 1) (by omega) (by omega) dL_law_280 ?_
      refine lv_aload_n hx hb dL_law_281 rfl (lv_at hl 0 rfl) ?_
      refine lv_iload_n hx hb dL_law_282 rfl (lv_at hl 3 rfl) ?_
      refine lv_iconst (v := nI 2) hx hb dL_law_283 (by decide) ?_
      refine zr_iadd hx hb dL_law_284 ?_
      refine zr_sld hx hb hX hbl hbA hS (i := i + 2) (by omega) (by omega) dL_law_285 ?_
      refine lv_aload_n hx hb dL_law_286 rfl (lv_at hl 0 rfl) ?_
      refine lv_iload_n hx hb dL_law_287 rfl (lv_at hl 3 rfl) ?_
      refine lv_iconst (v := nI 3) hx hb dL_law_288 (by decide) ?_
      refine zr_iadd hx hb dL_law_289 ?_
      refine zr_sld hx hb hX hbl hbA hS (i := i + 3) (by omega) (by omega) dL_law_290 ?_
      have hFc := zfree (w := mw am eI eJ S C n va mk ct ps kn cx rd) (zD_r hD) hS hA
      refine va_calli (va_runV (As := [.int (xs (i + 1)), .int (xs (i + 2)), .int (xs (i + 3))]) (rest := [.int (aSync S (xs (i + 1)) (xs (i + 2)) (xs (i + 3)))]) ⟨hx, hb, hml, hown, hts⟩ (c_X1_sync l dC dI am eI eJ S C n va mk ct ps kn cx rd hG (xs (i + 1)) (xs (i + 2)) (xs (i + 3)) H.size) (cwV 3 hts gL_law_X1_sync rfl rfl rfl (by decide +kernel) ⟨Nat.le_of_ble_eq_true rfl, Nat.le_of_ble_eq_true rfl⟩) ⟨mC_blind, va_recv hKm (zP_r hP) (ci := 1) (q0 := 0) rfl rfl, fun U hU hW => ⟨rfl, by rw [hU], by rw [hU]; exact (zP_r hP), va_K.moved hW.alike hKm, (zD_r hD).weaken (fun _ _ _ _ => trivial)⟩⟩ rfl rfl hl.1 rfl (lv_room (Nat.le_of_ble_eq_true rfl)) dL_law_291 ⟨Nat.le_of_ble_eq_true rfl, Nat.le_of_ble_eq_true rfl⟩) hS (fun q _ h => hFc q h) hFc (fun r u t H1 locs ht hvm hw hB hz1 hk1 hS => ?_)
      obtain ⟨rfl, rfl⟩ := hw
      obtain ⟨hP1, hK1, hD1⟩ := hB
      rw [ht] at hP1
      obtain ⟨hP, hD⟩ := zjoinR hP hD hk1 hFc hP1 hD1
      generalize H1 = H at hP hS ⊢
      have hP : va_P (dC, dI) vwCl (xw ax cI cJ cII cJJ S C n va mk ct ps (uSync S kn (xs (i + 1)) (xs (i + 2)) (xs (i + 3))) cx ++ mw am eI eJ S C n va mk ct ps (uSync S kn (xs (i + 1)) (xs (i + 2)) (xs (i + 3))) cx rd) H := hP
      have hD : va_D (fun q : Nat => s.heap.size ≤ q) (xw ax cI cJ cII cJJ S C n va mk ct ps (uSync S kn (xs (i + 1)) (xs (i + 2)) (xs (i + 3))) cx ++ mw am eI eJ S C n va mk ct ps (uSync S kn (xs (i + 1)) (xs (i + 2)) (xs (i + 3))) cx rd) := hD
      refine lv_icmp_eq (tgt := 624) hx hb dL_law_294 (by decide) (fun _ => ?_) (fun q => absurd rfl q)
      refine lv_iinc (v := nI (i + 5)) (lv' := [(3, .int (nI (i + 5))), (0, .ref b), (1, .ref (ax 0)), (2, .ref (am 0))]) hx hb dL_law_624 hl (k := 3) rfl (nI_add i 5) (by decide) rfl (fun ls hl => ?_)
      refine lv_goto (tgt := 38) hx hb dL_law_627 (by decide) ?_
      exact ih (i + 5) (by omega) (by omega) n va mk ct ps (uSync S kn (xs (i + 1)) (xs (i + 2)) (xs (i + 3))) cx rd (zG_sync hG _ _ _) hR _ _ hP hD hS ls (lv_sub hl [1, 2, 3, 0] rfl)
    ·
      refine lv_tableIn (tgt := 299) hx hb dL_law_52 (by decide) (by decide) rfl (by decide) ?_
      refine lv_aload_n hx hb dL_law_299 rfl (lv_at hl 1 rfl) ?_
      refine lv_aload_n hx hb dL_law_300 rfl (lv_at hl 0 rfl) ?_
      refine lv_iload_n hx hb dL_law_301 rfl (lv_at hl 3 rfl) ?_
      refine lv_iconst (v := nI 1) hx hb dL_law_302 (by decide) ?_
      refine zr_iadd hx hb dL_law_303 ?_
      refine zr_sld hx hb hX hbl hbA hS (i := i + 1) (by omega) (by omega) dL_law_304 ?_
      refine lv_aload_n hx hb dL_law_305 rfl (lv_at hl 0 rfl) ?_
      refine lv_iload_n hx hb dL_law_306 rfl (lv_at hl 3 rfl) ?_
      refine lv_iconst (v := nI 2) hx hb dL_law_307 (by decide) ?_
      refine zr_iadd hx hb dL_law_308 ?_
      refine zr_sld hx hb hX hbl hbA hS (i := i + 2) (by omega) (by omega) dL_law_309 ?_
      have hFc := zfree (w := xw ax cI cJ cII cJJ S C n va mk ct ps kn cx) (zD_l hD) hS hA
      refine va_calli (va_runV (As := [.int (xs (i + 1)), .int (xs (i + 2))]) (rest := []) ⟨hx, hb, hml, hown, hts⟩ (c_X0_forget l dC dI ax cI cJ cII cJJ S C n va mk ct ps kn cx hG (xs (i + 1)) (xs (i + 2)) H.size) (cwV 2 hts gL_law_X0_forget rfl rfl rfl (by decide +kernel) ⟨Nat.le_of_ble_eq_true rfl, Nat.le_of_ble_eq_true rfl⟩) ⟨xC_blind, va_recv hKx (zP_l hP) (ci := 0) (q0 := 0) rfl rfl, fun U hU hW => ⟨rfl, by rw [hU], by rw [hU]; exact (zP_l hP), va_K.moved hW.alike hKx, (zD_l hD).weaken (fun _ _ _ _ => trivial)⟩⟩ rfl rfl hl.1 rfl (lv_room (Nat.le_of_ble_eq_true rfl)) dL_law_310 ⟨Nat.le_of_ble_eq_true rfl, Nat.le_of_ble_eq_true rfl⟩) hS (fun q _ h => hFc q h) hFc (fun r u t H1 locs ht hvm hw hB hz1 hk1 hS => ?_)
      obtain ⟨rfl, rfl⟩ := hw
      obtain ⟨hP1, hK1, hD1⟩ := hB
      rw [ht] at hP1
      obtain ⟨hP, hD⟩ := zjoinL hP hD hk1 hFc hP1 hD1
      generalize H1 = H at hP hS ⊢
      have hP : va_P (dC, dI) vwCl (xw ax cI cJ cII cJJ S C n va mk ct ps kn (uForget C cx (xs (i + 1)) (xs (i + 2))) ++ mw am eI eJ S C n va mk ct ps kn cx rd) H := hP
      have hD : va_D (fun q : Nat => s.heap.size ≤ q) (xw ax cI cJ cII cJJ S C n va mk ct ps kn (uForget C cx (xs (i + 1)) (xs (i + 2))) ++ mw am eI eJ S C n va mk ct ps kn cx rd) := hD
      refine lv_aload_n hx hb dL_law_313 rfl (lv_at hl 2 rfl) ?_
      refine lv_aload_n hx hb dL_law_314 rfl (lv_at hl 0 rfl) ?_
      refine lv_iload_n hx hb dL_law_315 rfl (lv_at hl 3 rfl) ?_
      refine lv_iconst (v := nI 1) hx hb dL_law_316 (by decide) ?_
      refine zr_iadd hx hb dL_law_317 ?_
      refine zr_sld hx hb hX hbl hbA hS (i := i + 1) (by omega) (by omega) dL_law_318 ?_
      refine lv_aload_n hx hb dL_law_319 rfl (lv_at hl 0 rfl) ?_
      refine lv_iload_n hx hb dL_law_320 rfl (lv_at hl 3 rfl) ?_
      refine lv_iconst (v := nI 2) hx hb dL_law_321 (by decide) ?_
      refine zr_iadd hx hb dL_law_322 ?_
      refine zr_sld hx hb hX hbl hbA hS (i := i + 2) (by omega) (by omega) dL_law_323 ?_
      have hFc := zfree (w := mw am eI eJ S C n va mk ct ps kn cx rd) (zD_r hD) hS hA
      refine va_calli (va_runV (As := [.int (xs (i + 1)), .int (xs (i + 2))]) (rest := [.int (aForget C (xs (i + 1)) (xs (i + 2)))]) ⟨hx, hb, hml, hown, hts⟩ (c_X1_forget l dC dI am eI eJ S C n va mk ct ps kn cx rd hG (xs (i + 1)) (xs (i + 2)) H.size) (cwV 2 hts gL_law_X1_forget rfl rfl rfl (by decide +kernel) ⟨Nat.le_of_ble_eq_true rfl, Nat.le_of_ble_eq_true rfl⟩) ⟨mC_blind, va_recv hKm (zP_r hP) (ci := 1) (q0 := 0) rfl rfl, fun U hU hW => ⟨rfl, by rw [hU], by rw [hU]; exact (zP_r hP), va_K.moved hW.alike hKm, (zD_r hD).weaken (fun _ _ _ _ => trivial)⟩⟩ rfl rfl hl.1 rfl (lv_room (Nat.le_of_ble_eq_true rfl)) dL_law_324 ⟨Nat.le_of_ble_eq_true rfl, Nat.le_of_ble_eq_true rfl⟩) hS (fun q _ h => hFc q h) hFc (fun r u t H1 locs ht hvm hw hB hz1 hk1 hS => ?_)
      obtain ⟨rfl, rfl⟩ := hw
      obtain ⟨hP1, hK1, hD1⟩ := hB
      rw [ht] at hP1
      obtain ⟨hP, hD⟩ := zjoinR hP hD hk1 hFc hP1 hD1
      generalize H1 = H at hP hS ⊢
      have hP : va_P (dC, dI) vwCl (xw ax cI cJ cII cJJ S C n va mk ct ps kn (uForget C cx (xs (i + 1)) (xs (i + 2))) ++ mw am eI eJ S C n va mk ct ps kn (uForget C cx (xs (i + 1)) (xs (i + 2))) (uForget C rd (xs (i + 1)) (xs (i + 2)))) H := hP
      have hD : va_D (fun q : Nat => s.heap.size ≤ q) (xw ax cI cJ cII cJJ S C n va mk ct ps kn (uForget C cx (xs (i + 1)) (xs (i + 2))) ++ mw am eI eJ S C n va mk ct ps kn (uForget C cx (xs (i + 1)) (xs (i + 2))) (uForget C rd (xs (i + 1)) (xs (i + 2)))) := hD
      refine lv_icmp_eq (tgt := 624) hx hb dL_law_327 (by decide) (fun _ => ?_) (fun q => absurd rfl q)
      refine lv_iinc (v := nI (i + 5)) (lv' := [(3, .int (nI (i + 5))), (0, .ref b), (1, .ref (ax 0)), (2, .ref (am 0))]) hx hb dL_law_624 hl (k := 3) rfl (nI_add i 5) (by decide) rfl (fun ls hl => ?_)
      refine lv_goto (tgt := 38) hx hb dL_law_627 (by decide) ?_
      exact ih (i + 5) (by omega) (by omega) n va mk ct ps kn (uForget C cx (xs (i + 1)) (xs (i + 2))) (uForget C rd (xs (i + 1)) (xs (i + 2))) (zG_forget hG _ _) (zR_forget hR _ _) _ _ hP hD hS ls (lv_sub hl [1, 2, 3, 0] rfl)
    ·
      refine lv_tableIn (tgt := 332) hx hb dL_law_52 (by decide) (by decide) rfl (by decide) ?_
      refine lv_aload_n hx hb dL_law_332 rfl (lv_at hl 1 rfl) ?_
      refine lv_aload_n hx hb dL_law_333 rfl (lv_at hl 0 rfl) ?_
      refine lv_iload_n hx hb dL_law_334 rfl (lv_at hl 3 rfl) ?_
      refine lv_iconst (v := nI 1) hx hb dL_law_335 (by decide) ?_
      refine zr_iadd hx hb dL_law_336 ?_
      refine zr_sld hx hb hX hbl hbA hS (i := i + 1) (by omega) (by omega) dL_law_337 ?_
      refine lv_aload_n hx hb dL_law_338 rfl (lv_at hl 0 rfl) ?_
      refine lv_iload_n hx hb dL_law_339 rfl (lv_at hl 3 rfl) ?_
      refine lv_iconst (v := nI 2) hx hb dL_law_340 (by decide) ?_
      refine zr_iadd hx hb dL_law_341 ?_
      refine zr_sld hx hb hX hbl hbA hS (i := i + 2) (by omega) (by omega) dL_law_342 ?_
      refine vp_callSi (W.runV (As := [.int (xs (i + 1)), .int (xs (i + 2))]) (rest := []) ⟨hx, hb, hml, hown, hts⟩ (c_X0_siblings l dC dI ax cI cJ cII cJJ S C n va mk ct ps kn cx hG (xs (i + 1)) (xs (i + 2))) (cwV 2 hts gL_law_X0_siblings rfl rfl rfl (by decide +kernel) ⟨Nat.le_of_ble_eq_true rfl, Nat.le_of_ble_eq_true rfl⟩) ⟨xB_blind, va_recv hKx (zP_l hP) (ci := 0) (q0 := 0) rfl rfl, fun U hU hW => ⟨rfl, xB_at (zP_l hP) hKx hU hW⟩⟩ rfl rfl hl.1 rfl (lv_room (Nat.le_of_ble_eq_true rfl)) dL_law_343 ⟨Nat.le_of_ble_eq_true rfl, Nat.le_of_ble_eq_true rfl⟩) (fun r hq => ?_)
      subst hq
      refine lv_aload_n hx hb dL_law_346 rfl (lv_at hl 2 rfl) ?_
      refine lv_aload_n hx hb dL_law_347 rfl (lv_at hl 0 rfl) ?_
      refine lv_iload_n hx hb dL_law_348 rfl (lv_at hl 3 rfl) ?_
      refine lv_iconst (v := nI 1) hx hb dL_law_349 (by decide) ?_
      refine zr_iadd hx hb dL_law_350 ?_
      refine zr_sld hx hb hX hbl hbA hS (i := i + 1) (by omega) (by omega) dL_law_351 ?_
      refine lv_aload_n hx hb dL_law_352 rfl (lv_at hl 0 rfl) ?_
      refine lv_iload_n hx hb dL_law_353 rfl (lv_at hl 3 rfl) ?_
      refine lv_iconst (v := nI 2) hx hb dL_law_354 (by decide) ?_
      refine zr_iadd hx hb dL_law_355 ?_
      refine zr_sld hx hb hX hbl hbA hS (i := i + 2) (by omega) (by omega) dL_law_356 ?_
      refine vp_callSi (W.runV (As := [.int (xs (i + 1)), .int (xs (i + 2))]) (rest := [.int (aSibs S n ps kn (xs (i + 1)) (xs (i + 2)))]) ⟨hx, hb, hml, hown, hts⟩ (c_X1_siblings l dC dI am eI eJ S C n va mk ct ps kn cx rd hG (xs (i + 1)) (xs (i + 2))) (cwV 2 hts gL_law_X1_siblings rfl rfl rfl (by decide +kernel) ⟨Nat.le_of_ble_eq_true rfl, Nat.le_of_ble_eq_true rfl⟩) ⟨mB_blind, va_recv hKm (zP_r hP) (ci := 1) (q0 := 0) rfl rfl, fun U hU hW => ⟨rfl, mB_at (zP_r hP) hKm hU hW⟩⟩ rfl rfl hl.1 rfl (lv_room (Nat.le_of_ble_eq_true rfl)) dL_law_357 ⟨Nat.le_of_ble_eq_true rfl, Nat.le_of_ble_eq_true rfl⟩) (fun r hq => ?_)
      subst hq
      refine lv_icmp_eq (tgt := 624) hx hb dL_law_360 (by decide) (fun _ => ?_) (fun q => absurd rfl q)
      refine lv_iinc (v := nI (i + 5)) (lv' := [(3, .int (nI (i + 5))), (0, .ref b), (1, .ref (ax 0)), (2, .ref (am 0))]) hx hb dL_law_624 hl (k := 3) rfl (nI_add i 5) (by decide) rfl (fun ls hl => ?_)
      refine lv_goto (tgt := 38) hx hb dL_law_627 (by decide) ?_
      exact ih (i + 5) (by omega) (by omega) n va mk ct ps kn cx rd hG hR _ _ hP hD hS ls (lv_sub hl [1, 2, 3, 0] rfl)
    ·
      refine lv_tableIn (tgt := 365) hx hb dL_law_52 (by decide) (by decide) rfl (by decide) ?_
      refine lv_aload_n hx hb dL_law_365 rfl (lv_at hl 1 rfl) ?_
      refine lv_aload_n hx hb dL_law_366 rfl (lv_at hl 0 rfl) ?_
      refine lv_iload_n hx hb dL_law_367 rfl (lv_at hl 3 rfl) ?_
      refine lv_iconst (v := nI 1) hx hb dL_law_368 (by decide) ?_
      refine zr_iadd hx hb dL_law_369 ?_
      refine zr_sld hx hb hX hbl hbA hS (i := i + 1) (by omega) (by omega) dL_law_370 ?_
      refine lv_aload_n hx hb dL_law_371 rfl (lv_at hl 0 rfl) ?_
      refine lv_iload_n hx hb dL_law_372 rfl (lv_at hl 3 rfl) ?_
      refine lv_iconst (v := nI 2) hx hb dL_law_373 (by decide) ?_
      refine zr_iadd hx hb dL_law_374 ?_
      refine zr_sld hx hb hX hbl hbA hS (i := i + 2) (by omega) (by omega) dL_law_375 ?_
      refine lv_aload_n hx hb dL_law_376 rfl (lv_at hl 0 rfl) ?_
      refine lv_iload_n hx hb dL_law_377 rfl (lv_at hl 3 rfl) ?_
      refine lv_iconst (v := nI 3) hx hb dL_law_378 (by decide) ?_
      refine zr_iadd hx hb dL_law_379 ?_
      refine zr_sld hx hb hX hbl hbA hS (i := i + 3) (by omega) (by omega) dL_law_380 ?_
      refine lv_aload_n hx hb dL_law_381 rfl (lv_at hl 0 rfl) ?_
      refine lv_iload_n hx hb dL_law_382 rfl (lv_at hl 3 rfl) ?_
      refine lv_iconst (v := nI 4) hx hb dL_law_383 (by decide) ?_
      refine zr_iadd hx hb dL_law_384 ?_
      refine zr_sld hx hb hX hbl hbA hS (i := i + 4) (by omega) (by omega) dL_law_385 ?_
      refine vp_callSl (W.runV (As := [.int (xs (i + 1)), .int (xs (i + 2)), .int (xs (i + 3)), .int (xs (i + 4))]) (rest := []) ⟨hx, hb, hml, hown, hts⟩ (c_X0_sibling l dC dI ax cI cJ cII cJJ S C n va mk ct ps kn cx hG (xs (i + 1)) (xs (i + 2)) (xs (i + 3)) (xs (i + 4))) (cwV 4 hts gL_law_X0_sibling rfl rfl rfl (by decide +kernel) ⟨Nat.le_of_ble_eq_true rfl, Nat.le_of_ble_eq_true rfl⟩) ⟨xB_blind, va_recv hKx (zP_l hP) (ci := 0) (q0 := 0) rfl rfl, fun U hU hW => ⟨rfl, xB_at (zP_l hP) hKx hU hW⟩⟩ rfl rfl hl.1 rfl (lv_room (Nat.le_of_ble_eq_true rfl)) dL_law_386 ⟨Nat.le_of_ble_eq_true rfl, Nat.le_of_ble_eq_true rfl⟩) (fun r hq => ?_)
      subst hq
      refine lv_aload_n hx hb dL_law_389 rfl (lv_at hl 2 rfl) ?_
      refine lv_aload_n hx hb dL_law_390 rfl (lv_at hl 0 rfl) ?_
      refine lv_iload_n hx hb dL_law_391 rfl (lv_at hl 3 rfl) ?_
      refine lv_iconst (v := nI 1) hx hb dL_law_392 (by decide) ?_
      refine zr_iadd hx hb dL_law_393 ?_
      refine zr_sld hx hb hX hbl hbA hS (i := i + 1) (by omega) (by omega) dL_law_394 ?_
      refine lv_aload_n hx hb dL_law_395 rfl (lv_at hl 0 rfl) ?_
      refine lv_iload_n hx hb dL_law_396 rfl (lv_at hl 3 rfl) ?_
      refine lv_iconst (v := nI 2) hx hb dL_law_397 (by decide) ?_
      refine zr_iadd hx hb dL_law_398 ?_
      refine zr_sld hx hb hX hbl hbA hS (i := i + 2) (by omega) (by omega) dL_law_399 ?_
      refine lv_aload_n hx hb dL_law_400 rfl (lv_at hl 0 rfl) ?_
      refine lv_iload_n hx hb dL_law_401 rfl (lv_at hl 3 rfl) ?_
      refine lv_iconst (v := nI 3) hx hb dL_law_402 (by decide) ?_
      refine zr_iadd hx hb dL_law_403 ?_
      refine zr_sld hx hb hX hbl hbA hS (i := i + 3) (by omega) (by omega) dL_law_404 ?_
      refine lv_aload_n hx hb dL_law_405 rfl (lv_at hl 0 rfl) ?_
      refine lv_iload_n hx hb dL_law_406 rfl (lv_at hl 3 rfl) ?_
      refine lv_iconst (v := nI 4) hx hb dL_law_407 (by decide) ?_
      refine zr_iadd hx hb dL_law_408 ?_
      refine zr_sld hx hb hX hbl hbA hS (i := i + 4) (by omega) (by omega) dL_law_409 ?_
      refine vp_callSl (W.runV (As := [.int (xs (i + 1)), .int (xs (i + 2)), .int (xs (i + 3)), .int (xs (i + 4))]) (rest := [.long (aSib S n va mk ct ps kn (xs (i + 1)) (xs (i + 2)) (xs (i + 3)) (xs (i + 4)))]) ⟨hx, hb, hml, hown, hts⟩ (c_X1_sibling l dC dI am eI eJ S C n va mk ct ps kn cx rd hG (xs (i + 1)) (xs (i + 2)) (xs (i + 3)) (xs (i + 4))) (cwV 4 hts gL_law_X1_sibling rfl rfl rfl (by decide +kernel) ⟨Nat.le_of_ble_eq_true rfl, Nat.le_of_ble_eq_true rfl⟩) ⟨mB_blind, va_recv hKm (zP_r hP) (ci := 1) (q0 := 0) rfl rfl, fun U hU hW => ⟨rfl, mB_at (zP_r hP) hKm hU hW⟩⟩ rfl rfl hl.1 rfl (lv_room (Nat.le_of_ble_eq_true rfl)) dL_law_410 ⟨Nat.le_of_ble_eq_true rfl, Nat.le_of_ble_eq_true rfl⟩) (fun r hq => ?_)
      subst hq
      refine zr_lsame (tgt := 624) hx hb dL_law_413 dL_law_414 (by decide) ?_
      refine lv_iinc (v := nI (i + 5)) (lv' := [(3, .int (nI (i + 5))), (0, .ref b), (1, .ref (ax 0)), (2, .ref (am 0))]) hx hb dL_law_624 hl (k := 3) rfl (nI_add i 5) (by decide) rfl (fun ls hl => ?_)
      refine lv_goto (tgt := 38) hx hb dL_law_627 (by decide) ?_
      exact ih (i + 5) (by omega) (by omega) n va mk ct ps kn cx rd hG hR _ _ hP hD hS ls (lv_sub hl [1, 2, 3, 0] rfl)
    ·
      refine lv_tableIn (tgt := 419) hx hb dL_law_52 (by decide) (by decide) rfl (by decide) ?_
      refine lv_aload_n hx hb dL_law_419 rfl (lv_at hl 1 rfl) ?_
      refine lv_aload_n hx hb dL_law_420 rfl (lv_at hl 0 rfl) ?_
      refine lv_iload_n hx hb dL_law_421 rfl (lv_at hl 3 rfl) ?_
      refine lv_iconst (v := nI 1) hx hb dL_law_422 (by decide) ?_
      refine zr_iadd hx hb dL_law_423 ?_
      refine zr_sld hx hb hX hbl hbA hS (i := i + 1) (by omega) (by omega) dL_law_424 ?_
      refine lv_aload_n hx hb dL_law_425 rfl (lv_at hl 0 rfl) ?_
      refine lv_iload_n hx hb dL_law_426 rfl (lv_at hl 3 rfl) ?_
      refine lv_iconst (v := nI 2) hx hb dL_law_427 (by decide) ?_
      refine zr_iadd hx hb dL_law_428 ?_
      refine zr_sld hx hb hX hbl hbA hS (i := i + 2) (by omega) (by omega) dL_law_429 ?_
      refine lv_aload_n hx hb dL_law_430 rfl (lv_at hl 0 rfl) ?_
      refine lv_iload_n hx hb dL_law_431 rfl (lv_at hl 3 rfl) ?_
      refine lv_iconst (v := nI 3) hx hb dL_law_432 (by decide) ?_
      refine zr_iadd hx hb dL_law_433 ?_
      refine zr_sld hx hb hX hbl hbA hS (i := i + 3) (by omega) (by omega) dL_law_434 ?_
      refine vp_callSi (W.runV (As := [.int (xs (i + 1)), .int (xs (i + 2)), .int (xs (i + 3))]) (rest := []) ⟨hx, hb, hml, hown, hts⟩ (c_X0_known l dC dI ax cI cJ cII cJJ S C n va mk ct ps kn cx hG (xs (i + 1)) (xs (i + 2)) (xs (i + 3))) (cwV 3 hts gL_law_X0_known rfl rfl rfl (by decide +kernel) ⟨Nat.le_of_ble_eq_true rfl, Nat.le_of_ble_eq_true rfl⟩) ⟨xB_blind, va_recv hKx (zP_l hP) (ci := 0) (q0 := 0) rfl rfl, fun U hU hW => ⟨rfl, xB_at (zP_l hP) hKx hU hW⟩⟩ rfl rfl hl.1 rfl (lv_room (Nat.le_of_ble_eq_true rfl)) dL_law_435 ⟨Nat.le_of_ble_eq_true rfl, Nat.le_of_ble_eq_true rfl⟩) (fun r hq => ?_)
      subst hq
      refine lv_aload_n hx hb dL_law_438 rfl (lv_at hl 2 rfl) ?_
      refine lv_aload_n hx hb dL_law_439 rfl (lv_at hl 0 rfl) ?_
      refine lv_iload_n hx hb dL_law_440 rfl (lv_at hl 3 rfl) ?_
      refine lv_iconst (v := nI 1) hx hb dL_law_441 (by decide) ?_
      refine zr_iadd hx hb dL_law_442 ?_
      refine zr_sld hx hb hX hbl hbA hS (i := i + 1) (by omega) (by omega) dL_law_443 ?_
      refine lv_aload_n hx hb dL_law_444 rfl (lv_at hl 0 rfl) ?_
      refine lv_iload_n hx hb dL_law_445 rfl (lv_at hl 3 rfl) ?_
      refine lv_iconst (v := nI 2) hx hb dL_law_446 (by decide) ?_
      refine zr_iadd hx hb dL_law_447 ?_
      refine zr_sld hx hb hX hbl hbA hS (i := i + 2) (by omega) (by omega) dL_law_448 ?_
      refine lv_aload_n hx hb dL_law_449 rfl (lv_at hl 0 rfl) ?_
      refine lv_iload_n hx hb dL_law_450 rfl (lv_at hl 3 rfl) ?_
      refine lv_iconst (v := nI 3) hx hb dL_law_451 (by decide) ?_
      refine zr_iadd hx hb dL_law_452 ?_
      refine zr_sld hx hb hX hbl hbA hS (i := i + 3) (by omega) (by omega) dL_law_453 ?_
      refine vp_callSi (W.runV (As := [.int (xs (i + 1)), .int (xs (i + 2)), .int (xs (i + 3))]) (rest := [.int (aKnown S n mk ct kn (xs (i + 1)) (xs (i + 2)) (xs (i + 3)))]) ⟨hx, hb, hml, hown, hts⟩ (c_X1_known l dC dI am eI eJ S C n va mk ct ps kn cx rd hG (xs (i + 1)) (xs (i + 2)) (xs (i + 3))) (cwV 3 hts gL_law_X1_known rfl rfl rfl (by decide +kernel) ⟨Nat.le_of_ble_eq_true rfl, Nat.le_of_ble_eq_true rfl⟩) ⟨mB_blind, va_recv hKm (zP_r hP) (ci := 1) (q0 := 0) rfl rfl, fun U hU hW => ⟨rfl, mB_at (zP_r hP) hKm hU hW⟩⟩ rfl rfl hl.1 rfl (lv_room (Nat.le_of_ble_eq_true rfl)) dL_law_454 ⟨Nat.le_of_ble_eq_true rfl, Nat.le_of_ble_eq_true rfl⟩) (fun r hq => ?_)
      subst hq
      refine lv_icmp_eq (tgt := 624) hx hb dL_law_457 (by decide) (fun _ => ?_) (fun q => absurd rfl q)
      refine lv_iinc (v := nI (i + 5)) (lv' := [(3, .int (nI (i + 5))), (0, .ref b), (1, .ref (ax 0)), (2, .ref (am 0))]) hx hb dL_law_624 hl (k := 3) rfl (nI_add i 5) (by decide) rfl (fun ls hl => ?_)
      refine lv_goto (tgt := 38) hx hb dL_law_627 (by decide) ?_
      exact ih (i + 5) (by omega) (by omega) n va mk ct ps kn cx rd hG hR _ _ hP hD hS ls (lv_sub hl [1, 2, 3, 0] rfl)
    ·
      refine lv_tableIn (tgt := 462) hx hb dL_law_52 (by decide) (by decide) rfl (by decide) ?_
      refine lv_aload_n hx hb dL_law_462 rfl (lv_at hl 1 rfl) ?_
      refine lv_aload_n hx hb dL_law_463 rfl (lv_at hl 0 rfl) ?_
      refine lv_iload_n hx hb dL_law_464 rfl (lv_at hl 3 rfl) ?_
      refine lv_iconst (v := nI 1) hx hb dL_law_465 (by decide) ?_
      refine zr_iadd hx hb dL_law_466 ?_
      refine zr_sld hx hb hX hbl hbA hS (i := i + 1) (by omega) (by omega) dL_law_467 ?_
      refine lv_aload_n hx hb dL_law_468 rfl (lv_at hl 0 rfl) ?_
      refine lv_iload_n hx hb dL_law_469 rfl (lv_at hl 3 rfl) ?_
      refine lv_iconst (v := nI 2) hx hb dL_law_470 (by decide) ?_
      refine zr_iadd hx hb dL_law_471 ?_
      refine zr_sld hx hb hX hbl hbA hS (i := i + 2) (by omega) (by omega) dL_law_472 ?_
      refine lv_aload_n hx hb dL_law_473 rfl (lv_at hl 0 rfl) ?_
      refine lv_iload_n hx hb dL_law_474 rfl (lv_at hl 3 rfl) ?_
      refine lv_iconst (v := nI 3) hx hb dL_law_475 (by decide) ?_
      refine zr_iadd hx hb dL_law_476 ?_
      refine zr_sld hx hb hX hbl hbA hS (i := i + 3) (by omega) (by omega) dL_law_477 ?_
      refine vp_callSi (W.runV (As := [.int (xs (i + 1)), .int (xs (i + 2)), .int (xs (i + 3))]) (rest := []) ⟨hx, hb, hml, hown, hts⟩ (c_X0_context l dC dI ax cI cJ cII cJJ S C n va mk ct ps kn cx hG (xs (i + 1)) (xs (i + 2)) (xs (i + 3))) (cwV 3 hts gL_law_X0_context rfl rfl rfl (by decide +kernel) ⟨Nat.le_of_ble_eq_true rfl, Nat.le_of_ble_eq_true rfl⟩) ⟨xB_blind, va_recv hKx (zP_l hP) (ci := 0) (q0 := 0) rfl rfl, fun U hU hW => ⟨rfl, xB_at (zP_l hP) hKx hU hW⟩⟩ rfl rfl hl.1 rfl (lv_room (Nat.le_of_ble_eq_true rfl)) dL_law_478 ⟨Nat.le_of_ble_eq_true rfl, Nat.le_of_ble_eq_true rfl⟩) (fun r hq => ?_)
      subst hq
      refine lv_aload_n hx hb dL_law_481 rfl (lv_at hl 2 rfl) ?_
      refine lv_aload_n hx hb dL_law_482 rfl (lv_at hl 0 rfl) ?_
      refine lv_iload_n hx hb dL_law_483 rfl (lv_at hl 3 rfl) ?_
      refine lv_iconst (v := nI 1) hx hb dL_law_484 (by decide) ?_
      refine zr_iadd hx hb dL_law_485 ?_
      refine zr_sld hx hb hX hbl hbA hS (i := i + 1) (by omega) (by omega) dL_law_486 ?_
      refine lv_aload_n hx hb dL_law_487 rfl (lv_at hl 0 rfl) ?_
      refine lv_iload_n hx hb dL_law_488 rfl (lv_at hl 3 rfl) ?_
      refine lv_iconst (v := nI 2) hx hb dL_law_489 (by decide) ?_
      refine zr_iadd hx hb dL_law_490 ?_
      refine zr_sld hx hb hX hbl hbA hS (i := i + 2) (by omega) (by omega) dL_law_491 ?_
      refine lv_aload_n hx hb dL_law_492 rfl (lv_at hl 0 rfl) ?_
      refine lv_iload_n hx hb dL_law_493 rfl (lv_at hl 3 rfl) ?_
      refine lv_iconst (v := nI 3) hx hb dL_law_494 (by decide) ?_
      refine zr_iadd hx hb dL_law_495 ?_
      refine zr_sld hx hb hX hbl hbA hS (i := i + 3) (by omega) (by omega) dL_law_496 ?_
      refine vp_callSi (W.runV (As := [.int (xs (i + 1)), .int (xs (i + 2)), .int (xs (i + 3))]) (rest := [.int (aCtx S C n mk ct cx (xs (i + 1)) (xs (i + 2)) (xs (i + 3)))]) ⟨hx, hb, hml, hown, hts⟩ (c_X1_context l dC dI am eI eJ S C n va mk ct ps kn cx rd hG (xs (i + 1)) (xs (i + 2)) (xs (i + 3))) (cwV 3 hts gL_law_X1_context rfl rfl rfl (by decide +kernel) ⟨Nat.le_of_ble_eq_true rfl, Nat.le_of_ble_eq_true rfl⟩) ⟨mB_blind, va_recv hKm (zP_r hP) (ci := 1) (q0 := 0) rfl rfl, fun U hU hW => ⟨rfl, mB_at (zP_r hP) hKm hU hW⟩⟩ rfl rfl hl.1 rfl (lv_room (Nat.le_of_ble_eq_true rfl)) dL_law_497 ⟨Nat.le_of_ble_eq_true rfl, Nat.le_of_ble_eq_true rfl⟩) (fun r hq => ?_)
      subst hq
      refine lv_icmp_eq (tgt := 624) hx hb dL_law_500 (by decide) (fun _ => ?_) (fun q => absurd rfl q)
      refine lv_iinc (v := nI (i + 5)) (lv' := [(3, .int (nI (i + 5))), (0, .ref b), (1, .ref (ax 0)), (2, .ref (am 0))]) hx hb dL_law_624 hl (k := 3) rfl (nI_add i 5) (by decide) rfl (fun ls hl => ?_)
      refine lv_goto (tgt := 38) hx hb dL_law_627 (by decide) ?_
      exact ih (i + 5) (by omega) (by omega) n va mk ct ps kn cx rd hG hR _ _ hP hD hS ls (lv_sub hl [1, 2, 3, 0] rfl)
    ·
      refine lv_tableIn (tgt := 505) hx hb dL_law_52 (by decide) (by decide) rfl (by decide) ?_
      refine lv_aload_n hx hb dL_law_505 rfl (lv_at hl 1 rfl) ?_
      refine lv_aload_n hx hb dL_law_506 rfl (lv_at hl 0 rfl) ?_
      refine lv_iload_n hx hb dL_law_507 rfl (lv_at hl 3 rfl) ?_
      refine lv_iconst (v := nI 1) hx hb dL_law_508 (by decide) ?_
      refine zr_iadd hx hb dL_law_509 ?_
      refine zr_sld hx hb hX hbl hbA hS (i := i + 1) (by omega) (by omega) dL_law_510 ?_
      refine lv_aload_n hx hb dL_law_511 rfl (lv_at hl 0 rfl) ?_
      refine lv_iload_n hx hb dL_law_512 rfl (lv_at hl 3 rfl) ?_
      refine lv_iconst (v := nI 2) hx hb dL_law_513 (by decide) ?_
      refine zr_iadd hx hb dL_law_514 ?_
      refine zr_sld hx hb hX hbl hbA hS (i := i + 2) (by omega) (by omega) dL_law_515 ?_
      refine lv_aload_n hx hb dL_law_516 rfl (lv_at hl 0 rfl) ?_
      refine lv_iload_n hx hb dL_law_517 rfl (lv_at hl 3 rfl) ?_
      refine lv_iconst (v := nI 3) hx hb dL_law_518 (by decide) ?_
      refine zr_iadd hx hb dL_law_519 ?_
      refine zr_sld hx hb hX hbl hbA hS (i := i + 3) (by omega) (by omega) dL_law_520 ?_
      refine vp_callSi (W.runV (As := [.int (xs (i + 1)), .int (xs (i + 2)), .int (xs (i + 3))]) (rest := []) ⟨hx, hb, hml, hown, hts⟩ (c_X0_sees l dC dI ax cI cJ cII cJJ S C n va mk ct ps kn cx hG (xs (i + 1)) (xs (i + 2)) (xs (i + 3))) (cwV 3 hts gL_law_X0_sees rfl rfl rfl (by decide +kernel) ⟨Nat.le_of_ble_eq_true rfl, Nat.le_of_ble_eq_true rfl⟩) ⟨xB_blind, va_recv hKx (zP_l hP) (ci := 0) (q0 := 0) rfl rfl, fun U hU hW => ⟨rfl, xB_at (zP_l hP) hKx hU hW⟩⟩ rfl rfl hl.1 rfl (lv_room (Nat.le_of_ble_eq_true rfl)) dL_law_521 ⟨Nat.le_of_ble_eq_true rfl, Nat.le_of_ble_eq_true rfl⟩) (fun r hq => ?_)
      subst hq
      refine lv_aload_n hx hb dL_law_524 rfl (lv_at hl 2 rfl) ?_
      refine lv_aload_n hx hb dL_law_525 rfl (lv_at hl 0 rfl) ?_
      refine lv_iload_n hx hb dL_law_526 rfl (lv_at hl 3 rfl) ?_
      refine lv_iconst (v := nI 1) hx hb dL_law_527 (by decide) ?_
      refine zr_iadd hx hb dL_law_528 ?_
      refine zr_sld hx hb hX hbl hbA hS (i := i + 1) (by omega) (by omega) dL_law_529 ?_
      refine lv_aload_n hx hb dL_law_530 rfl (lv_at hl 0 rfl) ?_
      refine lv_iload_n hx hb dL_law_531 rfl (lv_at hl 3 rfl) ?_
      refine lv_iconst (v := nI 2) hx hb dL_law_532 (by decide) ?_
      refine zr_iadd hx hb dL_law_533 ?_
      refine zr_sld hx hb hX hbl hbA hS (i := i + 2) (by omega) (by omega) dL_law_534 ?_
      refine lv_aload_n hx hb dL_law_535 rfl (lv_at hl 0 rfl) ?_
      refine lv_iload_n hx hb dL_law_536 rfl (lv_at hl 3 rfl) ?_
      refine lv_iconst (v := nI 3) hx hb dL_law_537 (by decide) ?_
      refine zr_iadd hx hb dL_law_538 ?_
      refine zr_sld hx hb hX hbl hbA hS (i := i + 3) (by omega) (by omega) dL_law_539 ?_
      refine vp_callSi (W.runV (As := [.int (xs (i + 1)), .int (xs (i + 2)), .int (xs (i + 3))]) (rest := [.int (aSees C n cx (xs (i + 1)) (xs (i + 2)) (xs (i + 3)))]) ⟨hx, hb, hml, hown, hts⟩ (c_X1_sees l dC dI am eI eJ S C n va mk ct ps kn cx rd hG (xs (i + 1)) (xs (i + 2)) (xs (i + 3))) (cwV 3 hts gL_law_X1_sees rfl rfl rfl (by decide +kernel) ⟨Nat.le_of_ble_eq_true rfl, Nat.le_of_ble_eq_true rfl⟩) ⟨mB_blind, va_recv hKm (zP_r hP) (ci := 1) (q0 := 0) rfl rfl, fun U hU hW => ⟨rfl, mB_at (zP_r hP) hKm hU hW⟩⟩ rfl rfl hl.1 rfl (lv_room (Nat.le_of_ble_eq_true rfl)) dL_law_540 ⟨Nat.le_of_ble_eq_true rfl, Nat.le_of_ble_eq_true rfl⟩) (fun r hq => ?_)
      subst hq
      refine lv_icmp_eq (tgt := 624) hx hb dL_law_543 (by decide) (fun _ => ?_) (fun q => absurd rfl q)
      refine lv_iinc (v := nI (i + 5)) (lv' := [(3, .int (nI (i + 5))), (0, .ref b), (1, .ref (ax 0)), (2, .ref (am 0))]) hx hb dL_law_624 hl (k := 3) rfl (nI_add i 5) (by decide) rfl (fun ls hl => ?_)
      refine lv_goto (tgt := 38) hx hb dL_law_627 (by decide) ?_
      exact ih (i + 5) (by omega) (by omega) n va mk ct ps kn cx rd hG hR _ _ hP hD hS ls (lv_sub hl [1, 2, 3, 0] rfl)
    ·
      refine lv_tableIn (tgt := 548) hx hb dL_law_52 (by decide) (by decide) rfl (by decide) ?_
      refine lv_aload_n hx hb dL_law_548 rfl (lv_at hl 1 rfl) ?_
      refine lv_aload_n hx hb dL_law_549 rfl (lv_at hl 0 rfl) ?_
      refine lv_iload_n hx hb dL_law_550 rfl (lv_at hl 3 rfl) ?_
      refine lv_iconst (v := nI 1) hx hb dL_law_551 (by decide) ?_
      refine zr_iadd hx hb dL_law_552 ?_
      refine zr_sld hx hb hX hbl hbA hS (i := i + 1) (by omega) (by omega) dL_law_553 ?_
      refine lv_aload_n hx hb dL_law_554 rfl (lv_at hl 0 rfl) ?_
      refine lv_iload_n hx hb dL_law_555 rfl (lv_at hl 3 rfl) ?_
      refine lv_iconst (v := nI 2) hx hb dL_law_556 (by decide) ?_
      refine zr_iadd hx hb dL_law_557 ?_
      refine zr_sld hx hb hX hbl hbA hS (i := i + 2) (by omega) (by omega) dL_law_558 ?_
      refine lv_aload_n hx hb dL_law_559 rfl (lv_at hl 0 rfl) ?_
      refine lv_iload_n hx hb dL_law_560 rfl (lv_at hl 3 rfl) ?_
      refine lv_iconst (v := nI 3) hx hb dL_law_561 (by decide) ?_
      refine zr_iadd hx hb dL_law_562 ?_
      refine zr_sld hx hb hX hbl hbA hS (i := i + 3) (by omega) (by omega) dL_law_563 ?_
      refine vp_callSi (W.runV (As := [.int (xs (i + 1)), .int (xs (i + 2)), .int (xs (i + 3))]) (rest := []) ⟨hx, hb, hml, hown, hts⟩ (c_X0_same l dC dI ax cI cJ cII cJJ S C n va mk ct ps kn cx hG (xs (i + 1)) (xs (i + 2)) (xs (i + 3))) (cwV 3 hts gL_law_X0_same rfl rfl rfl (by decide +kernel) ⟨Nat.le_of_ble_eq_true rfl, Nat.le_of_ble_eq_true rfl⟩) ⟨xB_blind, va_recv hKx (zP_l hP) (ci := 0) (q0 := 0) rfl rfl, fun U hU hW => ⟨rfl, xB_at (zP_l hP) hKx hU hW⟩⟩ rfl rfl hl.1 rfl (lv_room (Nat.le_of_ble_eq_true rfl)) dL_law_564 ⟨Nat.le_of_ble_eq_true rfl, Nat.le_of_ble_eq_true rfl⟩) (fun r hq => ?_)
      subst hq
      refine lv_aload_n hx hb dL_law_567 rfl (lv_at hl 2 rfl) ?_
      refine lv_aload_n hx hb dL_law_568 rfl (lv_at hl 0 rfl) ?_
      refine lv_iload_n hx hb dL_law_569 rfl (lv_at hl 3 rfl) ?_
      refine lv_iconst (v := nI 1) hx hb dL_law_570 (by decide) ?_
      refine zr_iadd hx hb dL_law_571 ?_
      refine zr_sld hx hb hX hbl hbA hS (i := i + 1) (by omega) (by omega) dL_law_572 ?_
      refine lv_aload_n hx hb dL_law_573 rfl (lv_at hl 0 rfl) ?_
      refine lv_iload_n hx hb dL_law_574 rfl (lv_at hl 3 rfl) ?_
      refine lv_iconst (v := nI 2) hx hb dL_law_575 (by decide) ?_
      refine zr_iadd hx hb dL_law_576 ?_
      refine zr_sld hx hb hX hbl hbA hS (i := i + 2) (by omega) (by omega) dL_law_577 ?_
      refine lv_aload_n hx hb dL_law_578 rfl (lv_at hl 0 rfl) ?_
      refine lv_iload_n hx hb dL_law_579 rfl (lv_at hl 3 rfl) ?_
      refine lv_iconst (v := nI 3) hx hb dL_law_580 (by decide) ?_
      refine zr_iadd hx hb dL_law_581 ?_
      refine zr_sld hx hb hX hbl hbA hS (i := i + 3) (by omega) (by omega) dL_law_582 ?_
      refine vp_callSi (W.runV (As := [.int (xs (i + 1)), .int (xs (i + 2)), .int (xs (i + 3))]) (rest := [.int (aSame S kn (xs (i + 1)) (xs (i + 2)) (xs (i + 3)))]) ⟨hx, hb, hml, hown, hts⟩ (c_X1_same l dC dI am eI eJ S C n va mk ct ps kn cx rd hG (xs (i + 1)) (xs (i + 2)) (xs (i + 3))) (cwV 3 hts gL_law_X1_same rfl rfl rfl (by decide +kernel) ⟨Nat.le_of_ble_eq_true rfl, Nat.le_of_ble_eq_true rfl⟩) ⟨mB_blind, va_recv hKm (zP_r hP) (ci := 1) (q0 := 0) rfl rfl, fun U hU hW => ⟨rfl, mB_at (zP_r hP) hKm hU hW⟩⟩ rfl rfl hl.1 rfl (lv_room (Nat.le_of_ble_eq_true rfl)) dL_law_583 ⟨Nat.le_of_ble_eq_true rfl, Nat.le_of_ble_eq_true rfl⟩) (fun r hq => ?_)
      subst hq
      refine lv_icmp_eq (tgt := 624) hx hb dL_law_586 (by decide) (fun _ => ?_) (fun q => absurd rfl q)
      refine lv_iinc (v := nI (i + 5)) (lv' := [(3, .int (nI (i + 5))), (0, .ref b), (1, .ref (ax 0)), (2, .ref (am 0))]) hx hb dL_law_624 hl (k := 3) rfl (nI_add i 5) (by decide) rfl (fun ls hl => ?_)
      refine lv_goto (tgt := 38) hx hb dL_law_627 (by decide) ?_
      exact ih (i + 5) (by omega) (by omega) n va mk ct ps kn cx rd hG hR _ _ hP hD hS ls (lv_sub hl [1, 2, 3, 0] rfl)
    ·
      refine lv_tableIn (tgt := 591) hx hb dL_law_52 (by decide) (by decide) rfl (by decide) ?_
      refine lv_aload_n hx hb dL_law_591 rfl (lv_at hl 1 rfl) ?_
      refine lv_aload_n hx hb dL_law_592 rfl (lv_at hl 0 rfl) ?_
      refine lv_iload_n hx hb dL_law_593 rfl (lv_at hl 3 rfl) ?_
      refine lv_iconst (v := nI 1) hx hb dL_law_594 (by decide) ?_
      refine zr_iadd hx hb dL_law_595 ?_
      refine zr_sld hx hb hX hbl hbA hS (i := i + 1) (by omega) (by omega) dL_law_596 ?_
      refine lv_aload_n hx hb dL_law_597 rfl (lv_at hl 0 rfl) ?_
      refine lv_iload_n hx hb dL_law_598 rfl (lv_at hl 3 rfl) ?_
      refine lv_iconst (v := nI 2) hx hb dL_law_599 (by decide) ?_
      refine zr_iadd hx hb dL_law_600 ?_
      refine zr_sld hx hb hX hbl hbA hS (i := i + 2) (by omega) (by omega) dL_law_601 ?_
      refine vp_callSi (W.runV (As := [.int (xs (i + 1)), .int (xs (i + 2))]) (rest := []) ⟨hx, hb, hml, hown, hts⟩ (c_X0_weight l dC dI ax cI cJ cII cJJ S C n va mk ct ps kn cx hG (xs (i + 1)) (xs (i + 2))) (cwV 2 hts gL_law_X0_weight rfl rfl rfl (by decide +kernel) ⟨Nat.le_of_ble_eq_true rfl, Nat.le_of_ble_eq_true rfl⟩) ⟨xB_blind, va_recv hKx (zP_l hP) (ci := 0) (q0 := 0) rfl rfl, fun U hU hW => ⟨rfl, xB_at (zP_l hP) hKx hU hW⟩⟩ rfl rfl hl.1 rfl (lv_room (Nat.le_of_ble_eq_true rfl)) dL_law_602 ⟨Nat.le_of_ble_eq_true rfl, Nat.le_of_ble_eq_true rfl⟩) (fun r hq => ?_)
      subst hq
      refine lv_aload_n hx hb dL_law_605 rfl (lv_at hl 2 rfl) ?_
      refine lv_aload_n hx hb dL_law_606 rfl (lv_at hl 0 rfl) ?_
      refine lv_iload_n hx hb dL_law_607 rfl (lv_at hl 3 rfl) ?_
      refine lv_iconst (v := nI 1) hx hb dL_law_608 (by decide) ?_
      refine zr_iadd hx hb dL_law_609 ?_
      refine zr_sld hx hb hX hbl hbA hS (i := i + 1) (by omega) (by omega) dL_law_610 ?_
      refine lv_aload_n hx hb dL_law_611 rfl (lv_at hl 0 rfl) ?_
      refine lv_iload_n hx hb dL_law_612 rfl (lv_at hl 3 rfl) ?_
      refine lv_iconst (v := nI 2) hx hb dL_law_613 (by decide) ?_
      refine zr_iadd hx hb dL_law_614 ?_
      refine zr_sld hx hb hX hbl hbA hS (i := i + 2) (by omega) (by omega) dL_law_615 ?_
      refine vp_callSi (W.runV (As := [.int (xs (i + 1)), .int (xs (i + 2))]) (rest := [.int (aWeight S n mk ct ps kn (xs (i + 1)) (xs (i + 2)))]) ⟨hx, hb, hml, hown, hts⟩ (c_X1_weight l dC dI am eI eJ S C n va mk ct ps kn cx rd hG (xs (i + 1)) (xs (i + 2))) (cwV 2 hts gL_law_X1_weight rfl rfl rfl (by decide +kernel) ⟨Nat.le_of_ble_eq_true rfl, Nat.le_of_ble_eq_true rfl⟩) ⟨mB_blind, va_recv hKm (zP_r hP) (ci := 1) (q0 := 0) rfl rfl, fun U hU hW => ⟨rfl, mB_at (zP_r hP) hKm hU hW⟩⟩ rfl rfl hl.1 rfl (lv_room (Nat.le_of_ble_eq_true rfl)) dL_law_616 ⟨Nat.le_of_ble_eq_true rfl, Nat.le_of_ble_eq_true rfl⟩) (fun r hq => ?_)
      subst hq
      refine lv_icmp_eq (tgt := 624) hx hb dL_law_619 (by decide) (fun _ => ?_) (fun q => absurd rfl q)
      refine lv_iinc (v := nI (i + 5)) (lv' := [(3, .int (nI (i + 5))), (0, .ref b), (1, .ref (ax 0)), (2, .ref (am 0))]) hx hb dL_law_624 hl (k := 3) rfl (nI_add i 5) (by decide) rfl (fun ls hl => ?_)
      refine lv_goto (tgt := 38) hx hb dL_law_627 (by decide) ?_
      exact ih (i + 5) (by omega) (by omega) n va mk ct ps kn cx rd hG hR _ _ hP hD hS ls (lv_sub hl [1, 2, 3, 0] rfl)
    ·
      refine lv_tableOut (tgt := 624) hx hb dL_law_52 (Or.inr (by rw [nI_toInt (by omega)]; omega)) (by decide) ?_
      refine lv_iinc (v := nI (i + 5)) (lv' := [(3, .int (nI (i + 5))), (0, .ref b), (1, .ref (ax 0)), (2, .ref (am 0))]) hx hb dL_law_624 hl (k := 3) rfl (nI_add i 5) (by decide) rfl (fun ls hl => ?_)
      refine lv_goto (tgt := 38) hx hb dL_law_627 (by decide) ?_
      exact ih (i + 5) (by omega) (by omega) n va mk ct ps kn cx rd hG hR _ _ hP hD hS ls (lv_sub hl [1, 2, 3, 0] rfl)
end
section
set_option maxHeartbeats 4000000 in
set_option maxRecDepth 100000 in
/-- the reference, new -/
theorem c_X1_init (l : Launch) (dC : Nat → ClassId) (dI : Nat → Nat → Nat) (h0 : Nat) (sz : Nat) (x1 x2 : Int32) : Met l yX1_init wsX1_init ({ frames := 1, cells := 8, slots := 519, locals := 12 }) (va_Pc [.ref h0, .int x1, .int x2] (fun U => U.heap.size = sz ∧ va_P (dC, dI) vwCl [(h0, .inr (1, [.int 0, .int 0, .null, .null, .null, .null, .null, .null, .null, .null]))] U.heap ∧ va_K (dC, dI) vwCl [] U ∧ va_D (fun _ => True) [(h0, .inr (1, [.int 0, .int 0, .null, .null, .null, .null, .null, .null, .null, .null]))])) (va_Qv (fun _ : Unit => True) (fun _ t => ∃ (ad : Nat → Nat) (cI cJ : ClassId), ad 0 = h0 ∧ mE (va_A [(h0, .inr (1, [.int 0, .int 0, .null, .null, .null, .null, .null, .null, .null, .null]))] sz) dC dI ad cI cJ (zP x1) (zP x2) (fun _ => 0) (fun _ _ => 0) (fun _ _ => 0) (fun _ _ => 0) (fun _ _ => 0) (fun _ _ => 0) (fun _ _ => 0) (fun _ _ => 0) t) (va_A [(h0, .inr (1, [.int 0, .int 0, .null, .null, .null, .null, .null, .null, .null, .null]))] sz)) 8 519 (va_A [(h0, .inr (1, [.int 0, .int 0, .null, .null, .null, .null, .null, .null, .null, .null]))] sz) := by
  refine Met.ofW (cc := cX1_init) (maxL := 3) (ret := none) (by decide) rfl ?_
  intro p e s m args below meth c s₁ B hml hv
  obtain ⟨rfl, hsz, hP, hK0, hD0⟩ := hv
  have hx := B.exec
  have hb := B.bytes
  have hr := B.returns
  have hts := atoms_spec (ws := wsX1_init) B.pre
  have hown : s.vm.findClass RX1 = some m.cls := findClass_of_methodNamed B.named
  have hlocks := B.notSynchronized
  have hin : meth.name = "<init>" := (name_of_methodNamed B.named B.method).1
  have hin0 : ∀ w ∈ wsX10, w ∈ wsX1_init := fun _ h => List.mem_cons_of_mem _ (List.mem_append_right _ h)
  obtain ⟨cI, cJ, hK⟩ := zrc_of hK0 (hts (.arrayClass .int) (by decide +kernel)) (hts (.arrayClass .long) (by decide +kernel))
  subst hsz
  have hD := hD0.self (sz := s.heap.size)
  generalize hAe : va_A [(h0, .inr (1, [.int 0, .int 0, .null, .null, .null, .null, .null, .null, .null, .null]))] s.heap.size = A at hD ⊢
  have hA : ∀ q : Nat, s.heap.size ≤ q → A q := fun q h => by rw [← hAe]; exact Or.inr h
  have hS : va_S A s.heap s.heap [] := va_S.rf
  have hP : va_P (dC, dI) vwCl [(h0, .inr (1, [.int 0, .int 0, .null, .null, .null, .null, .null, .null, .null, .null]))] s.heap := hP
  have hl := lv_entry ([.ref h0, .int x1, .int x2]) (n := 3) (Nat.le_of_ble_eq_true rfl)
  rw [lg_entry_eq]
  generalize (lg_sl ([.ref h0, .int x1, .int x2]) ++ List.replicate (3 - (lg_sl ([.ref h0, .int x1, .int x2])).length) Slot.unset).toArray = ls at hl ⊢
  have hl : lv_has ls 3 [(0, .ref h0), (1, .int x1), (2, .int x2)] := hl
  refine lv_aload_n hx hb dX1_init_0 rfl (lv_at hl 0 rfl) ?_
  refine W.objInit hx hb hown (hts (.methodLink RX1 1 objectInit) (by decide +kernel)) (hts (.instanceMethod objectInit) (by decide +kernel)) (hts (.code objectInit ⟨#[0xb1]⟩ 1 none) (by decide +kernel)) rfl (by rw [hml]; exact hl.1) rfl dX1_init_1 (Nat.le_of_ble_eq_true rfl) (Nat.le_of_ble_eq_true rfl) ?_
  refine W.eq (g2 := F0 m 4 ls []) rfl ?_
  refine lv_aload_n hx hb dX1_init_4 rfl (lv_at hl 0 rfl) ?_
  refine lv_iconst (v := nI 3) hx hb dX1_init_5 (by decide) ?_
  refine va_newa (atype := .int) (ty := .int) (a0 := (3, .inl (fun _ => 0))) (N' := 3) hx hb (hts (.arrayClass .int) (by decide +kernel)) rfl hK hP hD hS hA (fun _ => rfl) (by decide) (by decide) (Nat.le_of_ble_eq_true rfl) (Nat.le_of_ble_eq_true rfl) (Nat.le_of_ble_eq_true rfl) dX1_init_6 (fun q1 cA H hK9 hP hD hS => ?_)
  have e9 := (zK_i hK9).symm
  subst e9
  have hP : va_P (dC, dI) vwCl [(h0, .inr (1, [.int 0, .int 0, .null, .null, .null, .null, .null, .null, .null, .null])), (q1, .inl (cI, 3, .inl (fun _ => 0)))] H := hP
  have hD : va_D A [(h0, .inr (1, [.int 0, .int 0, .null, .null, .null, .null, .null, .null, .null, .null])), (q1, .inl (cI, 3, .inl (fun _ => 0)))] := hD
  refine W.widen (k := 1) (n := 3) (by omega) (by omega) ?_
  refine va_putF (D := (dC, dI)) (ci := 1) (v := .ref q1) (ty := .array .int) (C := RX1) (T := TX1) (N := 10) hx hb hts hin0 tyX1 tyX1_ok nmX1 hown hK hP hD hS 0 rfl rfl 2 (by decide) (hts (.fieldLink RX1 7 "DottedSiblingsModel" "counts" "[I") (by decide +kernel)) (fun _ h9 => h9) rfl hin rfl (by decide +kernel) rfl rfl (Nat.le_of_ble_eq_true rfl) dX1_init_8 (fun H locs hP hD hS => ?_)
  have hP : va_P (dC, dI) vwCl [(h0, .inr (1, [.int 0, .int 0, .ref q1, .null, .null, .null, .null, .null, .null, .null])), (q1, .inl (cI, 3, .inl (fun _ => 0)))] H := hP
  have hD : va_D A [(h0, .inr (1, [.int 0, .int 0, .ref q1, .null, .null, .null, .null, .null, .null, .null])), (q1, .inl (cI, 3, .inl (fun _ => 0)))] := hD
  refine lv_aload_n hx hb dX1_init_11 rfl (lv_at hl 0 rfl) ?_
  refine lv_bipush (v := nI 120) hx hb dX1_init_12 (by decide) ?_
  refine va_newa (atype := .int) (ty := .int) (a0 := (120, .inl (fun _ => 0))) (N' := 120) hx hb (hts (.arrayClass .int) (by decide +kernel)) rfl hK hP hD hS hA (fun _ => rfl) (by decide) (by decide) (Nat.le_of_ble_eq_true rfl) (Nat.le_of_ble_eq_true rfl) (Nat.le_of_ble_eq_true rfl) dX1_init_14 (fun q2 cA H hK9 hP hD hS => ?_)
  have e9 := (zK_i hK9).symm
  subst e9
  have hP : va_P (dC, dI) vwCl [(h0, .inr (1, [.int 0, .int 0, .ref q1, .null, .null, .null, .null, .null, .null, .null])), (q1, .inl (cI, 3, .inl (fun _ => 0))), (q2, .inl (cI, 120, .inl (fun _ => 0)))] H := hP
  have hD : va_D A [(h0, .inr (1, [.int 0, .int 0, .ref q1, .null, .null, .null, .null, .null, .null, .null])), (q1, .inl (cI, 3, .inl (fun _ => 0))), (q2, .inl (cI, 120, .inl (fun _ => 0)))] := hD
  refine W.widen (k := 2) (n := 123) (by omega) (by omega) ?_
  refine va_putF (D := (dC, dI)) (ci := 1) (v := .ref q2) (ty := .array .int) (C := RX1) (T := TX1) (N := 10) hx hb hts hin0 tyX1 tyX1_ok nmX1 hown hK hP hD hS 0 rfl rfl 3 (by decide) (hts (.fieldLink RX1 13 "DottedSiblingsModel" "values" "[I") (by decide +kernel)) (fun _ h9 => h9) rfl hin rfl (by decide +kernel) rfl rfl (Nat.le_of_ble_eq_true rfl) dX1_init_16 (fun H locs hP hD hS => ?_)
  have hP : va_P (dC, dI) vwCl [(h0, .inr (1, [.int 0, .int 0, .ref q1, .ref q2, .null, .null, .null, .null, .null, .null])), (q1, .inl (cI, 3, .inl (fun _ => 0))), (q2, .inl (cI, 120, .inl (fun _ => 0)))] H := hP
  have hD : va_D A [(h0, .inr (1, [.int 0, .int 0, .ref q1, .ref q2, .null, .null, .null, .null, .null, .null])), (q1, .inl (cI, 3, .inl (fun _ => 0))), (q2, .inl (cI, 120, .inl (fun _ => 0)))] := hD
  refine lv_aload_n hx hb dX1_init_19 rfl (lv_at hl 0 rfl) ?_
  refine lv_bipush (v := nI 120) hx hb dX1_init_20 (by decide) ?_
  refine va_newa (atype := .int) (ty := .int) (a0 := (120, .inl (fun _ => 0))) (N' := 120) hx hb (hts (.arrayClass .int) (by decide +kernel)) rfl hK hP hD hS hA (fun _ => rfl) (by decide) (by decide) (Nat.le_of_ble_eq_true rfl) (Nat.le_of_ble_eq_true rfl) (Nat.le_of_ble_eq_true rfl) dX1_init_22 (fun q3 cA H hK9 hP hD hS => ?_)
  have e9 := (zK_i hK9).symm
  subst e9
  have hP : va_P (dC, dI) vwCl [(h0, .inr (1, [.int 0, .int 0, .ref q1, .ref q2, .null, .null, .null, .null, .null, .null])), (q1, .inl (cI, 3, .inl (fun _ => 0))), (q2, .inl (cI, 120, .inl (fun _ => 0))), (q3, .inl (cI, 120, .inl (fun _ => 0)))] H := hP
  have hD : va_D A [(h0, .inr (1, [.int 0, .int 0, .ref q1, .ref q2, .null, .null, .null, .null, .null, .null])), (q1, .inl (cI, 3, .inl (fun _ => 0))), (q2, .inl (cI, 120, .inl (fun _ => 0))), (q3, .inl (cI, 120, .inl (fun _ => 0)))] := hD
  refine W.widen (k := 3) (n := 243) (by omega) (by omega) ?_
  refine va_putF (D := (dC, dI)) (ci := 1) (v := .ref q3) (ty := .array .int) (C := RX1) (T := TX1) (N := 10) hx hb hts hin0 tyX1 tyX1_ok nmX1 hown hK hP hD hS 0 rfl rfl 4 (by decide) (hts (.fieldLink RX1 16 "DottedSiblingsModel" "made" "[I") (by decide +kernel)) (fun _ h9 => h9) rfl hin rfl (by decide +kernel) rfl rfl (Nat.le_of_ble_eq_true rfl) dX1_init_24 (fun H locs hP hD hS => ?_)
  have hP : va_P (dC, dI) vwCl [(h0, .inr (1, [.int 0, .int 0, .ref q1, .ref q2, .ref q3, .null, .null, .null, .null, .null])), (q1, .inl (cI, 3, .inl (fun _ => 0))), (q2, .inl (cI, 120, .inl (fun _ => 0))), (q3, .inl (cI, 120, .inl (fun _ => 0)))] H := hP
  have hD : va_D A [(h0, .inr (1, [.int 0, .int 0, .ref q1, .ref q2, .ref q3, .null, .null, .null, .null, .null])), (q1, .inl (cI, 3, .inl (fun _ => 0))), (q2, .inl (cI, 120, .inl (fun _ => 0))), (q3, .inl (cI, 120, .inl (fun _ => 0)))] := hD
  refine lv_aload_n hx hb dX1_init_27 rfl (lv_at hl 0 rfl) ?_
  refine lv_bipush (v := nI 120) hx hb dX1_init_28 (by decide) ?_
  refine va_newa (atype := .int) (ty := .int) (a0 := (120, .inl (fun _ => 0))) (N' := 120) hx hb (hts (.arrayClass .int) (by decide +kernel)) rfl hK hP hD hS hA (fun _ => rfl) (by decide) (by decide) (Nat.le_of_ble_eq_true rfl) (Nat.le_of_ble_eq_true rfl) (Nat.le_of_ble_eq_true rfl) dX1_init_30 (fun q4 cA H hK9 hP hD hS => ?_)
  have e9 := (zK_i hK9).symm
  subst e9
  have hP : va_P (dC, dI) vwCl [(h0, .inr (1, [.int 0, .int 0, .ref q1, .ref q2, .ref q3, .null, .null, .null, .null, .null])), (q1, .inl (cI, 3, .inl (fun _ => 0))), (q2, .inl (cI, 120, .inl (fun _ => 0))), (q3, .inl (cI, 120, .inl (fun _ => 0))), (q4, .inl (cI, 120, .inl (fun _ => 0)))] H := hP
  have hD : va_D A [(h0, .inr (1, [.int 0, .int 0, .ref q1, .ref q2, .ref q3, .null, .null, .null, .null, .null])), (q1, .inl (cI, 3, .inl (fun _ => 0))), (q2, .inl (cI, 120, .inl (fun _ => 0))), (q3, .inl (cI, 120, .inl (fun _ => 0))), (q4, .inl (cI, 120, .inl (fun _ => 0)))] := hD
  refine W.widen (k := 4) (n := 363) (by omega) (by omega) ?_
  refine va_putF (D := (dC, dI)) (ci := 1) (v := .ref q4) (ty := .array .int) (C := RX1) (T := TX1) (N := 10) hx hb hts hin0 tyX1 tyX1_ok nmX1 hown hK hP hD hS 0 rfl rfl 5 (by decide) (hts (.fieldLink RX1 19 "DottedSiblingsModel" "counters" "[I") (by decide +kernel)) (fun _ h9 => h9) rfl hin rfl (by decide +kernel) rfl rfl (Nat.le_of_ble_eq_true rfl) dX1_init_32 (fun H locs hP hD hS => ?_)
  have hP : va_P (dC, dI) vwCl [(h0, .inr (1, [.int 0, .int 0, .ref q1, .ref q2, .ref q3, .ref q4, .null, .null, .null, .null])), (q1, .inl (cI, 3, .inl (fun _ => 0))), (q2, .inl (cI, 120, .inl (fun _ => 0))), (q3, .inl (cI, 120, .inl (fun _ => 0))), (q4, .inl (cI, 120, .inl (fun _ => 0)))] H := hP
  have hD : va_D A [(h0, .inr (1, [.int 0, .int 0, .ref q1, .ref q2, .ref q3, .ref q4, .null, .null, .null, .null])), (q1, .inl (cI, 3, .inl (fun _ => 0))), (q2, .inl (cI, 120, .inl (fun _ => 0))), (q3, .inl (cI, 120, .inl (fun _ => 0))), (q4, .inl (cI, 120, .inl (fun _ => 0)))] := hD
  refine lv_aload_n hx hb dX1_init_35 rfl (lv_at hl 0 rfl) ?_
  refine lv_bipush (v := nI 120) hx hb dX1_init_36 (by decide) ?_
  refine va_newa (atype := .long) (ty := .long) (a0 := (120, .inr (.inl (fun _ => 0)))) (N' := 120) hx hb (hts (.arrayClass .long) (by decide +kernel)) rfl hK hP hD hS hA (fun _ => rfl) (by decide) (by decide) (Nat.le_of_ble_eq_true rfl) (Nat.le_of_ble_eq_true rfl) (Nat.le_of_ble_eq_true rfl) dX1_init_38 (fun q5 cA H hK9 hP hD hS => ?_)
  have e9 := (zK_l hK9).symm
  subst e9
  have hP : va_P (dC, dI) vwCl [(h0, .inr (1, [.int 0, .int 0, .ref q1, .ref q2, .ref q3, .ref q4, .null, .null, .null, .null])), (q1, .inl (cI, 3, .inl (fun _ => 0))), (q2, .inl (cI, 120, .inl (fun _ => 0))), (q3, .inl (cI, 120, .inl (fun _ => 0))), (q4, .inl (cI, 120, .inl (fun _ => 0))), (q5, .inl (cJ, 120, .inr (.inl (fun _ => 0))))] H := hP
  have hD : va_D A [(h0, .inr (1, [.int 0, .int 0, .ref q1, .ref q2, .ref q3, .ref q4, .null, .null, .null, .null])), (q1, .inl (cI, 3, .inl (fun _ => 0))), (q2, .inl (cI, 120, .inl (fun _ => 0))), (q3, .inl (cI, 120, .inl (fun _ => 0))), (q4, .inl (cI, 120, .inl (fun _ => 0))), (q5, .inl (cJ, 120, .inr (.inl (fun _ => 0))))] := hD
  refine W.widen (k := 5) (n := 483) (by omega) (by omega) ?_
  refine va_putF (D := (dC, dI)) (ci := 1) (v := .ref q5) (ty := .array .long) (C := RX1) (T := TX1) (N := 10) hx hb hts hin0 tyX1 tyX1_ok nmX1 hown hK hP hD hS 0 rfl rfl 6 (by decide) (hts (.fieldLink RX1 22 "DottedSiblingsModel" "pasts" "[J") (by decide +kernel)) (fun _ h9 => h9) rfl hin rfl (by decide +kernel) rfl rfl (Nat.le_of_ble_eq_true rfl) dX1_init_40 (fun H locs hP hD hS => ?_)
  have hP : va_P (dC, dI) vwCl [(h0, .inr (1, [.int 0, .int 0, .ref q1, .ref q2, .ref q3, .ref q4, .ref q5, .null, .null, .null])), (q1, .inl (cI, 3, .inl (fun _ => 0))), (q2, .inl (cI, 120, .inl (fun _ => 0))), (q3, .inl (cI, 120, .inl (fun _ => 0))), (q4, .inl (cI, 120, .inl (fun _ => 0))), (q5, .inl (cJ, 120, .inr (.inl (fun _ => 0))))] H := hP
  have hD : va_D A [(h0, .inr (1, [.int 0, .int 0, .ref q1, .ref q2, .ref q3, .ref q4, .ref q5, .null, .null, .null])), (q1, .inl (cI, 3, .inl (fun _ => 0))), (q2, .inl (cI, 120, .inl (fun _ => 0))), (q3, .inl (cI, 120, .inl (fun _ => 0))), (q4, .inl (cI, 120, .inl (fun _ => 0))), (q5, .inl (cJ, 120, .inr (.inl (fun _ => 0))))] := hD
  refine lv_aload_n hx hb dX1_init_43 rfl (lv_at hl 0 rfl) ?_
  refine lv_bipush (v := nI 12) hx hb dX1_init_44 (by decide) ?_
  refine va_newa (atype := .long) (ty := .long) (a0 := (12, .inr (.inl (fun _ => 0)))) (N' := 12) hx hb (hts (.arrayClass .long) (by decide +kernel)) rfl hK hP hD hS hA (fun _ => rfl) (by decide) (by decide) (Nat.le_of_ble_eq_true rfl) (Nat.le_of_ble_eq_true rfl) (Nat.le_of_ble_eq_true rfl) dX1_init_46 (fun q6 cA H hK9 hP hD hS => ?_)
  have e9 := (zK_l hK9).symm
  subst e9
  have hP : va_P (dC, dI) vwCl [(h0, .inr (1, [.int 0, .int 0, .ref q1, .ref q2, .ref q3, .ref q4, .ref q5, .null, .null, .null])), (q1, .inl (cI, 3, .inl (fun _ => 0))), (q2, .inl (cI, 120, .inl (fun _ => 0))), (q3, .inl (cI, 120, .inl (fun _ => 0))), (q4, .inl (cI, 120, .inl (fun _ => 0))), (q5, .inl (cJ, 120, .inr (.inl (fun _ => 0)))), (q6, .inl (cJ, 12, .inr (.inl (fun _ => 0))))] H := hP
  have hD : va_D A [(h0, .inr (1, [.int 0, .int 0, .ref q1, .ref q2, .ref q3, .ref q4, .ref q5, .null, .null, .null])), (q1, .inl (cI, 3, .inl (fun _ => 0))), (q2, .inl (cI, 120, .inl (fun _ => 0))), (q3, .inl (cI, 120, .inl (fun _ => 0))), (q4, .inl (cI, 120, .inl (fun _ => 0))), (q5, .inl (cJ, 120, .inr (.inl (fun _ => 0)))), (q6, .inl (cJ, 12, .inr (.inl (fun _ => 0))))] := hD
  refine W.widen (k := 6) (n := 495) (by omega) (by omega) ?_
  refine va_putF (D := (dC, dI)) (ci := 1) (v := .ref q6) (ty := .array .long) (C := RX1) (T := TX1) (N := 10) hx hb hts hin0 tyX1 tyX1_ok nmX1 hown hK hP hD hS 0 rfl rfl 7 (by decide) (hts (.fieldLink RX1 26 "DottedSiblingsModel" "known" "[J") (by decide +kernel)) (fun _ h9 => h9) rfl hin rfl (by decide +kernel) rfl rfl (Nat.le_of_ble_eq_true rfl) dX1_init_48 (fun H locs hP hD hS => ?_)
  have hP : va_P (dC, dI) vwCl [(h0, .inr (1, [.int 0, .int 0, .ref q1, .ref q2, .ref q3, .ref q4, .ref q5, .ref q6, .null, .null])), (q1, .inl (cI, 3, .inl (fun _ => 0))), (q2, .inl (cI, 120, .inl (fun _ => 0))), (q3, .inl (cI, 120, .inl (fun _ => 0))), (q4, .inl (cI, 120, .inl (fun _ => 0))), (q5, .inl (cJ, 120, .inr (.inl (fun _ => 0)))), (q6, .inl (cJ, 12, .inr (.inl (fun _ => 0))))] H := hP
  have hD : va_D A [(h0, .inr (1, [.int 0, .int 0, .ref q1, .ref q2, .ref q3, .ref q4, .ref q5, .ref q6, .null, .null])), (q1, .inl (cI, 3, .inl (fun _ => 0))), (q2, .inl (cI, 120, .inl (fun _ => 0))), (q3, .inl (cI, 120, .inl (fun _ => 0))), (q4, .inl (cI, 120, .inl (fun _ => 0))), (q5, .inl (cJ, 120, .inr (.inl (fun _ => 0)))), (q6, .inl (cJ, 12, .inr (.inl (fun _ => 0))))] := hD
  refine lv_aload_n hx hb dX1_init_51 rfl (lv_at hl 0 rfl) ?_
  refine lv_bipush (v := nI 12) hx hb dX1_init_52 (by decide) ?_
  refine va_newa (atype := .long) (ty := .long) (a0 := (12, .inr (.inl (fun _ => 0)))) (N' := 12) hx hb (hts (.arrayClass .long) (by decide +kernel)) rfl hK hP hD hS hA (fun _ => rfl) (by decide) (by decide) (Nat.le_of_ble_eq_true rfl) (Nat.le_of_ble_eq_true rfl) (Nat.le_of_ble_eq_true rfl) dX1_init_54 (fun q7 cA H hK9 hP hD hS => ?_)
  have e9 := (zK_l hK9).symm
  subst e9
  have hP : va_P (dC, dI) vwCl [(h0, .inr (1, [.int 0, .int 0, .ref q1, .ref q2, .ref q3, .ref q4, .ref q5, .ref q6, .null, .null])), (q1, .inl (cI, 3, .inl (fun _ => 0))), (q2, .inl (cI, 120, .inl (fun _ => 0))), (q3, .inl (cI, 120, .inl (fun _ => 0))), (q4, .inl (cI, 120, .inl (fun _ => 0))), (q5, .inl (cJ, 120, .inr (.inl (fun _ => 0)))), (q6, .inl (cJ, 12, .inr (.inl (fun _ => 0)))), (q7, .inl (cJ, 12, .inr (.inl (fun _ => 0))))] H := hP
  have hD : va_D A [(h0, .inr (1, [.int 0, .int 0, .ref q1, .ref q2, .ref q3, .ref q4, .ref q5, .ref q6, .null, .null])), (q1, .inl (cI, 3, .inl (fun _ => 0))), (q2, .inl (cI, 120, .inl (fun _ => 0))), (q3, .inl (cI, 120, .inl (fun _ => 0))), (q4, .inl (cI, 120, .inl (fun _ => 0))), (q5, .inl (cJ, 120, .inr (.inl (fun _ => 0)))), (q6, .inl (cJ, 12, .inr (.inl (fun _ => 0)))), (q7, .inl (cJ, 12, .inr (.inl (fun _ => 0))))] := hD
  refine W.widen (k := 7) (n := 507) (by omega) (by omega) ?_
  refine va_putF (D := (dC, dI)) (ci := 1) (v := .ref q7) (ty := .array .long) (C := RX1) (T := TX1) (N := 10) hx hb hts hin0 tyX1 tyX1_ok nmX1 hown hK hP hD hS 0 rfl rfl 8 (by decide) (hts (.fieldLink RX1 29 "DottedSiblingsModel" "contexts" "[J") (by decide +kernel)) (fun _ h9 => h9) rfl hin rfl (by decide +kernel) rfl rfl (Nat.le_of_ble_eq_true rfl) dX1_init_56 (fun H locs hP hD hS => ?_)
  have hP : va_P (dC, dI) vwCl [(h0, .inr (1, [.int 0, .int 0, .ref q1, .ref q2, .ref q3, .ref q4, .ref q5, .ref q6, .ref q7, .null])), (q1, .inl (cI, 3, .inl (fun _ => 0))), (q2, .inl (cI, 120, .inl (fun _ => 0))), (q3, .inl (cI, 120, .inl (fun _ => 0))), (q4, .inl (cI, 120, .inl (fun _ => 0))), (q5, .inl (cJ, 120, .inr (.inl (fun _ => 0)))), (q6, .inl (cJ, 12, .inr (.inl (fun _ => 0)))), (q7, .inl (cJ, 12, .inr (.inl (fun _ => 0))))] H := hP
  have hD : va_D A [(h0, .inr (1, [.int 0, .int 0, .ref q1, .ref q2, .ref q3, .ref q4, .ref q5, .ref q6, .ref q7, .null])), (q1, .inl (cI, 3, .inl (fun _ => 0))), (q2, .inl (cI, 120, .inl (fun _ => 0))), (q3, .inl (cI, 120, .inl (fun _ => 0))), (q4, .inl (cI, 120, .inl (fun _ => 0))), (q5, .inl (cJ, 120, .inr (.inl (fun _ => 0)))), (q6, .inl (cJ, 12, .inr (.inl (fun _ => 0)))), (q7, .inl (cJ, 12, .inr (.inl (fun _ => 0))))] := hD
  refine lv_aload_n hx hb dX1_init_59 rfl (lv_at hl 0 rfl) ?_
  refine lv_bipush (v := nI 12) hx hb dX1_init_60 (by decide) ?_
  refine va_newa (atype := .long) (ty := .long) (a0 := (12, .inr (.inl (fun _ => 0)))) (N' := 12) hx hb (hts (.arrayClass .long) (by decide +kernel)) rfl hK hP hD hS hA (fun _ => rfl) (by decide) (by decide) (Nat.le_of_ble_eq_true rfl) (Nat.le_of_ble_eq_true rfl) (Nat.le_of_ble_eq_true rfl) dX1_init_62 (fun q8 cA H hK9 hP hD hS => ?_)
  have e9 := (zK_l hK9).symm
  subst e9
  have hP : va_P (dC, dI) vwCl [(h0, .inr (1, [.int 0, .int 0, .ref q1, .ref q2, .ref q3, .ref q4, .ref q5, .ref q6, .ref q7, .null])), (q1, .inl (cI, 3, .inl (fun _ => 0))), (q2, .inl (cI, 120, .inl (fun _ => 0))), (q3, .inl (cI, 120, .inl (fun _ => 0))), (q4, .inl (cI, 120, .inl (fun _ => 0))), (q5, .inl (cJ, 120, .inr (.inl (fun _ => 0)))), (q6, .inl (cJ, 12, .inr (.inl (fun _ => 0)))), (q7, .inl (cJ, 12, .inr (.inl (fun _ => 0)))), (q8, .inl (cJ, 12, .inr (.inl (fun _ => 0))))] H := hP
  have hD : va_D A [(h0, .inr (1, [.int 0, .int 0, .ref q1, .ref q2, .ref q3, .ref q4, .ref q5, .ref q6, .ref q7, .null])), (q1, .inl (cI, 3, .inl (fun _ => 0))), (q2, .inl (cI, 120, .inl (fun _ => 0))), (q3, .inl (cI, 120, .inl (fun _ => 0))), (q4, .inl (cI, 120, .inl (fun _ => 0))), (q5, .inl (cJ, 120, .inr (.inl (fun _ => 0)))), (q6, .inl (cJ, 12, .inr (.inl (fun _ => 0)))), (q7, .inl (cJ, 12, .inr (.inl (fun _ => 0)))), (q8, .inl (cJ, 12, .inr (.inl (fun _ => 0))))] := hD
  refine W.widen (k := 8) (n := 519) (by omega) (by omega) ?_
  refine va_putF (D := (dC, dI)) (ci := 1) (v := .ref q8) (ty := .array .long) (C := RX1) (T := TX1) (N := 10) hx hb hts hin0 tyX1 tyX1_ok nmX1 hown hK hP hD hS 0 rfl rfl 9 (by decide) (hts (.fieldLink RX1 32 "DottedSiblingsModel" "reads" "[J") (by decide +kernel)) (fun _ h9 => h9) rfl hin rfl (by decide +kernel) rfl rfl (Nat.le_of_ble_eq_true rfl) dX1_init_64 (fun H locs hP hD hS => ?_)
  have hP : va_P (dC, dI) vwCl [(h0, .inr (1, [.int 0, .int 0, .ref q1, .ref q2, .ref q3, .ref q4, .ref q5, .ref q6, .ref q7, .ref q8])), (q1, .inl (cI, 3, .inl (fun _ => 0))), (q2, .inl (cI, 120, .inl (fun _ => 0))), (q3, .inl (cI, 120, .inl (fun _ => 0))), (q4, .inl (cI, 120, .inl (fun _ => 0))), (q5, .inl (cJ, 120, .inr (.inl (fun _ => 0)))), (q6, .inl (cJ, 12, .inr (.inl (fun _ => 0)))), (q7, .inl (cJ, 12, .inr (.inl (fun _ => 0)))), (q8, .inl (cJ, 12, .inr (.inl (fun _ => 0))))] H := hP
  have hD : va_D A [(h0, .inr (1, [.int 0, .int 0, .ref q1, .ref q2, .ref q3, .ref q4, .ref q5, .ref q6, .ref q7, .ref q8])), (q1, .inl (cI, 3, .inl (fun _ => 0))), (q2, .inl (cI, 120, .inl (fun _ => 0))), (q3, .inl (cI, 120, .inl (fun _ => 0))), (q4, .inl (cI, 120, .inl (fun _ => 0))), (q5, .inl (cJ, 120, .inr (.inl (fun _ => 0)))), (q6, .inl (cJ, 12, .inr (.inl (fun _ => 0)))), (q7, .inl (cJ, 12, .inr (.inl (fun _ => 0)))), (q8, .inl (cJ, 12, .inr (.inl (fun _ => 0))))] := hD
  refine lv_aload_n hx hb dX1_init_67 rfl (lv_at hl 0 rfl) ?_
  refine zr_par (k := 1) (i := 1) (x := x1) hx hb rfl (lv_at hl 1 rfl) dX1_init_68 dX1_init_69 dX1_init_70 dX1_init_73 dX1_init_74 dX1_init_75 dX1_init_78 dX1_init_79 dX1_init_82 ?_
  refine va_putF (D := (dC, dI)) (ci := 1) (v := .int (nI (zP x1))) (ty := .int) (C := RX1) (T := TX1) (N := 10) hx hb hts hin0 tyX1 tyX1_ok nmX1 hown hK hP hD hS 0 rfl rfl 0 (by decide) (hts (.fieldLink RX1 35 "DottedSiblingsModel" "servers" "I") (by decide +kernel)) (fun _ h9 => h9) rfl hin rfl (by decide +kernel) rfl rfl (Nat.le_of_ble_eq_true rfl) dX1_init_83 (fun H locs hP hD hS => ?_)
  have hP : va_P (dC, dI) vwCl [(h0, .inr (1, [.int (nI (zP x1)), .int 0, .ref q1, .ref q2, .ref q3, .ref q4, .ref q5, .ref q6, .ref q7, .ref q8])), (q1, .inl (cI, 3, .inl (fun _ => 0))), (q2, .inl (cI, 120, .inl (fun _ => 0))), (q3, .inl (cI, 120, .inl (fun _ => 0))), (q4, .inl (cI, 120, .inl (fun _ => 0))), (q5, .inl (cJ, 120, .inr (.inl (fun _ => 0)))), (q6, .inl (cJ, 12, .inr (.inl (fun _ => 0)))), (q7, .inl (cJ, 12, .inr (.inl (fun _ => 0)))), (q8, .inl (cJ, 12, .inr (.inl (fun _ => 0))))] H := hP
  have hD : va_D A [(h0, .inr (1, [.int (nI (zP x1)), .int 0, .ref q1, .ref q2, .ref q3, .ref q4, .ref q5, .ref q6, .ref q7, .ref q8])), (q1, .inl (cI, 3, .inl (fun _ => 0))), (q2, .inl (cI, 120, .inl (fun _ => 0))), (q3, .inl (cI, 120, .inl (fun _ => 0))), (q4, .inl (cI, 120, .inl (fun _ => 0))), (q5, .inl (cJ, 120, .inr (.inl (fun _ => 0)))), (q6, .inl (cJ, 12, .inr (.inl (fun _ => 0)))), (q7, .inl (cJ, 12, .inr (.inl (fun _ => 0)))), (q8, .inl (cJ, 12, .inr (.inl (fun _ => 0))))] := hD
  refine lv_aload_n hx hb dX1_init_86 rfl (lv_at hl 0 rfl) ?_
  refine zr_par (k := 2) (i := 2) (x := x2) hx hb rfl (lv_at hl 2 rfl) dX1_init_87 dX1_init_88 dX1_init_89 dX1_init_92 dX1_init_93 dX1_init_94 dX1_init_97 dX1_init_98 dX1_init_101 ?_
  refine va_putF (D := (dC, dI)) (ci := 1) (v := .int (nI (zP x2))) (ty := .int) (C := RX1) (T := TX1) (N := 10) hx hb hts hin0 tyX1 tyX1_ok nmX1 hown hK hP hD hS 0 rfl rfl 1 (by decide) (hts (.fieldLink RX1 39 "DottedSiblingsModel" "clients" "I") (by decide +kernel)) (fun _ h9 => h9) rfl hin rfl (by decide +kernel) rfl rfl (Nat.le_of_ble_eq_true rfl) dX1_init_102 (fun H locs hP hD hS => ?_)
  have hP : va_P (dC, dI) vwCl [(h0, .inr (1, [.int (nI (zP x1)), .int (nI (zP x2)), .ref q1, .ref q2, .ref q3, .ref q4, .ref q5, .ref q6, .ref q7, .ref q8])), (q1, .inl (cI, 3, .inl (fun _ => 0))), (q2, .inl (cI, 120, .inl (fun _ => 0))), (q3, .inl (cI, 120, .inl (fun _ => 0))), (q4, .inl (cI, 120, .inl (fun _ => 0))), (q5, .inl (cJ, 120, .inr (.inl (fun _ => 0)))), (q6, .inl (cJ, 12, .inr (.inl (fun _ => 0)))), (q7, .inl (cJ, 12, .inr (.inl (fun _ => 0)))), (q8, .inl (cJ, 12, .inr (.inl (fun _ => 0))))] H := hP
  have hD : va_D A [(h0, .inr (1, [.int (nI (zP x1)), .int (nI (zP x2)), .ref q1, .ref q2, .ref q3, .ref q4, .ref q5, .ref q6, .ref q7, .ref q8])), (q1, .inl (cI, 3, .inl (fun _ => 0))), (q2, .inl (cI, 120, .inl (fun _ => 0))), (q3, .inl (cI, 120, .inl (fun _ => 0))), (q4, .inl (cI, 120, .inl (fun _ => 0))), (q5, .inl (cJ, 120, .inr (.inl (fun _ => 0)))), (q6, .inl (cJ, 12, .inr (.inl (fun _ => 0)))), (q7, .inl (cJ, 12, .inr (.inl (fun _ => 0)))), (q8, .inl (cJ, 12, .inr (.inl (fun _ => 0))))] := hD
  exact W.vret hx hb hr (fun t ht hW => ⟨⟨(), rfl, trivial, (fun i => match i with | 0 => h0 | 1 => q1 | 2 => q2 | 3 => q3 | 4 => q4 | 5 => q5 | 6 => q6 | 7 => q7 | _ => q8), cI, cJ, rfl, by rw [ht]; exact hP, va_K.moved hW.alike hK, hD⟩, hS.F ht⟩) hS.2.2 dX1_init_105
end
section
def va_AOA (t : FieldType) (U : State) : Prop := (Cond.arrayOver (.array t)).before #[] U = true
theorem va_AOA.use {t : FieldType} {A : Array Value} {U : State} (h : va_AOA t U) : (Cond.arrayOver (.array t)).before A U = true := h
theorem va_AOA.moved {t : FieldType} {u U : State} (hvm : u.vm.Alike U.vm) (h : va_AOA t u) : va_AOA t U := by
  obtain ⟨comp, c, k, h1, h2, h3, h4, h5⟩ := arrayOverA_spec h
  obtain ⟨k', hk', he⟩ := hvm.2.2 _ _ h3
  have hi := (hvm.findIdx?_eq _ (fun _ => rfl)).trans h2
  have hkind : k'.kind = .array comp (.array t) := by rw [he]; exact h4
  have f1 : U.vm.findClass (FieldType.array t).toString = some comp := by rw [hvm.findClass]; exact h1
  have f2 : U.vm.findClass ("[" ++ (FieldType.array t).toString) = some c := by rw [hvm.findClass]; exact h5
  unfold va_AOA Cond.before Cond.holds
  simp only [Cond.value]
  rw [f1, Option.bind_some]
  refine (congrArg (fun o : Option Nat => (o.bind (fun c => (U.vm.classes[c]?).map fun (k : Class) => match k.kind with | .array _ ty => decide (ty = FieldType.array t) && decide (U.vm.findClass ("[" ++ (FieldType.array t).toString) = some c) | _ => false) == some true)) hi).trans ?_
  simp [hk', hkind, f2]
end
section
theorem zo_of {ad : Nat → Nat} {b : Nat} {r : Nat → Nat} (h : ∀ i, i < 3 → r i = ad (b + i)) : (fun i => if i < 3 then some (r i) else none) = zo ad b := by
  funext i
  unfold zo
  by_cases hi : i < 3
  · rw [if_pos hi, if_pos hi, h i hi]
  · rw [if_neg hi, if_neg hi]
theorem zcl {own a b : String} {i : Nat} {args : Array Value} {s : State} (e : a = b) (h : (Cond.classLink own i b).before args s = true) : (Cond.classLink own i a).before args s = true := e ▸ h
theorem zK_a {s : State} {D : va_G} {cl : List vw_C} {t1 : List (ClassId × FieldType)} {cA cB : ClassId} {t : FieldType} (h1 : va_K D cl (t1 ++ [(cA, .array t)]) s) (h2 : va_K D cl (t1 ++ [(cB, .array t)]) s) : cA = cB := by
  have a1 := (h1.2 t1.length (cA, .array t) (by rw [List.getElem?_append_right (Nat.le_refl _), Nat.sub_self]; rfl)).2
  have a2 := (h2.2 t1.length (cB, .array t) (by rw [List.getElem?_append_right (Nat.le_refl _), Nat.sub_self]; rfl)).2
  exact Option.some.inj ((show s.vm.findClass ("[" ++ (FieldType.array t).toString) = some cA from a1).symm.trans (show s.vm.findClass ("[" ++ (FieldType.array t).toString) = some cB from a2))
end
section
/-! ===== BEGIN new T[n][m]: the outer array a place, the inner ones among the pooled ===== -/
/-- f, but v at every address of l -/
def vr_up {α : Type} (f : Nat → α) (l : List Nat) (v : α) : Nat → α := fun a => if a ∈ l then v else f a
theorem vr_up_in {α : Type} {f : Nat → α} {l : List Nat} {v : α} {a : Nat} (h : a ∈ l) : vr_up f l v a = v := if_pos h
theorem vr_up_ne {α : Type} {f : Nat → α} {l : List Nat} {v : α} {a : Nat} (h : a ∉ l) : vr_up f l v a = f a := if_neg h
theorem vr_rows {L l : List Nat} {f : Nat → va_E} {e : va_E} (h : ∀ a, a ∈ l → a ∉ L) : va_pl L f ++ l.map (fun a => (a, e)) = va_pl (L ++ l) (vr_up f l e) := by
  unfold va_pl
  rw [List.map_append]
  congr 1
  · apply List.map_congr_left
    intro a ha
    rw [vr_up_ne (fun q => h a q ha)]
  · apply List.map_congr_left
    intro a ha
    rw [vr_up_in ha]
theorem vr_lay {X rows : va_W} {x : Nat × va_E} {pl : va_W} {D : va_G} {cl : List vw_C} {H : Heap} (hP : va_P D cl (((X ++ pl) ++ [x]) ++ rows) H) : va_P D cl ((X ++ [x]) ++ (pl ++ rows)) H := by
  rw [List.append_assoc (X ++ pl)] at hP
  have h := va_P.swap hP
  rw [← List.append_assoc X] at h
  have h2 := va_P.swap h
  rw [List.append_assoc (X ++ [x])] at h2
  exact h2
theorem vr_layD {X rows : va_W} {x : Nat × va_E} {pl : va_W} {A : Nat → Prop} (hD : va_D A (((X ++ pl) ++ [x]) ++ rows)) : va_D A ((X ++ [x]) ++ (pl ++ rows)) := by
  rw [List.append_assoc (X ++ pl)] at hD
  have h := va_D.swap hD
  rw [← List.append_assoc X] at h
  have h2 := va_D.swap h
  rw [List.append_assoc (X ++ [x])] at h2
  exact h2
theorem vr_outer (c : ClassId) (N h0 : Nat) : ∀ i : Nat, Jvm.Free.Multi.outerC c N h0 i = arrV c N (fun j => va_rf (if j < i then some (h0 + 1 + j) else none))
  | 0 => by
    show ({ cls := c, slots := Array.replicate N .null, vm := .none } : Cell) = _
    rw [arrV_new]
    refine congrArg (arrV c N) (funext fun j => ?_)
    simp [va_rf]
  | i + 1 => by
    show (Jvm.Free.Multi.outerC c N h0 i).setSlot i (.ref (h0 + 1 + i)) = _
    rw [vr_outer c N h0 i, arrV_store]
    refine congrArg (arrV c N) (funext fun j => ?_)
    by_cases e : j = i
    · subst e
      simp [updV, va_rf]
    · by_cases h : j < i
      · simp [updV, e, h, Nat.lt_succ_of_lt h]
      · simp [updV, e, h, show ¬ j < i + 1 by omega]
section VGM
variable {p : Program} {l : Launch} {e : Env} {R : Room} {s : State} {m : MethodId} {args : Array Value} {below : List Frame} {meth : Method} {c : Code} {H : Heap} {locs : List Loc} {cells slots : Nat} {Q : State → Prop}
variable {cc : ByteArray} {pc : Nat} {ls : Array Slot} {rest : List Value} {D : va_G} {cl : List vw_C} {A : Nat → Prop} {a : Nat} {tys : List (ClassId × FieldType)} {ws : va_W} {H0 : Heap}
theorem va_mna {X : va_W} {L : List Nat} {f : Nat → va_E} {cc : ByteArray} (hexec : p.tables.exec = Jvm.exec) (hb : c.code = cc) {own : String} {index : Nat} {ty : FieldType} {cy : ClassId} (hown : s.vm.findClass own = some m.cls) (hclink : (Cond.classLink own index ("[" ++ (FieldType.array ty).toString)).before args s = true) (hover : va_AOA ty s) (harr : (Cond.arrayClass ty).before args s = true) (hcy : s.vm.findClass (FieldType.array ty).toString = some cy)
    (hK : va_K D cl tys s) (hP : va_P D cl (X ++ va_pl L f) H) (hD : va_D A (X ++ va_pl L f)) (hS : va_S A H0 H locs) (hA : ∀ q, H0.size ≤ q → A q) {n k : Int32} {N' K' : Nat} {z : vp_A} (hn : ¬ n < 0) (hk : ¬ k < 0) (hN : n.toNatClampNeg = N') (hM : k.toNatClampNeg = K')
    (hb1 : N' * 4 ≤ 536870912) (hb2 : K' * componentBytes ty ≤ 536870912) (hb3 : K' ≤ 536870912) (hdf : fits ty (defaultValue ty) = true) (hdd : (defaultValue ty).isDefault = true) (hcells : cells + (1 + N') ≤ R.cells) (hslots : slots + (N' + N' * K') ≤ R.slots) (hz : ∀ c : ClassId, Jvm.Free.Multi.innerC c K' (defaultValue ty) = vp_cell c z) (hdg : decode cc pc = .ok (.multianewarray index 2, 4))
    (kk : ∀ (q : Nat) (r : Nat → Nat) (cA : ClassId) (H1 : Heap), (∀ i j : Nat, i < N' → j < N' → r i = r j → i = j) → (∀ i : Nat, i < N' → r i ∉ L) → va_K D cl (tys ++ [(cA, .array ty)]) s →
      va_P D cl ((X ++ [(q, .inl (cA, N', .inr (.inr (.inr (.inr (fun i => if i < N' then some (r i) else none))))))]) ++ va_pl (L ++ (List.range N').map r) (vr_up f ((List.range N').map r) (.inl (cy, z)))) H1 → va_D A ((X ++ [(q, .inl (cA, N', .inr (.inr (.inr (.inr (fun i => if i < N' then some (r i) else none))))))]) ++ va_pl (L ++ (List.range N').map r) (vr_up f ((List.range N').map r) (.inl (cy, z)))) → va_S A H0 H1 locs →
      W p l e R s m args below meth c H1 locs (cells + 1 + N') (slots + N' + N' * K') Q (F0 m (pc + 4) ls (.ref q :: rest))) : W p l e R s m args below meth c H locs cells slots Q (F0 m pc ls (.int k :: .int n :: rest)) := by
  subst hN
  subst hM
  intro T hT Xs
  obtain ⟨vm₁, cA, comp, -, fA, fC, hO, -, X', step⟩ := Xs.multianewarray2F hexec hown hclink (va_AOA.use hover) harr (g := F0 m pc ls (.int k :: .int n :: rest)) rfl (by rw [hb]; exact hdg) rfl hn hk hb1 hb2 hb3 hdf hdd hcells hslots
  have ec : some cy = some comp := hcy.symm.trans fC
  cases ec
  generalize hF : Jvm.Free.Multi.fill (T.setVm vm₁) cA cy n.toNatClampNeg k.toNatClampNeg (defaultValue ty) n.toNatClampNeg = F at X' step
  have hTh : (T.setVm vm₁).heap = H := hT
  obtain ⟨f1, f2, -, -⟩ := Jvm.Free.Multi.fill_facts (T.setVm vm₁) cA cy n.toNatClampNeg k.toNatClampNeg (defaultValue ty) n.toNatClampNeg
  rw [hF, hTh] at f1 f2
  have hold : ∀ x : Nat, x < H.size → F.heap[x]? = H[x]? := fun x hx => by
    have := Jvm.Free.Multi.fill_old (T.setVm vm₁) cA cy n.toNatClampNeg k.toNatClampNeg (defaultValue ty) (a := x) (by rw [hTh]; exact hx) n.toNatClampNeg
    rw [hF, hTh] at this
    exact this
  have hrow : ∀ j : Nat, j < n.toNatClampNeg → F.heap[H.size + 1 + j]? = some (vp_cell cy z) := fun j hj => by
    have := Jvm.Free.Multi.fill_inner (T.setVm vm₁) cA cy n.toNatClampNeg k.toNatClampNeg (defaultValue ty) n.toNatClampNeg j hj
    rw [hF, hTh, hz] at this
    exact this
  have hout : Jvm.Free.Multi.outerC cA n.toNatClampNeg H.size n.toNatClampNeg = vp_cell cA (n.toNatClampNeg, .inr (.inr (.inr (.inr (fun i => if i < n.toNatClampNeg then some (H.size + 1 + i) else none))))) := by
    rw [vp_cell_q]
    exact vr_outer cA n.toNatClampNeg H.size n.toNatClampNeg
  rw [hout] at f2
  have hlt : ∀ a, a ∈ L → a < H.size := fun a ha => by
    obtain ⟨k9, hk9⟩ := va_pl_get (X := X) (f := f) ha
    exact (hP k9 _ hk9).lt
  have hnl : ∀ i : Nat, i < n.toNatClampNeg → H.size + 1 + i ∉ L := fun i _ h => by
    have := hlt _ h
    omega
  have hnm : ∀ a, a ∈ (List.range n.toNatClampNeg).map (fun i => H.size + 1 + i) → a ∉ L := fun a ha h => by
    obtain ⟨i, -, rfl⟩ := List.mem_map.mp ha
    have := hlt _ h
    omega
  have hP0 : va_P D cl (X ++ va_pl L f) F.heap := hP.kept (fun k9 x hx => hold x.1 ((hP k9 x hx).lt))
  have hP1 : va_P D cl ((X ++ va_pl L f) ++ [(H.size, .inl (cA, n.toNatClampNeg, .inr (.inr (.inr (.inr (fun i => if i < n.toNatClampNeg then some (H.size + 1 + i) else none))))))]) F.heap := hP0.app (fun k9 x hx => by
    have h0 : k9 < 1 := (List.getElem?_eq_some_iff.mp hx).1
    rw [show k9 = 0 by omega] at hx
    cases hx
    exact f2)
  have hP2 : va_P D cl (((X ++ va_pl L f) ++ [(H.size, .inl (cA, n.toNatClampNeg, .inr (.inr (.inr (.inr (fun i => if i < n.toNatClampNeg then some (H.size + 1 + i) else none))))))]) ++ ((List.range n.toNatClampNeg).map (fun i => H.size + 1 + i)).map (fun a => (a, .inl (cy, z)))) F.heap := hP1.app (fun k9 x hx => by
    obtain ⟨a, ha, rfl⟩ := List.mem_map.mp (List.mem_of_getElem? hx)
    obtain ⟨i, hi, rfl⟩ := List.mem_map.mp ha
    exact hrow i (List.mem_range.mp hi))
  have hD2 : va_D A (((X ++ va_pl L f) ++ [(H.size, .inl (cA, n.toNatClampNeg, .inr (.inr (.inr (.inr (fun i => if i < n.toNatClampNeg then some (H.size + 1 + i) else none))))))]) ++ ((List.range n.toNatClampNeg).map (fun i => H.size + 1 + i)).map (fun a => (a, .inl (cy, z)))) := by
    have hD1 := hD.push (e := .inl (cA, n.toNatClampNeg, .inr (.inr (.inr (.inr (fun i => if i < n.toNatClampNeg then some (H.size + 1 + i) else none)))))) hP rfl (hA _ hS.1)
    generalize hW1 : (X ++ va_pl L f) ++ [(H.size, .inl (cA, n.toNatClampNeg, .inr (.inr (.inr (.inr (fun i => if i < n.toNatClampNeg then some (H.size + 1 + i) else none))))))] = W1 at hD1 hP1 ⊢
    have hle : ∀ (k9 : Nat) (x : Nat × va_E), W1[k9]? = some x → x.1 ≤ H.size := fun k9 x hx => by
      rw [← hW1] at hx
      by_cases hl : k9 < (X ++ va_pl L f).length
      · rw [List.getElem?_append_left hl] at hx
        exact Nat.le_of_lt ((hP k9 x hx).lt)
      · rw [List.getElem?_append_right (by omega)] at hx
        have h0 : k9 - (X ++ va_pl L f).length < 1 := (List.getElem?_eq_some_iff.mp hx).1
        rw [show k9 - (X ++ va_pl L f).length = 0 by omega] at hx
        cases hx
        exact Nat.le_refl _
    have hr : ∀ (k9 : Nat) (x : Nat × va_E), (((List.range n.toNatClampNeg).map (fun i => H.size + 1 + i)).map (fun a => ((a, .inl (cy, z)) : Nat × va_E)))[k9]? = some x → x.1 = H.size + 1 + k9 := fun k9 x hx => by
      rw [List.getElem?_map, List.getElem?_map] at hx
      by_cases h9 : k9 < n.toNatClampNeg
      · rw [List.getElem?_range h9] at hx
        cases hx
        rfl
      · have hn0 : (List.range n.toNatClampNeg)[k9]? = none := List.getElem?_eq_none (by rw [List.length_range]; omega)
        rw [hn0] at hx
        cases hx
    refine ⟨fun i j x y hi hj hxy => ?_, fun k9 x hx => ?_⟩
    · by_cases h1 : i < W1.length <;> by_cases h2 : j < W1.length
      · rw [List.getElem?_append_left h1] at hi
        rw [List.getElem?_append_left h2] at hj
        exact hD1.1 i j x y hi hj hxy
      · rw [List.getElem?_append_left h1] at hi
        rw [List.getElem?_append_right (by omega)] at hj
        have := hle _ _ hi
        have := hr _ _ hj
        omega
      · rw [List.getElem?_append_right (by omega)] at hi
        rw [List.getElem?_append_left h2] at hj
        have := hle _ _ hj
        have := hr _ _ hi
        omega
      · rw [List.getElem?_append_right (by omega)] at hi hj
        have := hr _ _ hi
        have := hr _ _ hj
        omega
    · by_cases h1 : k9 < W1.length
      · rw [List.getElem?_append_left h1] at hx
        exact hD1.2 k9 x hx
      · rw [List.getElem?_append_right (by omega)] at hx
        have := hr _ _ hx
        exact hA _ (by have := hS.1; omega)
  have hAr : ArrOfT s cA (.array ty) := fun N9 z9 => by
    obtain ⟨-, k9, hk9, cm9, hkk9⟩ := (hO 0 0 0).1
    exact ⟨(fun q hq => by cases hq), k9, hk9, cm9, hkk9⟩
  have hK2 : va_K D cl (tys ++ [(cA, .array ty)]) s := ⟨hK.1, fun k9 x hx => by
    by_cases hl : k9 < tys.length
    · rw [List.getElem?_append_left hl] at hx
      exact hK.2 k9 x hx
    · rw [List.getElem?_append_right (by omega)] at hx
      have h0 : k9 - tys.length < 1 := (List.getElem?_eq_some_iff.mp hx).1
      rw [show k9 - tys.length = 0 by omega] at hx
      cases hx
      exact ⟨hAr, fA⟩⟩
  obtain ⟨t, a1, b1⟩ := kk H.size (fun i => H.size + 1 + i) cA F.heap (fun i j _ _ h => by have h9 : H.size + 1 + i = H.size + 1 + j := h; omega) hnl hK2 (by rw [← vr_rows hnm]; exact vr_lay hP2) (by rw [← vr_rows hnm]; exact vr_layD hD2) ⟨by rw [f1]; have := hS.1; omega, fun x h1 h2 => (hold x (Nat.lt_of_lt_of_le h1 hS.1)).trans (hS.2.1 x h1 h2), hS.2.2⟩ F rfl X'
  refine ⟨t, step t ?_, b1⟩
  have e : T.heap.size = H.size := by rw [hT]
  rw [e]
  exact a1
end VGM
/-! ===== END ===== -/

theorem zpl3 (r : Nat → Nat) (f : Nat → va_E) (ez : va_E) : va_pl ([] ++ (List.range 3).map r) (vr_up f ((List.range 3).map r) ez) = [(r 0, ez), (r 1, ez), (r 2, ez)] := by
  have e3 : (List.range 3).map r = [r 0, r 1, r 2] := rfl
  rw [e3]
  show [(r 0, vr_up f [r 0, r 1, r 2] ez (r 0)), (r 1, vr_up f [r 0, r 1, r 2] ez (r 1)), (r 2, vr_up f [r 0, r 1, r 2] ez (r 2))] = _
  rw [vr_up_in (by simp), vr_up_in (by simp), vr_up_in (by simp)]
section ZMN
variable {p : Program} {l : Launch} {e : Env} {R : Room} {s : State} {m : MethodId} {args : Array Value} {below : List Frame} {meth : Method} {c : Code} {H : Heap} {locs : List Loc} {cells slots : Nat} {Q : State → Prop}
variable {cc : ByteArray} {pc : Nat} {ls : Array Slot} {rest : List Value} {D : va_G} {cl : List vw_C} {A : Nat → Prop} {tys : List (ClassId × FieldType)} {ws : va_W} {H0 : Heap}
/-- new T[3][k]: four cells -/
theorem zr_mna (hexec : p.tables.exec = Jvm.exec) (hb : c.code = cc) {own : String} {index : Nat} {ty : FieldType} {cy : ClassId} (hown : s.vm.findClass own = some m.cls) (hclink : (Cond.classLink own index ("[" ++ (FieldType.array ty).toString)).before args s = true) (hover : va_AOA ty s) (harr : (Cond.arrayClass ty).before args s = true) (hcy : s.vm.findClass (FieldType.array ty).toString = some cy)
    (hK : va_K D cl tys s) (hP : va_P D cl ws H) (hD : va_D A ws) (hS : va_S A H0 H locs) (hA : ∀ q, H0.size ≤ q → A q) {k : Nat} {z : vp_A} (hk : k ≤ 1000) (hb2 : k * componentBytes ty ≤ 536870912) (hdf : fits ty (defaultValue ty) = true) (hdd : (defaultValue ty).isDefault = true) (hcells : cells + 4 ≤ R.cells) (hslots : slots + (3 + 3 * k) ≤ R.slots) (hz : ∀ c : ClassId, ({ cls := c, slots := Array.replicate k (defaultValue ty), vm := .none } : Cell) = vp_cell c z) (hdg : decode cc pc = .ok (.multianewarray index 2, 4))
    (kk : ∀ (q : Nat) (r : Nat → Nat) (cA : ClassId) (H1 : Heap), va_K D cl (tys ++ [(cA, .array ty)]) s → va_P D cl (ws ++ [(q, .inl (cA, 3, .inr (.inr (.inr (.inr (fun i => if i < 3 then some (r i) else none)))))), (r 0, .inl (cy, z)), (r 1, .inl (cy, z)), (r 2, .inl (cy, z))]) H1 → va_D A (ws ++ [(q, .inl (cA, 3, .inr (.inr (.inr (.inr (fun i => if i < 3 then some (r i) else none)))))), (r 0, .inl (cy, z)), (r 1, .inl (cy, z)), (r 2, .inl (cy, z))]) → va_S A H0 H1 locs →
      W p l e R s m args below meth c H1 locs (cells + 4) (slots + (3 + 3 * k)) Q (F0 m (pc + 4) ls (.ref q :: rest))) : W p l e R s m args below meth c H locs cells slots Q (F0 m pc ls (.int (nI k) :: .int (nI 3) :: rest)) := by
  refine va_mna (X := ws) (L := []) (f := fun _ => .inl (cy, z)) (n := nI 3) (k := nI k) (N' := 3) (K' := k) (z := z) hexec hb hown hclink hover harr hcy hK (by show va_P D cl (ws ++ []) H; rw [List.append_nil]; exact hP) (by show va_D A (ws ++ []); rw [List.append_nil]; exact hD) hS hA (by decide) (nI_pos (by omega)) (by decide) (nI_clamp (by omega)) (Nat.le_of_ble_eq_true rfl) hb2 (by omega) hdf hdd (by omega) (by omega) hz hdg (fun q r cA H1 _ _ hK1 hP1 hD1 hS1 => ?_)
  rw [zpl3, List.append_assoc] at hP1 hD1
  exact W.cs (by omega) (by omega) (kk q r cA H1 hK1 hP1 hD1 hS1)
end ZMN
end
section
set_option maxHeartbeats 8000000 in
set_option maxRecDepth 100000 in
/-- the class, new -/
theorem c_X0_init (l : Launch) (dC : Nat → ClassId) (dI : Nat → Nat → Nat) (h0 : Nat) (sz : Nat) (x1 x2 : Int32) : Met l yX0_init wsX0_init ({ frames := 1, cells := 25, slots := 525, locals := 20 }) (va_Pc [.ref h0, .int x1, .int x2] (fun U => U.heap.size = sz ∧ va_P (dC, dI) vwCl [(h0, .inr (0, [.int 0, .int 0, .null, .null, .null, .null, .null, .null, .null]))] U.heap ∧ va_K (dC, dI) vwCl [] U ∧ va_D (fun _ => True) [(h0, .inr (0, [.int 0, .int 0, .null, .null, .null, .null, .null, .null, .null]))] ∧ va_AOA .int U ∧ va_AOA .long U)) (va_Qv (fun _ : Unit => True) (fun _ t => ∃ (ad : Nat → Nat) (cI cJ cII cJJ : ClassId), ad 0 = h0 ∧ xE (va_A [(h0, .inr (0, [.int 0, .int 0, .null, .null, .null, .null, .null, .null, .null]))] sz) dC dI ad cI cJ cII cJJ (zP x1) (zP x2) (fun _ => 0) (fun _ _ => 0) (fun _ _ => 0) (fun _ _ => 0) (fun _ _ => 0) (fun _ _ => 0) (fun _ _ => 0) t) (va_A [(h0, .inr (0, [.int 0, .int 0, .null, .null, .null, .null, .null, .null, .null]))] sz)) 25 525 (va_A [(h0, .inr (0, [.int 0, .int 0, .null, .null, .null, .null, .null, .null, .null]))] sz) := by
  refine Met.ofW (cc := cX0_init) (maxL := 3) (ret := none) (by decide) rfl ?_
  intro p e s m args below meth c s₁ B hml hv
  obtain ⟨rfl, hsz, hP, hK0, hD0, hOi, hOl⟩ := hv
  have hx := B.exec
  have hb := B.bytes
  have hr := B.returns
  have hts := atoms_spec (ws := wsX0_init) B.pre
  have hown : s.vm.findClass RX0 = some m.cls := findClass_of_methodNamed B.named
  have hlocks := B.notSynchronized
  have hin : meth.name = "<init>" := (name_of_methodNamed B.named B.method).1
  have hin0 : ∀ w ∈ wsX00, w ∈ wsX0_init := fun _ h => List.mem_cons_of_mem _ (List.mem_append_right _ h)
  have hz1 := zP_in x1
  have hz2 := zP_in x2
  obtain ⟨cI, cJ, hK⟩ := zrc_of hK0 (hts (.arrayClass .int) (by decide +kernel)) (hts (.arrayClass .long) (by decide +kernel))
  have hcI : s.vm.findClass (FieldType.array .int).toString = some cI := (hK.2 0 _ rfl).2
  have hcJ : s.vm.findClass (FieldType.array .long).toString = some cJ := (hK.2 1 _ rfl).2
  subst hsz
  have hD := hD0.self (sz := s.heap.size)
  generalize hAe : va_A [(h0, .inr (0, [.int 0, .int 0, .null, .null, .null, .null, .null, .null, .null]))] s.heap.size = A at hD ⊢
  have hA : ∀ q : Nat, s.heap.size ≤ q → A q := fun q h => by rw [← hAe]; exact Or.inr h
  have hS : va_S A s.heap s.heap [] := va_S.rf
  have hP : va_P (dC, dI) vwCl [(h0, .inr (0, [.int 0, .int 0, .null, .null, .null, .null, .null, .null, .null]))] s.heap := hP
  have hl := lv_entry ([.ref h0, .int x1, .int x2]) (n := 3) (Nat.le_of_ble_eq_true rfl)
  rw [lg_entry_eq]
  generalize (lg_sl ([.ref h0, .int x1, .int x2]) ++ List.replicate (3 - (lg_sl ([.ref h0, .int x1, .int x2])).length) Slot.unset).toArray = ls at hl ⊢
  have hl : lv_has ls 3 [(0, .ref h0), (1, .int x1), (2, .int x2)] := hl
  refine lv_aload_n hx hb dX0_init_0 rfl (lv_at hl 0 rfl) ?_
  refine W.objInit hx hb hown (hts (.methodLink RX0 3 objectInit) (by decide +kernel)) (hts (.instanceMethod objectInit) (by decide +kernel)) (hts (.code objectInit ⟨#[0xb1]⟩ 1 none) (by decide +kernel)) rfl (by rw [hml]; exact hl.1) rfl dX0_init_1 (Nat.le_of_ble_eq_true rfl) (Nat.le_of_ble_eq_true rfl) ?_
  refine W.eq (g2 := F0 m 4 ls []) rfl ?_
  refine lv_aload_n hx hb dX0_init_4 rfl (lv_at hl 0 rfl) ?_
  refine lv_iload_n hx hb dX0_init_5 rfl (lv_at hl 1 rfl) ?_
  refine vp_callSi (W.runS (As := [.int x1]) (rest := [.ref h0]) ⟨hx, hb, hml, hown, hts⟩ (c_X0_allowedParties l x1) (va_cwS 1 hts gX0_init_X0_allowedParties rfl rfl rfl (by decide +kernel) ⟨Nat.le_of_ble_eq_true rfl, Nat.le_of_ble_eq_true rfl⟩) ⟨zB_blind, fun U hU hW => ⟨rfl, trivial⟩⟩ rfl rfl hl.1 rfl (lv_room (Nat.le_of_ble_eq_true rfl)) dX0_init_6 ⟨Nat.le_of_ble_eq_true rfl, Nat.le_of_ble_eq_true rfl⟩) (fun r hq => ?_)
  subst hq
  refine va_putF (D := (dC, dI)) (ci := 0) (v := .int (nI (zP x1))) (ty := .int) (C := RX0) (T := TX0) (N := 9) hx hb hts hin0 tyX0 tyX0_ok nmX0 hown hK hP hD hS 0 rfl rfl 0 (by decide) (hts (.fieldLink RX0 15 "DottedSiblings" "servers" "I") (by decide +kernel)) (fun _ h9 => h9) rfl hin rfl (by decide +kernel) rfl rfl (Nat.le_of_ble_eq_true rfl) dX0_init_9 (fun H locs hP hD hS => ?_)
  have hP : va_P (dC, dI) vwCl [(h0, .inr (0, [.int (nI (zP x1)), .int 0, .null, .null, .null, .null, .null, .null, .null]))] H := hP
  have hD : va_D A [(h0, .inr (0, [.int (nI (zP x1)), .int 0, .null, .null, .null, .null, .null, .null, .null]))] := hD
  refine lv_aload_n hx hb dX0_init_12 rfl (lv_at hl 0 rfl) ?_
  refine lv_iload_n hx hb dX0_init_13 rfl (lv_at hl 2 rfl) ?_
  refine vp_callSi (W.runS (As := [.int x2]) (rest := [.ref h0]) ⟨hx, hb, hml, hown, hts⟩ (c_X0_allowedParties l x2) (va_cwS 1 hts gX0_init_X0_allowedParties rfl rfl rfl (by decide +kernel) ⟨Nat.le_of_ble_eq_true rfl, Nat.le_of_ble_eq_true rfl⟩) ⟨zB_blind, fun U hU hW => ⟨rfl, trivial⟩⟩ rfl rfl hl.1 rfl (lv_room (Nat.le_of_ble_eq_true rfl)) dX0_init_14 ⟨Nat.le_of_ble_eq_true rfl, Nat.le_of_ble_eq_true rfl⟩) (fun r hq => ?_)
  subst hq
  refine va_putF (D := (dC, dI)) (ci := 0) (v := .int (nI (zP x2))) (ty := .int) (C := RX0) (T := TX0) (N := 9) hx hb hts hin0 tyX0 tyX0_ok nmX0 hown hK hP hD hS 0 rfl rfl 1 (by decide) (hts (.fieldLink RX0 19 "DottedSiblings" "clients" "I") (by decide +kernel)) (fun _ h9 => h9) rfl hin rfl (by decide +kernel) rfl rfl (Nat.le_of_ble_eq_true rfl) dX0_init_17 (fun H locs hP hD hS => ?_)
  have hP : va_P (dC, dI) vwCl [(h0, .inr (0, [.int (nI (zP x1)), .int (nI (zP x2)), .null, .null, .null, .null, .null, .null, .null]))] H := hP
  have hD : va_D A [(h0, .inr (0, [.int (nI (zP x1)), .int (nI (zP x2)), .null, .null, .null, .null, .null, .null, .null]))] := hD
  refine lv_aload_n hx hb dX0_init_20 rfl (lv_at hl 0 rfl) ?_
  refine lv_iconst (v := nI 3) hx hb dX0_init_21 (by decide) ?_
  refine va_newa (atype := .int) (ty := .int) (a0 := (3, .inl (fun _ => 0))) (N' := 3) hx hb (hts (.arrayClass .int) (by decide +kernel)) rfl hK hP hD hS hA (fun _ => rfl) (by decide) (by decide) (Nat.le_of_ble_eq_true rfl) (Nat.le_of_ble_eq_true rfl) (Nat.le_of_ble_eq_true rfl) dX0_init_22 (fun q1 cA H hK9 hP hD hS => ?_)
  have e9 := (zK_i hK9).symm
  subst e9
  have hP : va_P (dC, dI) vwCl [(h0, .inr (0, [.int (nI (zP x1)), .int (nI (zP x2)), .null, .null, .null, .null, .null, .null, .null])), (q1, .inl (cI, 3, .inl (fun _ => 0)))] H := hP
  have hD : va_D A [(h0, .inr (0, [.int (nI (zP x1)), .int (nI (zP x2)), .null, .null, .null, .null, .null, .null, .null])), (q1, .inl (cI, 3, .inl (fun _ => 0)))] := hD
  refine W.widen (k := 1) (n := 3) (by omega) (by omega) ?_
  refine va_putF (D := (dC, dI)) (ci := 0) (v := .ref q1) (ty := .array .int) (C := RX0) (T := TX0) (N := 9) hx hb hts hin0 tyX0 tyX0_ok nmX0 hown hK hP hD hS 0 rfl rfl 2 (by decide) (hts (.fieldLink RX0 22 "DottedSiblings" "written" "[I") (by decide +kernel)) (fun _ h9 => h9) rfl hin rfl (by decide +kernel) rfl rfl (Nat.le_of_ble_eq_true rfl) dX0_init_24 (fun H locs hP hD hS => ?_)
  have hP : va_P (dC, dI) vwCl [(h0, .inr (0, [.int (nI (zP x1)), .int (nI (zP x2)), .ref q1, .null, .null, .null, .null, .null, .null])), (q1, .inl (cI, 3, .inl (fun _ => 0)))] H := hP
  have hD : va_D A [(h0, .inr (0, [.int (nI (zP x1)), .int (nI (zP x2)), .ref q1, .null, .null, .null, .null, .null, .null])), (q1, .inl (cI, 3, .inl (fun _ => 0)))] := hD
  refine lv_aload_n hx hb dX0_init_27 rfl (lv_at hl 0 rfl) ?_
  refine lv_iconst (v := nI 3) hx hb dX0_init_28 (by decide) ?_
  refine lv_bipush (v := nI 40) hx hb dX0_init_29 (by decide) ?_
  refine zr_mna (ty := .int) (k := 40) (z := (40, .inl (fun _ => 0))) hx hb hown (zcl (by decide) (hts (.classLink RX0 26 "[[I") (by decide +kernel))) hOi (hts (.arrayClass .int) (by decide +kernel)) hcI hK hP hD hS hA (by decide) (Nat.le_of_ble_eq_true rfl) rfl rfl (Nat.le_of_ble_eq_true rfl) (Nat.le_of_ble_eq_true rfl) (fun c => by show ({ cls := c, slots := Array.replicate 40 (.int 0), vm := .none } : Cell) = _; rw [arrV_new]; rfl) dX0_init_31 (fun o0 r0 cA H hK9 hP hD hS => ?_)
  obtain ⟨cII, e9⟩ : ∃ x, x = cA := ⟨_, rfl⟩
  subst e9
  have hKint := hK9
  have hP : va_P (dC, dI) vwCl [(h0, .inr (0, [.int (nI (zP x1)), .int (nI (zP x2)), .ref q1, .null, .null, .null, .null, .null, .null])), (q1, .inl (cI, 3, .inl (fun _ => 0))), (o0, .inl (cII, 3, .inr (.inr (.inr (.inr (fun i => if i < 3 then some (r0 i) else none)))))), (r0 0, .inl (cI, 40, .inl (fun _ => 0))), (r0 1, .inl (cI, 40, .inl (fun _ => 0))), (r0 2, .inl (cI, 40, .inl (fun _ => 0)))] H := hP
  have hD : va_D A [(h0, .inr (0, [.int (nI (zP x1)), .int (nI (zP x2)), .ref q1, .null, .null, .null, .null, .null, .null])), (q1, .inl (cI, 3, .inl (fun _ => 0))), (o0, .inl (cII, 3, .inr (.inr (.inr (.inr (fun i => if i < 3 then some (r0 i) else none)))))), (r0 0, .inl (cI, 40, .inl (fun _ => 0))), (r0 1, .inl (cI, 40, .inl (fun _ => 0))), (r0 2, .inl (cI, 40, .inl (fun _ => 0)))] := hD
  refine W.widen (k := 5) (n := 126) (by omega) (by omega) ?_
  refine va_putF (D := (dC, dI)) (ci := 0) (v := .ref o0) (ty := .array (.array .int)) (C := RX0) (T := TX0) (N := 9) hx hb hts hin0 tyX0 tyX0_ok nmX0 hown hK hP hD hS 0 rfl rfl 3 (by decide) (hts (.fieldLink RX0 28 "DottedSiblings" "values" "[[I") (by decide +kernel)) (fun _ h9 => h9) rfl hin rfl (by decide +kernel) rfl rfl (Nat.le_of_ble_eq_true rfl) dX0_init_35 (fun H locs hP hD hS => ?_)
  have hP : va_P (dC, dI) vwCl [(h0, .inr (0, [.int (nI (zP x1)), .int (nI (zP x2)), .ref q1, .ref o0, .null, .null, .null, .null, .null])), (q1, .inl (cI, 3, .inl (fun _ => 0))), (o0, .inl (cII, 3, .inr (.inr (.inr (.inr (fun i => if i < 3 then some (r0 i) else none)))))), (r0 0, .inl (cI, 40, .inl (fun _ => 0))), (r0 1, .inl (cI, 40, .inl (fun _ => 0))), (r0 2, .inl (cI, 40, .inl (fun _ => 0)))] H := hP
  have hD : va_D A [(h0, .inr (0, [.int (nI (zP x1)), .int (nI (zP x2)), .ref q1, .ref o0, .null, .null, .null, .null, .null])), (q1, .inl (cI, 3, .inl (fun _ => 0))), (o0, .inl (cII, 3, .inr (.inr (.inr (.inr (fun i => if i < 3 then some (r0 i) else none)))))), (r0 0, .inl (cI, 40, .inl (fun _ => 0))), (r0 1, .inl (cI, 40, .inl (fun _ => 0))), (r0 2, .inl (cI, 40, .inl (fun _ => 0)))] := hD
  refine lv_aload_n hx hb dX0_init_38 rfl (lv_at hl 0 rfl) ?_
  refine lv_iconst (v := nI 3) hx hb dX0_init_39 (by decide) ?_
  refine lv_bipush (v := nI 40) hx hb dX0_init_40 (by decide) ?_
  refine zr_mna (ty := .int) (k := 40) (z := (40, .inl (fun _ => 0))) hx hb hown (zcl (by decide) (hts (.classLink RX0 26 "[[I") (by decide +kernel))) hOi (hts (.arrayClass .int) (by decide +kernel)) hcI hK hP hD hS hA (by decide) (Nat.le_of_ble_eq_true rfl) rfl rfl (Nat.le_of_ble_eq_true rfl) (Nat.le_of_ble_eq_true rfl) (fun c => by show ({ cls := c, slots := Array.replicate 40 (.int 0), vm := .none } : Cell) = _; rw [arrV_new]; rfl) dX0_init_42 (fun o1 r1 cA H hK9 hP hD hS => ?_)
  have e9 := zK_a hKint hK9
  subst e9
  have hP : va_P (dC, dI) vwCl [(h0, .inr (0, [.int (nI (zP x1)), .int (nI (zP x2)), .ref q1, .ref o0, .null, .null, .null, .null, .null])), (q1, .inl (cI, 3, .inl (fun _ => 0))), (o0, .inl (cII, 3, .inr (.inr (.inr (.inr (fun i => if i < 3 then some (r0 i) else none)))))), (r0 0, .inl (cI, 40, .inl (fun _ => 0))), (r0 1, .inl (cI, 40, .inl (fun _ => 0))), (r0 2, .inl (cI, 40, .inl (fun _ => 0))), (o1, .inl (cII, 3, .inr (.inr (.inr (.inr (fun i => if i < 3 then some (r1 i) else none)))))), (r1 0, .inl (cI, 40, .inl (fun _ => 0))), (r1 1, .inl (cI, 40, .inl (fun _ => 0))), (r1 2, .inl (cI, 40, .inl (fun _ => 0)))] H := hP
  have hD : va_D A [(h0, .inr (0, [.int (nI (zP x1)), .int (nI (zP x2)), .ref q1, .ref o0, .null, .null, .null, .null, .null])), (q1, .inl (cI, 3, .inl (fun _ => 0))), (o0, .inl (cII, 3, .inr (.inr (.inr (.inr (fun i => if i < 3 then some (r0 i) else none)))))), (r0 0, .inl (cI, 40, .inl (fun _ => 0))), (r0 1, .inl (cI, 40, .inl (fun _ => 0))), (r0 2, .inl (cI, 40, .inl (fun _ => 0))), (o1, .inl (cII, 3, .inr (.inr (.inr (.inr (fun i => if i < 3 then some (r1 i) else none)))))), (r1 0, .inl (cI, 40, .inl (fun _ => 0))), (r1 1, .inl (cI, 40, .inl (fun _ => 0))), (r1 2, .inl (cI, 40, .inl (fun _ => 0)))] := hD
  refine W.widen (k := 9) (n := 249) (by omega) (by omega) ?_
  refine va_putF (D := (dC, dI)) (ci := 0) (v := .ref o1) (ty := .array (.array .int)) (C := RX0) (T := TX0) (N := 9) hx hb hts hin0 tyX0 tyX0_ok nmX0 hown hK hP hD hS 0 rfl rfl 4 (by decide) (hts (.fieldLink RX0 31 "DottedSiblings" "makers" "[[I") (by decide +kernel)) (fun _ h9 => h9) rfl hin rfl (by decide +kernel) rfl rfl (Nat.le_of_ble_eq_true rfl) dX0_init_46 (fun H locs hP hD hS => ?_)
  have hP : va_P (dC, dI) vwCl [(h0, .inr (0, [.int (nI (zP x1)), .int (nI (zP x2)), .ref q1, .ref o0, .ref o1, .null, .null, .null, .null])), (q1, .inl (cI, 3, .inl (fun _ => 0))), (o0, .inl (cII, 3, .inr (.inr (.inr (.inr (fun i => if i < 3 then some (r0 i) else none)))))), (r0 0, .inl (cI, 40, .inl (fun _ => 0))), (r0 1, .inl (cI, 40, .inl (fun _ => 0))), (r0 2, .inl (cI, 40, .inl (fun _ => 0))), (o1, .inl (cII, 3, .inr (.inr (.inr (.inr (fun i => if i < 3 then some (r1 i) else none)))))), (r1 0, .inl (cI, 40, .inl (fun _ => 0))), (r1 1, .inl (cI, 40, .inl (fun _ => 0))), (r1 2, .inl (cI, 40, .inl (fun _ => 0)))] H := hP
  have hD : va_D A [(h0, .inr (0, [.int (nI (zP x1)), .int (nI (zP x2)), .ref q1, .ref o0, .ref o1, .null, .null, .null, .null])), (q1, .inl (cI, 3, .inl (fun _ => 0))), (o0, .inl (cII, 3, .inr (.inr (.inr (.inr (fun i => if i < 3 then some (r0 i) else none)))))), (r0 0, .inl (cI, 40, .inl (fun _ => 0))), (r0 1, .inl (cI, 40, .inl (fun _ => 0))), (r0 2, .inl (cI, 40, .inl (fun _ => 0))), (o1, .inl (cII, 3, .inr (.inr (.inr (.inr (fun i => if i < 3 then some (r1 i) else none)))))), (r1 0, .inl (cI, 40, .inl (fun _ => 0))), (r1 1, .inl (cI, 40, .inl (fun _ => 0))), (r1 2, .inl (cI, 40, .inl (fun _ => 0)))] := hD
  refine lv_aload_n hx hb dX0_init_49 rfl (lv_at hl 0 rfl) ?_
  refine lv_iconst (v := nI 3) hx hb dX0_init_50 (by decide) ?_
  refine lv_bipush (v := nI 40) hx hb dX0_init_51 (by decide) ?_
  refine zr_mna (ty := .int) (k := 40) (z := (40, .inl (fun _ => 0))) hx hb hown (zcl (by decide) (hts (.classLink RX0 26 "[[I") (by decide +kernel))) hOi (hts (.arrayClass .int) (by decide +kernel)) hcI hK hP hD hS hA (by decide) (Nat.le_of_ble_eq_true rfl) rfl rfl (Nat.le_of_ble_eq_true rfl) (Nat.le_of_ble_eq_true rfl) (fun c => by show ({ cls := c, slots := Array.replicate 40 (.int 0), vm := .none } : Cell) = _; rw [arrV_new]; rfl) dX0_init_53 (fun o2 r2 cA H hK9 hP hD hS => ?_)
  have e9 := zK_a hKint hK9
  subst e9
  have hP : va_P (dC, dI) vwCl [(h0, .inr (0, [.int (nI (zP x1)), .int (nI (zP x2)), .ref q1, .ref o0, .ref o1, .null, .null, .null, .null])), (q1, .inl (cI, 3, .inl (fun _ => 0))), (o0, .inl (cII, 3, .inr (.inr (.inr (.inr (fun i => if i < 3 then some (r0 i) else none)))))), (r0 0, .inl (cI, 40, .inl (fun _ => 0))), (r0 1, .inl (cI, 40, .inl (fun _ => 0))), (r0 2, .inl (cI, 40, .inl (fun _ => 0))), (o1, .inl (cII, 3, .inr (.inr (.inr (.inr (fun i => if i < 3 then some (r1 i) else none)))))), (r1 0, .inl (cI, 40, .inl (fun _ => 0))), (r1 1, .inl (cI, 40, .inl (fun _ => 0))), (r1 2, .inl (cI, 40, .inl (fun _ => 0))), (o2, .inl (cII, 3, .inr (.inr (.inr (.inr (fun i => if i < 3 then some (r2 i) else none)))))), (r2 0, .inl (cI, 40, .inl (fun _ => 0))), (r2 1, .inl (cI, 40, .inl (fun _ => 0))), (r2 2, .inl (cI, 40, .inl (fun _ => 0)))] H := hP
  have hD : va_D A [(h0, .inr (0, [.int (nI (zP x1)), .int (nI (zP x2)), .ref q1, .ref o0, .ref o1, .null, .null, .null, .null])), (q1, .inl (cI, 3, .inl (fun _ => 0))), (o0, .inl (cII, 3, .inr (.inr (.inr (.inr (fun i => if i < 3 then some (r0 i) else none)))))), (r0 0, .inl (cI, 40, .inl (fun _ => 0))), (r0 1, .inl (cI, 40, .inl (fun _ => 0))), (r0 2, .inl (cI, 40, .inl (fun _ => 0))), (o1, .inl (cII, 3, .inr (.inr (.inr (.inr (fun i => if i < 3 then some (r1 i) else none)))))), (r1 0, .inl (cI, 40, .inl (fun _ => 0))), (r1 1, .inl (cI, 40, .inl (fun _ => 0))), (r1 2, .inl (cI, 40, .inl (fun _ => 0))), (o2, .inl (cII, 3, .inr (.inr (.inr (.inr (fun i => if i < 3 then some (r2 i) else none)))))), (r2 0, .inl (cI, 40, .inl (fun _ => 0))), (r2 1, .inl (cI, 40, .inl (fun _ => 0))), (r2 2, .inl (cI, 40, .inl (fun _ => 0)))] := hD
  refine W.widen (k := 13) (n := 372) (by omega) (by omega) ?_
  refine va_putF (D := (dC, dI)) (ci := 0) (v := .ref o2) (ty := .array (.array .int)) (C := RX0) (T := TX0) (N := 9) hx hb hts hin0 tyX0 tyX0_ok nmX0 hown hK hP hD hS 0 rfl rfl 5 (by decide) (hts (.fieldLink RX0 34 "DottedSiblings" "counters" "[[I") (by decide +kernel)) (fun _ h9 => h9) rfl hin rfl (by decide +kernel) rfl rfl (Nat.le_of_ble_eq_true rfl) dX0_init_57 (fun H locs hP hD hS => ?_)
  have hP : va_P (dC, dI) vwCl [(h0, .inr (0, [.int (nI (zP x1)), .int (nI (zP x2)), .ref q1, .ref o0, .ref o1, .ref o2, .null, .null, .null])), (q1, .inl (cI, 3, .inl (fun _ => 0))), (o0, .inl (cII, 3, .inr (.inr (.inr (.inr (fun i => if i < 3 then some (r0 i) else none)))))), (r0 0, .inl (cI, 40, .inl (fun _ => 0))), (r0 1, .inl (cI, 40, .inl (fun _ => 0))), (r0 2, .inl (cI, 40, .inl (fun _ => 0))), (o1, .inl (cII, 3, .inr (.inr (.inr (.inr (fun i => if i < 3 then some (r1 i) else none)))))), (r1 0, .inl (cI, 40, .inl (fun _ => 0))), (r1 1, .inl (cI, 40, .inl (fun _ => 0))), (r1 2, .inl (cI, 40, .inl (fun _ => 0))), (o2, .inl (cII, 3, .inr (.inr (.inr (.inr (fun i => if i < 3 then some (r2 i) else none)))))), (r2 0, .inl (cI, 40, .inl (fun _ => 0))), (r2 1, .inl (cI, 40, .inl (fun _ => 0))), (r2 2, .inl (cI, 40, .inl (fun _ => 0)))] H := hP
  have hD : va_D A [(h0, .inr (0, [.int (nI (zP x1)), .int (nI (zP x2)), .ref q1, .ref o0, .ref o1, .ref o2, .null, .null, .null])), (q1, .inl (cI, 3, .inl (fun _ => 0))), (o0, .inl (cII, 3, .inr (.inr (.inr (.inr (fun i => if i < 3 then some (r0 i) else none)))))), (r0 0, .inl (cI, 40, .inl (fun _ => 0))), (r0 1, .inl (cI, 40, .inl (fun _ => 0))), (r0 2, .inl (cI, 40, .inl (fun _ => 0))), (o1, .inl (cII, 3, .inr (.inr (.inr (.inr (fun i => if i < 3 then some (r1 i) else none)))))), (r1 0, .inl (cI, 40, .inl (fun _ => 0))), (r1 1, .inl (cI, 40, .inl (fun _ => 0))), (r1 2, .inl (cI, 40, .inl (fun _ => 0))), (o2, .inl (cII, 3, .inr (.inr (.inr (.inr (fun i => if i < 3 then some (r2 i) else none)))))), (r2 0, .inl (cI, 40, .inl (fun _ => 0))), (r2 1, .inl (cI, 40, .inl (fun _ => 0))), (r2 2, .inl (cI, 40, .inl (fun _ => 0)))] := hD
  refine lv_aload_n hx hb dX0_init_60 rfl (lv_at hl 0 rfl) ?_
  refine lv_iconst (v := nI 3) hx hb dX0_init_61 (by decide) ?_
  refine lv_bipush (v := nI 40) hx hb dX0_init_62 (by decide) ?_
  refine zr_mna (ty := .long) (k := 40) (z := (40, .inr (.inl (fun _ => 0)))) hx hb hown (zcl (by decide) (hts (.classLink RX0 37 "[[J") (by decide +kernel))) hOl (hts (.arrayClass .long) (by decide +kernel)) hcJ hK hP hD hS hA (by decide) (Nat.le_of_ble_eq_true rfl) rfl rfl (Nat.le_of_ble_eq_true rfl) (Nat.le_of_ble_eq_true rfl) (fun c => by show ({ cls := c, slots := Array.replicate 40 (.long 0), vm := .none } : Cell) = _; rw [arrV_new]; rfl) dX0_init_64 (fun o3 r3 cA H hK9 hP hD hS => ?_)
  obtain ⟨cJJ, e9⟩ : ∃ x, x = cA := ⟨_, rfl⟩
  subst e9
  have hKlong := hK9
  have hP : va_P (dC, dI) vwCl [(h0, .inr (0, [.int (nI (zP x1)), .int (nI (zP x2)), .ref q1, .ref o0, .ref o1, .ref o2, .null, .null, .null])), (q1, .inl (cI, 3, .inl (fun _ => 0))), (o0, .inl (cII, 3, .inr (.inr (.inr (.inr (fun i => if i < 3 then some (r0 i) else none)))))), (r0 0, .inl (cI, 40, .inl (fun _ => 0))), (r0 1, .inl (cI, 40, .inl (fun _ => 0))), (r0 2, .inl (cI, 40, .inl (fun _ => 0))), (o1, .inl (cII, 3, .inr (.inr (.inr (.inr (fun i => if i < 3 then some (r1 i) else none)))))), (r1 0, .inl (cI, 40, .inl (fun _ => 0))), (r1 1, .inl (cI, 40, .inl (fun _ => 0))), (r1 2, .inl (cI, 40, .inl (fun _ => 0))), (o2, .inl (cII, 3, .inr (.inr (.inr (.inr (fun i => if i < 3 then some (r2 i) else none)))))), (r2 0, .inl (cI, 40, .inl (fun _ => 0))), (r2 1, .inl (cI, 40, .inl (fun _ => 0))), (r2 2, .inl (cI, 40, .inl (fun _ => 0))), (o3, .inl (cJJ, 3, .inr (.inr (.inr (.inr (fun i => if i < 3 then some (r3 i) else none)))))), (r3 0, .inl (cJ, 40, .inr (.inl (fun _ => 0)))), (r3 1, .inl (cJ, 40, .inr (.inl (fun _ => 0)))), (r3 2, .inl (cJ, 40, .inr (.inl (fun _ => 0))))] H := hP
  have hD : va_D A [(h0, .inr (0, [.int (nI (zP x1)), .int (nI (zP x2)), .ref q1, .ref o0, .ref o1, .ref o2, .null, .null, .null])), (q1, .inl (cI, 3, .inl (fun _ => 0))), (o0, .inl (cII, 3, .inr (.inr (.inr (.inr (fun i => if i < 3 then some (r0 i) else none)))))), (r0 0, .inl (cI, 40, .inl (fun _ => 0))), (r0 1, .inl (cI, 40, .inl (fun _ => 0))), (r0 2, .inl (cI, 40, .inl (fun _ => 0))), (o1, .inl (cII, 3, .inr (.inr (.inr (.inr (fun i => if i < 3 then some (r1 i) else none)))))), (r1 0, .inl (cI, 40, .inl (fun _ => 0))), (r1 1, .inl (cI, 40, .inl (fun _ => 0))), (r1 2, .inl (cI, 40, .inl (fun _ => 0))), (o2, .inl (cII, 3, .inr (.inr (.inr (.inr (fun i => if i < 3 then some (r2 i) else none)))))), (r2 0, .inl (cI, 40, .inl (fun _ => 0))), (r2 1, .inl (cI, 40, .inl (fun _ => 0))), (r2 2, .inl (cI, 40, .inl (fun _ => 0))), (o3, .inl (cJJ, 3, .inr (.inr (.inr (.inr (fun i => if i < 3 then some (r3 i) else none)))))), (r3 0, .inl (cJ, 40, .inr (.inl (fun _ => 0)))), (r3 1, .inl (cJ, 40, .inr (.inl (fun _ => 0)))), (r3 2, .inl (cJ, 40, .inr (.inl (fun _ => 0))))] := hD
  refine W.widen (k := 17) (n := 495) (by omega) (by omega) ?_
  refine va_putF (D := (dC, dI)) (ci := 0) (v := .ref o3) (ty := .array (.array .long)) (C := RX0) (T := TX0) (N := 9) hx hb hts hin0 tyX0 tyX0_ok nmX0 hown hK hP hD hS 0 rfl rfl 6 (by decide) (hts (.fieldLink RX0 39 "DottedSiblings" "pasts" "[[J") (by decide +kernel)) (fun _ h9 => h9) rfl hin rfl (by decide +kernel) rfl rfl (Nat.le_of_ble_eq_true rfl) dX0_init_68 (fun H locs hP hD hS => ?_)
  have hP : va_P (dC, dI) vwCl [(h0, .inr (0, [.int (nI (zP x1)), .int (nI (zP x2)), .ref q1, .ref o0, .ref o1, .ref o2, .ref o3, .null, .null])), (q1, .inl (cI, 3, .inl (fun _ => 0))), (o0, .inl (cII, 3, .inr (.inr (.inr (.inr (fun i => if i < 3 then some (r0 i) else none)))))), (r0 0, .inl (cI, 40, .inl (fun _ => 0))), (r0 1, .inl (cI, 40, .inl (fun _ => 0))), (r0 2, .inl (cI, 40, .inl (fun _ => 0))), (o1, .inl (cII, 3, .inr (.inr (.inr (.inr (fun i => if i < 3 then some (r1 i) else none)))))), (r1 0, .inl (cI, 40, .inl (fun _ => 0))), (r1 1, .inl (cI, 40, .inl (fun _ => 0))), (r1 2, .inl (cI, 40, .inl (fun _ => 0))), (o2, .inl (cII, 3, .inr (.inr (.inr (.inr (fun i => if i < 3 then some (r2 i) else none)))))), (r2 0, .inl (cI, 40, .inl (fun _ => 0))), (r2 1, .inl (cI, 40, .inl (fun _ => 0))), (r2 2, .inl (cI, 40, .inl (fun _ => 0))), (o3, .inl (cJJ, 3, .inr (.inr (.inr (.inr (fun i => if i < 3 then some (r3 i) else none)))))), (r3 0, .inl (cJ, 40, .inr (.inl (fun _ => 0)))), (r3 1, .inl (cJ, 40, .inr (.inl (fun _ => 0)))), (r3 2, .inl (cJ, 40, .inr (.inl (fun _ => 0))))] H := hP
  have hD : va_D A [(h0, .inr (0, [.int (nI (zP x1)), .int (nI (zP x2)), .ref q1, .ref o0, .ref o1, .ref o2, .ref o3, .null, .null])), (q1, .inl (cI, 3, .inl (fun _ => 0))), (o0, .inl (cII, 3, .inr (.inr (.inr (.inr (fun i => if i < 3 then some (r0 i) else none)))))), (r0 0, .inl (cI, 40, .inl (fun _ => 0))), (r0 1, .inl (cI, 40, .inl (fun _ => 0))), (r0 2, .inl (cI, 40, .inl (fun _ => 0))), (o1, .inl (cII, 3, .inr (.inr (.inr (.inr (fun i => if i < 3 then some (r1 i) else none)))))), (r1 0, .inl (cI, 40, .inl (fun _ => 0))), (r1 1, .inl (cI, 40, .inl (fun _ => 0))), (r1 2, .inl (cI, 40, .inl (fun _ => 0))), (o2, .inl (cII, 3, .inr (.inr (.inr (.inr (fun i => if i < 3 then some (r2 i) else none)))))), (r2 0, .inl (cI, 40, .inl (fun _ => 0))), (r2 1, .inl (cI, 40, .inl (fun _ => 0))), (r2 2, .inl (cI, 40, .inl (fun _ => 0))), (o3, .inl (cJJ, 3, .inr (.inr (.inr (.inr (fun i => if i < 3 then some (r3 i) else none)))))), (r3 0, .inl (cJ, 40, .inr (.inl (fun _ => 0)))), (r3 1, .inl (cJ, 40, .inr (.inl (fun _ => 0)))), (r3 2, .inl (cJ, 40, .inr (.inl (fun _ => 0))))] := hD
  refine lv_aload_n hx hb dX0_init_71 rfl (lv_at hl 0 rfl) ?_
  refine lv_iconst (v := nI 3) hx hb dX0_init_72 (by decide) ?_
  refine lv_aload_n hx hb dX0_init_73 rfl (lv_at hl 0 rfl) ?_
  refine va_get (D := (dC, dI)) (ci := 0) (v := .int (nI (zP x1))) (C := RX0) (T := TX0) (N := 9) hx hb hts hin0 hown hK hP 0 rfl rfl 0 (by decide) (hts (.fieldLink RX0 15 "DottedSiblings" "servers" "I") (by decide +kernel)) (fun _ h9 => h9) rfl dX0_init_74 ?_
  refine zr_mna (ty := .long) (k := zP x1) (z := (zP x1, .inr (.inl (fun _ => 0)))) hx hb hown (zcl (by decide) (hts (.classLink RX0 37 "[[J") (by decide +kernel))) hOl (hts (.arrayClass .long) (by decide +kernel)) hcJ hK hP hD hS hA (by omega) (by show (zP x1) * 8 ≤ 536870912; omega) rfl rfl (Nat.le_of_ble_eq_true rfl) (by show 495 + (3 + 3 * (zP x1)) ≤ 525; omega) (fun c => by show ({ cls := c, slots := Array.replicate (zP x1) (.long 0), vm := .none } : Cell) = _; rw [arrV_new]; rfl) dX0_init_77 (fun o4 r4 cA H hK9 hP hD hS => ?_)
  have e9 := zK_a hKlong hK9
  subst e9
  have hP : va_P (dC, dI) vwCl [(h0, .inr (0, [.int (nI (zP x1)), .int (nI (zP x2)), .ref q1, .ref o0, .ref o1, .ref o2, .ref o3, .null, .null])), (q1, .inl (cI, 3, .inl (fun _ => 0))), (o0, .inl (cII, 3, .inr (.inr (.inr (.inr (fun i => if i < 3 then some (r0 i) else none)))))), (r0 0, .inl (cI, 40, .inl (fun _ => 0))), (r0 1, .inl (cI, 40, .inl (fun _ => 0))), (r0 2, .inl (cI, 40, .inl (fun _ => 0))), (o1, .inl (cII, 3, .inr (.inr (.inr (.inr (fun i => if i < 3 then some (r1 i) else none)))))), (r1 0, .inl (cI, 40, .inl (fun _ => 0))), (r1 1, .inl (cI, 40, .inl (fun _ => 0))), (r1 2, .inl (cI, 40, .inl (fun _ => 0))), (o2, .inl (cII, 3, .inr (.inr (.inr (.inr (fun i => if i < 3 then some (r2 i) else none)))))), (r2 0, .inl (cI, 40, .inl (fun _ => 0))), (r2 1, .inl (cI, 40, .inl (fun _ => 0))), (r2 2, .inl (cI, 40, .inl (fun _ => 0))), (o3, .inl (cJJ, 3, .inr (.inr (.inr (.inr (fun i => if i < 3 then some (r3 i) else none)))))), (r3 0, .inl (cJ, 40, .inr (.inl (fun _ => 0)))), (r3 1, .inl (cJ, 40, .inr (.inl (fun _ => 0)))), (r3 2, .inl (cJ, 40, .inr (.inl (fun _ => 0)))), (o4, .inl (cJJ, 3, .inr (.inr (.inr (.inr (fun i => if i < 3 then some (r4 i) else none)))))), (r4 0, .inl (cJ, zP x1, .inr (.inl (fun _ => 0)))), (r4 1, .inl (cJ, zP x1, .inr (.inl (fun _ => 0)))), (r4 2, .inl (cJ, zP x1, .inr (.inl (fun _ => 0))))] H := hP
  have hD : va_D A [(h0, .inr (0, [.int (nI (zP x1)), .int (nI (zP x2)), .ref q1, .ref o0, .ref o1, .ref o2, .ref o3, .null, .null])), (q1, .inl (cI, 3, .inl (fun _ => 0))), (o0, .inl (cII, 3, .inr (.inr (.inr (.inr (fun i => if i < 3 then some (r0 i) else none)))))), (r0 0, .inl (cI, 40, .inl (fun _ => 0))), (r0 1, .inl (cI, 40, .inl (fun _ => 0))), (r0 2, .inl (cI, 40, .inl (fun _ => 0))), (o1, .inl (cII, 3, .inr (.inr (.inr (.inr (fun i => if i < 3 then some (r1 i) else none)))))), (r1 0, .inl (cI, 40, .inl (fun _ => 0))), (r1 1, .inl (cI, 40, .inl (fun _ => 0))), (r1 2, .inl (cI, 40, .inl (fun _ => 0))), (o2, .inl (cII, 3, .inr (.inr (.inr (.inr (fun i => if i < 3 then some (r2 i) else none)))))), (r2 0, .inl (cI, 40, .inl (fun _ => 0))), (r2 1, .inl (cI, 40, .inl (fun _ => 0))), (r2 2, .inl (cI, 40, .inl (fun _ => 0))), (o3, .inl (cJJ, 3, .inr (.inr (.inr (.inr (fun i => if i < 3 then some (r3 i) else none)))))), (r3 0, .inl (cJ, 40, .inr (.inl (fun _ => 0)))), (r3 1, .inl (cJ, 40, .inr (.inl (fun _ => 0)))), (r3 2, .inl (cJ, 40, .inr (.inl (fun _ => 0)))), (o4, .inl (cJJ, 3, .inr (.inr (.inr (.inr (fun i => if i < 3 then some (r4 i) else none)))))), (r4 0, .inl (cJ, zP x1, .inr (.inl (fun _ => 0)))), (r4 1, .inl (cJ, zP x1, .inr (.inl (fun _ => 0)))), (r4 2, .inl (cJ, zP x1, .inr (.inl (fun _ => 0))))] := hD
  refine W.widen (k := 21) (n := 510) (by omega) (by omega) ?_
  refine va_putF (D := (dC, dI)) (ci := 0) (v := .ref o4) (ty := .array (.array .long)) (C := RX0) (T := TX0) (N := 9) hx hb hts hin0 tyX0 tyX0_ok nmX0 hown hK hP hD hS 0 rfl rfl 7 (by decide) (hts (.fieldLink RX0 42 "DottedSiblings" "knownSets" "[[J") (by decide +kernel)) (fun _ h9 => h9) rfl hin rfl (by decide +kernel) rfl rfl (Nat.le_of_ble_eq_true rfl) dX0_init_81 (fun H locs hP hD hS => ?_)
  have hP : va_P (dC, dI) vwCl [(h0, .inr (0, [.int (nI (zP x1)), .int (nI (zP x2)), .ref q1, .ref o0, .ref o1, .ref o2, .ref o3, .ref o4, .null])), (q1, .inl (cI, 3, .inl (fun _ => 0))), (o0, .inl (cII, 3, .inr (.inr (.inr (.inr (fun i => if i < 3 then some (r0 i) else none)))))), (r0 0, .inl (cI, 40, .inl (fun _ => 0))), (r0 1, .inl (cI, 40, .inl (fun _ => 0))), (r0 2, .inl (cI, 40, .inl (fun _ => 0))), (o1, .inl (cII, 3, .inr (.inr (.inr (.inr (fun i => if i < 3 then some (r1 i) else none)))))), (r1 0, .inl (cI, 40, .inl (fun _ => 0))), (r1 1, .inl (cI, 40, .inl (fun _ => 0))), (r1 2, .inl (cI, 40, .inl (fun _ => 0))), (o2, .inl (cII, 3, .inr (.inr (.inr (.inr (fun i => if i < 3 then some (r2 i) else none)))))), (r2 0, .inl (cI, 40, .inl (fun _ => 0))), (r2 1, .inl (cI, 40, .inl (fun _ => 0))), (r2 2, .inl (cI, 40, .inl (fun _ => 0))), (o3, .inl (cJJ, 3, .inr (.inr (.inr (.inr (fun i => if i < 3 then some (r3 i) else none)))))), (r3 0, .inl (cJ, 40, .inr (.inl (fun _ => 0)))), (r3 1, .inl (cJ, 40, .inr (.inl (fun _ => 0)))), (r3 2, .inl (cJ, 40, .inr (.inl (fun _ => 0)))), (o4, .inl (cJJ, 3, .inr (.inr (.inr (.inr (fun i => if i < 3 then some (r4 i) else none)))))), (r4 0, .inl (cJ, zP x1, .inr (.inl (fun _ => 0)))), (r4 1, .inl (cJ, zP x1, .inr (.inl (fun _ => 0)))), (r4 2, .inl (cJ, zP x1, .inr (.inl (fun _ => 0))))] H := hP
  have hD : va_D A [(h0, .inr (0, [.int (nI (zP x1)), .int (nI (zP x2)), .ref q1, .ref o0, .ref o1, .ref o2, .ref o3, .ref o4, .null])), (q1, .inl (cI, 3, .inl (fun _ => 0))), (o0, .inl (cII, 3, .inr (.inr (.inr (.inr (fun i => if i < 3 then some (r0 i) else none)))))), (r0 0, .inl (cI, 40, .inl (fun _ => 0))), (r0 1, .inl (cI, 40, .inl (fun _ => 0))), (r0 2, .inl (cI, 40, .inl (fun _ => 0))), (o1, .inl (cII, 3, .inr (.inr (.inr (.inr (fun i => if i < 3 then some (r1 i) else none)))))), (r1 0, .inl (cI, 40, .inl (fun _ => 0))), (r1 1, .inl (cI, 40, .inl (fun _ => 0))), (r1 2, .inl (cI, 40, .inl (fun _ => 0))), (o2, .inl (cII, 3, .inr (.inr (.inr (.inr (fun i => if i < 3 then some (r2 i) else none)))))), (r2 0, .inl (cI, 40, .inl (fun _ => 0))), (r2 1, .inl (cI, 40, .inl (fun _ => 0))), (r2 2, .inl (cI, 40, .inl (fun _ => 0))), (o3, .inl (cJJ, 3, .inr (.inr (.inr (.inr (fun i => if i < 3 then some (r3 i) else none)))))), (r3 0, .inl (cJ, 40, .inr (.inl (fun _ => 0)))), (r3 1, .inl (cJ, 40, .inr (.inl (fun _ => 0)))), (r3 2, .inl (cJ, 40, .inr (.inl (fun _ => 0)))), (o4, .inl (cJJ, 3, .inr (.inr (.inr (.inr (fun i => if i < 3 then some (r4 i) else none)))))), (r4 0, .inl (cJ, zP x1, .inr (.inl (fun _ => 0)))), (r4 1, .inl (cJ, zP x1, .inr (.inl (fun _ => 0)))), (r4 2, .inl (cJ, zP x1, .inr (.inl (fun _ => 0))))] := hD
  refine lv_aload_n hx hb dX0_init_84 rfl (lv_at hl 0 rfl) ?_
  refine lv_iconst (v := nI 3) hx hb dX0_init_85 (by decide) ?_
  refine lv_aload_n hx hb dX0_init_86 rfl (lv_at hl 0 rfl) ?_
  refine va_get (D := (dC, dI)) (ci := 0) (v := .int (nI (zP x2))) (C := RX0) (T := TX0) (N := 9) hx hb hts hin0 hown hK hP 0 rfl rfl 1 (by decide) (hts (.fieldLink RX0 19 "DottedSiblings" "clients" "I") (by decide +kernel)) (fun _ h9 => h9) rfl dX0_init_87 ?_
  refine zr_mna (ty := .long) (k := zP x2) (z := (zP x2, .inr (.inl (fun _ => 0)))) hx hb hown (zcl (by decide) (hts (.classLink RX0 37 "[[J") (by decide +kernel))) hOl (hts (.arrayClass .long) (by decide +kernel)) hcJ hK hP hD hS hA (by omega) (by show (zP x2) * 8 ≤ 536870912; omega) rfl rfl (Nat.le_of_ble_eq_true rfl) (by show 510 + (3 + 3 * (zP x2)) ≤ 525; omega) (fun c => by show ({ cls := c, slots := Array.replicate (zP x2) (.long 0), vm := .none } : Cell) = _; rw [arrV_new]; rfl) dX0_init_90 (fun o5 r5 cA H hK9 hP hD hS => ?_)
  have e9 := zK_a hKlong hK9
  subst e9
  have hP : va_P (dC, dI) vwCl [(h0, .inr (0, [.int (nI (zP x1)), .int (nI (zP x2)), .ref q1, .ref o0, .ref o1, .ref o2, .ref o3, .ref o4, .null])), (q1, .inl (cI, 3, .inl (fun _ => 0))), (o0, .inl (cII, 3, .inr (.inr (.inr (.inr (fun i => if i < 3 then some (r0 i) else none)))))), (r0 0, .inl (cI, 40, .inl (fun _ => 0))), (r0 1, .inl (cI, 40, .inl (fun _ => 0))), (r0 2, .inl (cI, 40, .inl (fun _ => 0))), (o1, .inl (cII, 3, .inr (.inr (.inr (.inr (fun i => if i < 3 then some (r1 i) else none)))))), (r1 0, .inl (cI, 40, .inl (fun _ => 0))), (r1 1, .inl (cI, 40, .inl (fun _ => 0))), (r1 2, .inl (cI, 40, .inl (fun _ => 0))), (o2, .inl (cII, 3, .inr (.inr (.inr (.inr (fun i => if i < 3 then some (r2 i) else none)))))), (r2 0, .inl (cI, 40, .inl (fun _ => 0))), (r2 1, .inl (cI, 40, .inl (fun _ => 0))), (r2 2, .inl (cI, 40, .inl (fun _ => 0))), (o3, .inl (cJJ, 3, .inr (.inr (.inr (.inr (fun i => if i < 3 then some (r3 i) else none)))))), (r3 0, .inl (cJ, 40, .inr (.inl (fun _ => 0)))), (r3 1, .inl (cJ, 40, .inr (.inl (fun _ => 0)))), (r3 2, .inl (cJ, 40, .inr (.inl (fun _ => 0)))), (o4, .inl (cJJ, 3, .inr (.inr (.inr (.inr (fun i => if i < 3 then some (r4 i) else none)))))), (r4 0, .inl (cJ, zP x1, .inr (.inl (fun _ => 0)))), (r4 1, .inl (cJ, zP x1, .inr (.inl (fun _ => 0)))), (r4 2, .inl (cJ, zP x1, .inr (.inl (fun _ => 0)))), (o5, .inl (cJJ, 3, .inr (.inr (.inr (.inr (fun i => if i < 3 then some (r5 i) else none)))))), (r5 0, .inl (cJ, zP x2, .inr (.inl (fun _ => 0)))), (r5 1, .inl (cJ, zP x2, .inr (.inl (fun _ => 0)))), (r5 2, .inl (cJ, zP x2, .inr (.inl (fun _ => 0))))] H := hP
  have hD : va_D A [(h0, .inr (0, [.int (nI (zP x1)), .int (nI (zP x2)), .ref q1, .ref o0, .ref o1, .ref o2, .ref o3, .ref o4, .null])), (q1, .inl (cI, 3, .inl (fun _ => 0))), (o0, .inl (cII, 3, .inr (.inr (.inr (.inr (fun i => if i < 3 then some (r0 i) else none)))))), (r0 0, .inl (cI, 40, .inl (fun _ => 0))), (r0 1, .inl (cI, 40, .inl (fun _ => 0))), (r0 2, .inl (cI, 40, .inl (fun _ => 0))), (o1, .inl (cII, 3, .inr (.inr (.inr (.inr (fun i => if i < 3 then some (r1 i) else none)))))), (r1 0, .inl (cI, 40, .inl (fun _ => 0))), (r1 1, .inl (cI, 40, .inl (fun _ => 0))), (r1 2, .inl (cI, 40, .inl (fun _ => 0))), (o2, .inl (cII, 3, .inr (.inr (.inr (.inr (fun i => if i < 3 then some (r2 i) else none)))))), (r2 0, .inl (cI, 40, .inl (fun _ => 0))), (r2 1, .inl (cI, 40, .inl (fun _ => 0))), (r2 2, .inl (cI, 40, .inl (fun _ => 0))), (o3, .inl (cJJ, 3, .inr (.inr (.inr (.inr (fun i => if i < 3 then some (r3 i) else none)))))), (r3 0, .inl (cJ, 40, .inr (.inl (fun _ => 0)))), (r3 1, .inl (cJ, 40, .inr (.inl (fun _ => 0)))), (r3 2, .inl (cJ, 40, .inr (.inl (fun _ => 0)))), (o4, .inl (cJJ, 3, .inr (.inr (.inr (.inr (fun i => if i < 3 then some (r4 i) else none)))))), (r4 0, .inl (cJ, zP x1, .inr (.inl (fun _ => 0)))), (r4 1, .inl (cJ, zP x1, .inr (.inl (fun _ => 0)))), (r4 2, .inl (cJ, zP x1, .inr (.inl (fun _ => 0)))), (o5, .inl (cJJ, 3, .inr (.inr (.inr (.inr (fun i => if i < 3 then some (r5 i) else none)))))), (r5 0, .inl (cJ, zP x2, .inr (.inl (fun _ => 0)))), (r5 1, .inl (cJ, zP x2, .inr (.inl (fun _ => 0)))), (r5 2, .inl (cJ, zP x2, .inr (.inl (fun _ => 0))))] := hD
  refine W.widen (k := 25) (n := 525) (by omega) (by omega) ?_
  refine va_putF (D := (dC, dI)) (ci := 0) (v := .ref o5) (ty := .array (.array .long)) (C := RX0) (T := TX0) (N := 9) hx hb hts hin0 tyX0 tyX0_ok nmX0 hown hK hP hD hS 0 rfl rfl 8 (by decide) (hts (.fieldLink RX0 45 "DottedSiblings" "contextSets" "[[J") (by decide +kernel)) (fun _ h9 => h9) rfl hin rfl (by decide +kernel) rfl rfl (Nat.le_of_ble_eq_true rfl) dX0_init_94 (fun H locs hP hD hS => ?_)
  have hP : va_P (dC, dI) vwCl [(h0, .inr (0, [.int (nI (zP x1)), .int (nI (zP x2)), .ref q1, .ref o0, .ref o1, .ref o2, .ref o3, .ref o4, .ref o5])), (q1, .inl (cI, 3, .inl (fun _ => 0))), (o0, .inl (cII, 3, .inr (.inr (.inr (.inr (fun i => if i < 3 then some (r0 i) else none)))))), (r0 0, .inl (cI, 40, .inl (fun _ => 0))), (r0 1, .inl (cI, 40, .inl (fun _ => 0))), (r0 2, .inl (cI, 40, .inl (fun _ => 0))), (o1, .inl (cII, 3, .inr (.inr (.inr (.inr (fun i => if i < 3 then some (r1 i) else none)))))), (r1 0, .inl (cI, 40, .inl (fun _ => 0))), (r1 1, .inl (cI, 40, .inl (fun _ => 0))), (r1 2, .inl (cI, 40, .inl (fun _ => 0))), (o2, .inl (cII, 3, .inr (.inr (.inr (.inr (fun i => if i < 3 then some (r2 i) else none)))))), (r2 0, .inl (cI, 40, .inl (fun _ => 0))), (r2 1, .inl (cI, 40, .inl (fun _ => 0))), (r2 2, .inl (cI, 40, .inl (fun _ => 0))), (o3, .inl (cJJ, 3, .inr (.inr (.inr (.inr (fun i => if i < 3 then some (r3 i) else none)))))), (r3 0, .inl (cJ, 40, .inr (.inl (fun _ => 0)))), (r3 1, .inl (cJ, 40, .inr (.inl (fun _ => 0)))), (r3 2, .inl (cJ, 40, .inr (.inl (fun _ => 0)))), (o4, .inl (cJJ, 3, .inr (.inr (.inr (.inr (fun i => if i < 3 then some (r4 i) else none)))))), (r4 0, .inl (cJ, zP x1, .inr (.inl (fun _ => 0)))), (r4 1, .inl (cJ, zP x1, .inr (.inl (fun _ => 0)))), (r4 2, .inl (cJ, zP x1, .inr (.inl (fun _ => 0)))), (o5, .inl (cJJ, 3, .inr (.inr (.inr (.inr (fun i => if i < 3 then some (r5 i) else none)))))), (r5 0, .inl (cJ, zP x2, .inr (.inl (fun _ => 0)))), (r5 1, .inl (cJ, zP x2, .inr (.inl (fun _ => 0)))), (r5 2, .inl (cJ, zP x2, .inr (.inl (fun _ => 0))))] H := hP
  have hD : va_D A [(h0, .inr (0, [.int (nI (zP x1)), .int (nI (zP x2)), .ref q1, .ref o0, .ref o1, .ref o2, .ref o3, .ref o4, .ref o5])), (q1, .inl (cI, 3, .inl (fun _ => 0))), (o0, .inl (cII, 3, .inr (.inr (.inr (.inr (fun i => if i < 3 then some (r0 i) else none)))))), (r0 0, .inl (cI, 40, .inl (fun _ => 0))), (r0 1, .inl (cI, 40, .inl (fun _ => 0))), (r0 2, .inl (cI, 40, .inl (fun _ => 0))), (o1, .inl (cII, 3, .inr (.inr (.inr (.inr (fun i => if i < 3 then some (r1 i) else none)))))), (r1 0, .inl (cI, 40, .inl (fun _ => 0))), (r1 1, .inl (cI, 40, .inl (fun _ => 0))), (r1 2, .inl (cI, 40, .inl (fun _ => 0))), (o2, .inl (cII, 3, .inr (.inr (.inr (.inr (fun i => if i < 3 then some (r2 i) else none)))))), (r2 0, .inl (cI, 40, .inl (fun _ => 0))), (r2 1, .inl (cI, 40, .inl (fun _ => 0))), (r2 2, .inl (cI, 40, .inl (fun _ => 0))), (o3, .inl (cJJ, 3, .inr (.inr (.inr (.inr (fun i => if i < 3 then some (r3 i) else none)))))), (r3 0, .inl (cJ, 40, .inr (.inl (fun _ => 0)))), (r3 1, .inl (cJ, 40, .inr (.inl (fun _ => 0)))), (r3 2, .inl (cJ, 40, .inr (.inl (fun _ => 0)))), (o4, .inl (cJJ, 3, .inr (.inr (.inr (.inr (fun i => if i < 3 then some (r4 i) else none)))))), (r4 0, .inl (cJ, zP x1, .inr (.inl (fun _ => 0)))), (r4 1, .inl (cJ, zP x1, .inr (.inl (fun _ => 0)))), (r4 2, .inl (cJ, zP x1, .inr (.inl (fun _ => 0)))), (o5, .inl (cJJ, 3, .inr (.inr (.inr (.inr (fun i => if i < 3 then some (r5 i) else none)))))), (r5 0, .inl (cJ, zP x2, .inr (.inl (fun _ => 0)))), (r5 1, .inl (cJ, zP x2, .inr (.inl (fun _ => 0)))), (r5 2, .inl (cJ, zP x2, .inr (.inl (fun _ => 0))))] := hD
  obtain ⟨ad, had⟩ : ∃ ad : Nat → Nat, ad = fun i => match i with | 0 => h0 | 1 => q1 | 2 => o0 | 3 => o1 | 4 => o2 | 5 => o3 | 6 => o4 | 7 => o5 | 8 => r0 0 | 9 => r0 1 | 10 => r0 2 | 11 => r1 0 | 12 => r1 1 | 13 => r1 2 | 14 => r2 0 | 15 => r2 1 | 16 => r2 2 | 17 => r3 0 | 18 => r3 1 | 19 => r3 2 | 20 => r4 0 | 21 => r4 1 | 22 => r4 2 | 23 => r5 0 | 24 => r5 1 | _ => r5 2 := ⟨_, rfl⟩
  have hP := hP.sub (ws' := [(h0, .inr (0, [.int (nI (zP x1)), .int (nI (zP x2)), .ref q1, .ref o0, .ref o1, .ref o2, .ref o3, .ref o4, .ref o5])), (q1, .inl (cI, 3, .inl (fun _ => 0))), (o0, .inl (cII, 3, .inr (.inr (.inr (.inr (fun i => if i < 3 then some (r0 i) else none)))))), (o1, .inl (cII, 3, .inr (.inr (.inr (.inr (fun i => if i < 3 then some (r1 i) else none)))))), (o2, .inl (cII, 3, .inr (.inr (.inr (.inr (fun i => if i < 3 then some (r2 i) else none)))))), (o3, .inl (cJJ, 3, .inr (.inr (.inr (.inr (fun i => if i < 3 then some (r3 i) else none)))))), (o4, .inl (cJJ, 3, .inr (.inr (.inr (.inr (fun i => if i < 3 then some (r4 i) else none)))))), (o5, .inl (cJJ, 3, .inr (.inr (.inr (.inr (fun i => if i < 3 then some (r5 i) else none)))))), (r0 0, .inl (cI, 40, .inl (fun _ => 0))), (r0 1, .inl (cI, 40, .inl (fun _ => 0))), (r0 2, .inl (cI, 40, .inl (fun _ => 0))), (r1 0, .inl (cI, 40, .inl (fun _ => 0))), (r1 1, .inl (cI, 40, .inl (fun _ => 0))), (r1 2, .inl (cI, 40, .inl (fun _ => 0))), (r2 0, .inl (cI, 40, .inl (fun _ => 0))), (r2 1, .inl (cI, 40, .inl (fun _ => 0))), (r2 2, .inl (cI, 40, .inl (fun _ => 0))), (r3 0, .inl (cJ, 40, .inr (.inl (fun _ => 0)))), (r3 1, .inl (cJ, 40, .inr (.inl (fun _ => 0)))), (r3 2, .inl (cJ, 40, .inr (.inl (fun _ => 0)))), (r4 0, .inl (cJ, zP x1, .inr (.inl (fun _ => 0)))), (r4 1, .inl (cJ, zP x1, .inr (.inl (fun _ => 0)))), (r4 2, .inl (cJ, zP x1, .inr (.inl (fun _ => 0)))), (r5 0, .inl (cJ, zP x2, .inr (.inl (fun _ => 0)))), (r5 1, .inl (cJ, zP x2, .inr (.inl (fun _ => 0)))), (r5 2, .inl (cJ, zP x2, .inr (.inl (fun _ => 0))))]) [0, 1, 2, 6, 10, 14, 18, 22, 3, 4, 5, 7, 8, 9, 11, 12, 13, 15, 16, 17, 19, 20, 21, 23, 24, 25] rfl
  have hD := hD.sub (ws' := [(h0, .inr (0, [.int (nI (zP x1)), .int (nI (zP x2)), .ref q1, .ref o0, .ref o1, .ref o2, .ref o3, .ref o4, .ref o5])), (q1, .inl (cI, 3, .inl (fun _ => 0))), (o0, .inl (cII, 3, .inr (.inr (.inr (.inr (fun i => if i < 3 then some (r0 i) else none)))))), (o1, .inl (cII, 3, .inr (.inr (.inr (.inr (fun i => if i < 3 then some (r1 i) else none)))))), (o2, .inl (cII, 3, .inr (.inr (.inr (.inr (fun i => if i < 3 then some (r2 i) else none)))))), (o3, .inl (cJJ, 3, .inr (.inr (.inr (.inr (fun i => if i < 3 then some (r3 i) else none)))))), (o4, .inl (cJJ, 3, .inr (.inr (.inr (.inr (fun i => if i < 3 then some (r4 i) else none)))))), (o5, .inl (cJJ, 3, .inr (.inr (.inr (.inr (fun i => if i < 3 then some (r5 i) else none)))))), (r0 0, .inl (cI, 40, .inl (fun _ => 0))), (r0 1, .inl (cI, 40, .inl (fun _ => 0))), (r0 2, .inl (cI, 40, .inl (fun _ => 0))), (r1 0, .inl (cI, 40, .inl (fun _ => 0))), (r1 1, .inl (cI, 40, .inl (fun _ => 0))), (r1 2, .inl (cI, 40, .inl (fun _ => 0))), (r2 0, .inl (cI, 40, .inl (fun _ => 0))), (r2 1, .inl (cI, 40, .inl (fun _ => 0))), (r2 2, .inl (cI, 40, .inl (fun _ => 0))), (r3 0, .inl (cJ, 40, .inr (.inl (fun _ => 0)))), (r3 1, .inl (cJ, 40, .inr (.inl (fun _ => 0)))), (r3 2, .inl (cJ, 40, .inr (.inl (fun _ => 0)))), (r4 0, .inl (cJ, zP x1, .inr (.inl (fun _ => 0)))), (r4 1, .inl (cJ, zP x1, .inr (.inl (fun _ => 0)))), (r4 2, .inl (cJ, zP x1, .inr (.inl (fun _ => 0)))), (r5 0, .inl (cJ, zP x2, .inr (.inl (fun _ => 0)))), (r5 1, .inl (cJ, zP x2, .inr (.inl (fun _ => 0)))), (r5 2, .inl (cJ, zP x2, .inr (.inl (fun _ => 0))))]) [0, 1, 2, 6, 10, 14, 18, 22, 3, 4, 5, 7, 8, 9, 11, 12, 13, 15, 16, 17, 19, 20, 21, 23, 24, 25] (by decide) rfl
  rw [zo_of (ad := ad) (b := 8) (r := r0) (fun i hi => by subst had; exact match i, hi with | 0, _ => rfl | 1, _ => rfl | 2, _ => rfl)] at hP hD
  rw [zo_of (ad := ad) (b := 11) (r := r1) (fun i hi => by subst had; exact match i, hi with | 0, _ => rfl | 1, _ => rfl | 2, _ => rfl)] at hP hD
  rw [zo_of (ad := ad) (b := 14) (r := r2) (fun i hi => by subst had; exact match i, hi with | 0, _ => rfl | 1, _ => rfl | 2, _ => rfl)] at hP hD
  rw [zo_of (ad := ad) (b := 17) (r := r3) (fun i hi => by subst had; exact match i, hi with | 0, _ => rfl | 1, _ => rfl | 2, _ => rfl)] at hP hD
  rw [zo_of (ad := ad) (b := 20) (r := r4) (fun i hi => by subst had; exact match i, hi with | 0, _ => rfl | 1, _ => rfl | 2, _ => rfl)] at hP hD
  rw [zo_of (ad := ad) (b := 23) (r := r5) (fun i hi => by subst had; exact match i, hi with | 0, _ => rfl | 1, _ => rfl | 2, _ => rfl)] at hP hD
  have hK9 := (hKint.app hKlong).sub (tys' := zT cI cJ cII cJJ) [0, 1, 2, 5] rfl
  exact W.vret hx hb hr (fun t ht hW => ⟨⟨(), rfl, trivial, ad, cI, cJ, cII, cJJ, by subst had; rfl, by rw [ht]; subst had; exact hP, va_K.moved hW.alike hK9, by subst had; exact hD⟩, hS.F ht⟩) hS.2.2 dX0_init_97
end
section
set_option maxHeartbeats 8000000 in
set_option maxRecDepth 100000 in
/-- THE LAW, from its entry -/
theorem whole_start {p : Program} {e : Env} {s : State} {m : MethodId} {below : List Frame} {meth : Method} {c : Code} (l : Launch) {b L : Nat} {xs : Nat → Int32} (hL : L ≤ 2562) (C0 : lw_At p s m meth c b L xs) : W p l e room_1 s m #[Value.ref b] below meth c s.heap [] 0 0 (lw_Z below #[Value.ref b] s) (entryFrame m ([Value.ref b] : List Value).toArray 4) := by
  obtain ⟨hx, hb, hr, hml, hown, hts0, hX, hbl, hlocks, hgv⟩ := id C0
  have hts : ∀ w ∈ wsL_law, w.before #[Value.ref b] s = true := fun w h => hts0 w (wsL_law_in w h)
  have hA : ∀ q : Nat, s.heap.size ≤ q → (fun q : Nat => s.heap.size ≤ q) q := fun _ h => h
  have hbA : ¬ (fun q : Nat => s.heap.size ≤ q) b := Nat.not_le.mpr hbl
  have hOi : va_AOA .int s := hts0 (.arrayOver (.array .int)) (by decide +kernel)
  have hOl : va_AOA .long s := hts0 (.arrayOver (.array .long)) (by decide +kernel)
  obtain ⟨c0, iS0, hKn0⟩ := u_known (C := RX0) (T := TX0) (N := 9) (n := 9) hts inlX0 (hts (.instantiable RX0 9) (by decide +kernel))
  obtain ⟨c1, iS1, hKn1⟩ := u_known (C := RX1) (T := TX1) (N := 10) (n := 10) hts inlX1 (hts (.instantiable RX1 10) (by decide +kernel))
  obtain ⟨dC, dI, hKc⟩ : ∃ (dC : Nat → ClassId) (dI : Nat → Nat → Nat), ∀ (k : Nat) (q : vw_C), vwCl[k]? = some q → u_Kn s q.1 q.2.1 q.2.2 (dC k) (dI k) := by
    refine ⟨fun k => if k = 0 then c0 else c1, fun k => if k = 0 then iS0 else iS1, ?_⟩
    intro k q hq
    match k, hq with
    | 0, hq => cases hq; exact hKn0
    | 1, hq => cases hq; exact hKn1
    | k + 2, hq => simp [vwCl] at hq
  have hS : va_S (fun q : Nat => s.heap.size ≤ q) s.heap s.heap [] := va_S.rf
  have hK : va_K (dC, dI) vwCl [] s := ⟨hKc, fun k q h => by simp at h⟩
  have hP : va_P (dC, dI) vwCl [] s.heap := fun k q h => by simp at h
  have hD : va_D (fun q : Nat => s.heap.size ≤ q) [] := ⟨fun i j p q h => by simp at h, fun k q h => by simp at h⟩
  have hl := lv_entry ([.ref b]) (n := 4) (Nat.le_of_ble_eq_true rfl)
  rw [lg_entry_eq]
  generalize (lg_sl ([.ref b]) ++ List.replicate (4 - (lg_sl ([.ref b])).length) Slot.unset).toArray = ls at hl ⊢
  have hl : lv_has ls 4 [(0, .ref b)] := hl
  refine va_new (ci := 0) (fs := [.int 0, .int 0, .null, .null, .null, .null, .null, .null, .null]) (C := RX0) (T := TX0) (N := 9) hx hb hts inlX0 tyX0 tyX0_ok hown (hts (.classLink RL 7 RX0) (by decide +kernel)) (hts (.instantiable RX0 9) (by decide +kernel)) (hts (.initialized RX0) (by decide +kernel)) hK hP hD hS hA rfl (fun j hj => by rcases (show j = 0 ∨ j = 1 ∨ j = 2 ∨ j = 3 ∨ j = 4 ∨ j = 5 ∨ j = 6 ∨ j = 7 ∨ j = 8 by omega) with rfl | rfl | rfl | rfl | rfl | rfl | rfl | rfl | rfl <;> rfl) (Nat.le_of_ble_eq_true rfl) (Nat.le_of_ble_eq_true rfl) dL_law_0 (fun qx H hP hD hS => ?_)
  have hP : va_P (dC, dI) vwCl [(qx, .inr (0, [.int 0, .int 0, .null, .null, .null, .null, .null, .null, .null]))] H := hP
  have hD : va_D (fun q : Nat => s.heap.size ≤ q) [(qx, .inr (0, [.int 0, .int 0, .null, .null, .null, .null, .null, .null, .null]))] := hD
  refine W.widen (k := 1) (n := 9) (by omega) (by omega) ?_
  refine lv_dup hx hb dL_law_3 rfl ?_
  refine lv_aload_n hx hb dL_law_4 rfl (lv_at hl 0 rfl) ?_
  refine lv_iconst (v := nI 0) hx hb dL_law_5 (by decide) ?_
  refine vp_callSi (W.runS (As := [.ref b, .int (nI 0)]) (rest := [.ref qx, .ref qx]) ⟨hx, hb, hml, hown, hts⟩ (c_L_cell l b L 0 xs (by omega) (by decide)) (va_cwS 2 hts gL_law_L_cell rfl rfl rfl (by decide +kernel) ⟨Nat.le_of_ble_eq_true rfl, Nat.le_of_ble_eq_true rfl⟩) ⟨zX_blind, fun U hU hW => ⟨rfl, by show va_X b L xs U U.heap; rw [hU]; exact va_X.moved hW.alike (hX.kept (hS.2.1 b hbl hbA))⟩⟩ rfl rfl hl.1 rfl (lv_room (Nat.le_of_ble_eq_true rfl)) dL_law_6 ⟨Nat.le_of_ble_eq_true rfl, Nat.le_of_ble_eq_true rfl⟩) (fun y0 hy0 => ?_)
  refine lv_aload_n hx hb dL_law_9 rfl (lv_at hl 0 rfl) ?_
  refine lv_iconst (v := nI 1) hx hb dL_law_10 (by decide) ?_
  refine vp_callSi (W.runS (As := [.ref b, .int (nI 1)]) (rest := [.int y0, .ref qx, .ref qx]) ⟨hx, hb, hml, hown, hts⟩ (c_L_cell l b L 1 xs (by omega) (by decide)) (va_cwS 2 hts gL_law_L_cell rfl rfl rfl (by decide +kernel) ⟨Nat.le_of_ble_eq_true rfl, Nat.le_of_ble_eq_true rfl⟩) ⟨zX_blind, fun U hU hW => ⟨rfl, by show va_X b L xs U U.heap; rw [hU]; exact va_X.moved hW.alike (hX.kept (hS.2.1 b hbl hbA))⟩⟩ rfl rfl hl.1 rfl (lv_room (Nat.le_of_ble_eq_true rfl)) dL_law_11 ⟨Nat.le_of_ble_eq_true rfl, Nat.le_of_ble_eq_true rfl⟩) (fun y1 hy1 => ?_)
  have hFc := zfree (w := [(qx, .inr (0, [.int 0, .int 0, .null, .null, .null, .null, .null, .null, .null]))]) hD hS hA
  refine va_callv (va_runI (As := [.int y0, .int y1]) (rest := [.ref qx]) ⟨hx, hb, hml, hown, hts⟩ (c_X0_init l dC dI qx H.size y0 y1) (cwI 2 hts gL_law_X0_init rfl rfl rfl (hts (.initialized RX0) (by decide +kernel)) (hts (.methodLink RL 15 yX0_init) (by decide +kernel)) (hts (.instanceMethod yX0_init) (by decide +kernel)) rfl (by decide +kernel) ⟨Nat.le_of_ble_eq_true rfl, Nat.le_of_ble_eq_true rfl⟩) ⟨fun a U g k q => by obtain ⟨q0, q1, qP, qK, qD, qO1, qO2⟩ := q; exact ⟨q0, q1, qP, va_K.moved (u := U) (U := U.calling g k a) (Vm.Alike.refl U.vm) qK, qD, va_AOA.moved (u := U) (U := U.calling g k a) (Vm.Alike.refl U.vm) qO1, va_AOA.moved (u := U) (U := U.calling g k a) (Vm.Alike.refl U.vm) qO2⟩, fun U hU hW => ⟨rfl, by rw [hU], by rw [hU]; exact hP, va_K.moved hW.alike hK, hD.weaken (fun _ _ _ _ => trivial), va_AOA.moved hW.alike hOi, va_AOA.moved hW.alike hOl⟩⟩ rfl rfl hl.1 rfl (lv_room (Nat.le_of_ble_eq_true rfl)) dL_law_14 ⟨Nat.le_of_ble_eq_true rfl, Nat.le_of_ble_eq_true rfl⟩) hS (fun q _ h => hFc q h) hFc (fun u t H1 locs ht hvm hw hB hz1 hk1 hS => ?_)
  obtain ⟨ax, cI, cJ, cII, cJJ, hax, hP1, hK1, hD1⟩ := hB
  rw [ht] at hP1
  have hKx := va_K.moved hvm.symm hK1
  have hD3 := hD1.weaken (B := fun q : Nat => s.heap.size ≤ q) (fun k q _ h => hFc q.1 h)
  clear hP hD hk1 hFc hD1 hK1
  subst hax
  generalize H1 = H at hP1 hS ⊢
  refine W.widen (k := 26) (n := 534) (Nat.le_of_ble_eq_true rfl) (Nat.le_of_ble_eq_true rfl) ?_
  refine lv_astore_n (lv' := [(1, .ref (ax 0)), (0, .ref b)]) hx hb dL_law_17 rfl hl (by decide) rfl (fun ls hl => ?_)
  refine va_new (ci := 1) (fs := [.int 0, .int 0, .null, .null, .null, .null, .null, .null, .null, .null]) (C := RX1) (T := TX1) (N := 10) hx hb hts inlX1 tyX1 tyX1_ok hown (hts (.classLink RL 18 RX1) (by decide +kernel)) (hts (.instantiable RX1 10) (by decide +kernel)) (hts (.initialized RX1) (by decide +kernel)) hK hP1 hD3 hS hA rfl (fun j hj => by rcases (show j = 0 ∨ j = 1 ∨ j = 2 ∨ j = 3 ∨ j = 4 ∨ j = 5 ∨ j = 6 ∨ j = 7 ∨ j = 8 ∨ j = 9 by omega) with rfl | rfl | rfl | rfl | rfl | rfl | rfl | rfl | rfl | rfl <;> rfl) (Nat.le_of_ble_eq_true rfl) (Nat.le_of_ble_eq_true rfl) dL_law_18 (fun qm H hP hD hS => ?_)
  refine W.widen (k := 27) (n := 544) (by omega) (by omega) ?_
  refine lv_dup hx hb dL_law_21 rfl ?_
  refine lv_aload_n hx hb dL_law_22 rfl (lv_at hl 1 rfl) ?_
  refine lv_iconst (v := nI 0) hx hb dL_law_23 (by decide) ?_
  refine vp_callSi (W.runS (As := [.ref b, .int (nI 0)]) (rest := [.ref qm, .ref qm]) ⟨hx, hb, hml, hown, hts⟩ (c_L_cell l b L 0 xs (by omega) (by decide)) (va_cwS 2 hts gL_law_L_cell rfl rfl rfl (by decide +kernel) ⟨Nat.le_of_ble_eq_true rfl, Nat.le_of_ble_eq_true rfl⟩) ⟨zX_blind, fun U hU hW => ⟨rfl, by show va_X b L xs U U.heap; rw [hU]; exact va_X.moved hW.alike (hX.kept (hS.2.1 b hbl hbA))⟩⟩ rfl rfl hl.1 rfl (lv_room (Nat.le_of_ble_eq_true rfl)) dL_law_24 ⟨Nat.le_of_ble_eq_true rfl, Nat.le_of_ble_eq_true rfl⟩) (fun z0 hz0 => ?_)
  have hz0 := hz0.trans hy0.symm
  subst hz0
  refine lv_aload_n hx hb dL_law_27 rfl (lv_at hl 1 rfl) ?_
  refine lv_iconst (v := nI 1) hx hb dL_law_28 (by decide) ?_
  refine vp_callSi (W.runS (As := [.ref b, .int (nI 1)]) (rest := [.int z0, .ref qm, .ref qm]) ⟨hx, hb, hml, hown, hts⟩ (c_L_cell l b L 1 xs (by omega) (by decide)) (va_cwS 2 hts gL_law_L_cell rfl rfl rfl (by decide +kernel) ⟨Nat.le_of_ble_eq_true rfl, Nat.le_of_ble_eq_true rfl⟩) ⟨zX_blind, fun U hU hW => ⟨rfl, by show va_X b L xs U U.heap; rw [hU]; exact va_X.moved hW.alike (hX.kept (hS.2.1 b hbl hbA))⟩⟩ rfl rfl hl.1 rfl (lv_room (Nat.le_of_ble_eq_true rfl)) dL_law_29 ⟨Nat.le_of_ble_eq_true rfl, Nat.le_of_ble_eq_true rfl⟩) (fun z1 hz1 => ?_)
  have hz1 := hz1.trans hy1.symm
  subst hz1
  have hFc := zfree (w := [(qm, .inr (1, [.int 0, .int 0, .null, .null, .null, .null, .null, .null, .null, .null]))]) (zD_r hD) hS hA
  refine va_callv (va_runI (As := [.int z0, .int z1]) (rest := [.ref qm]) ⟨hx, hb, hml, hown, hts⟩ (c_X1_init l dC dI qm H.size z0 z1) (cwI 2 hts gL_law_X1_init rfl rfl rfl (hts (.initialized RX1) (by decide +kernel)) (hts (.methodLink RL 20 yX1_init) (by decide +kernel)) (hts (.instanceMethod yX1_init) (by decide +kernel)) rfl (by decide +kernel) ⟨Nat.le_of_ble_eq_true rfl, Nat.le_of_ble_eq_true rfl⟩) ⟨fun a U g k q => by obtain ⟨q0, q1, qP, qK, qD⟩ := q; exact ⟨q0, q1, qP, va_K.moved (u := U) (U := U.calling g k a) (Vm.Alike.refl U.vm) qK, qD⟩, fun U hU hW => ⟨rfl, by rw [hU], by rw [hU]; exact zP_r hP, va_K.moved hW.alike hK, (zD_r hD).weaken (fun _ _ _ _ => trivial)⟩⟩ rfl rfl hl.1 rfl (lv_room (Nat.le_of_ble_eq_true rfl)) dL_law_32 ⟨Nat.le_of_ble_eq_true rfl, Nat.le_of_ble_eq_true rfl⟩) hS (fun q _ h => hFc q h) hFc (fun u t H1 locs ht hvm hw hB hz1 hk1 hS => ?_)
  obtain ⟨am, eI, eJ, ham, hP2, hK2, hD2⟩ := hB
  rw [ht] at hP2
  have hKm := va_K.moved hvm.symm hK2
  obtain ⟨hP4, hD4⟩ := zjoinR hP hD hk1 hFc hP2 hD2
  clear hP hD hk1 hFc hP2 hD2 hK2
  subst ham
  generalize H1 = H at hP4 hS ⊢
  refine W.widen (k := 600000) (n := 7302250) (Nat.le_of_ble_eq_true rfl) (Nat.le_of_ble_eq_true rfl) ?_
  refine lv_astore_n (lv' := [(2, .ref (am 0)), (1, .ref (ax 0)), (0, .ref b)]) hx hb dL_law_35 rfl hl (by decide) rfl (fun ls hl => ?_)
  refine lv_iconst (v := nI 2) hx hb dL_law_36 (by decide) ?_
  refine lv_istore_n (lv' := [(3, .int (nI 2)), (2, .ref (am 0)), (1, .ref (ax 0)), (0, .ref b)]) hx hb dL_law_37 rfl hl (by decide) rfl (fun ls hl => ?_)
  exact law_loop hL C0 hKx hKm (L + 6) 2 (by omega) (by omega) _ _ _ _ _ _ _ _ (zG_0 (zP_in _) (zP_in _)) zR_0 _ _ hP4 hD4 hS ls (lv_sub hl [3, 2, 1, 0] rfl)
end
section
-- ===== YOUR PART ENDS =====
set_option maxHeartbeats 4000000 in
theorem lw_walk (l : Launch) (b : Addr) (xs : List Int32) : MetFree l x (headSpec (Jvm.Cond.code x code maxLocals ret :: tables_1) room_1) (lw_P b xs) (fun _ _ _ _ _ => True) lw_Q := by
  refine MetFree.of_bodyS (code := code) (maxLocals := maxLocals) (ret := ret) (by decide) ?_ ?_
  · intro args s m h hn
    obtain ⟨meth, c, h1, h2, h3, h4, h5, h6, -, -⟩ := Cond.code_spec hn (atoms_spec (ws := Jvm.Cond.code x code maxLocals ret :: tables_1) h _ List.mem_cons_self)
    exact ⟨meth, c, h1, h2, h3, h4, h5, h6⟩
  · intro p e s m args below meth c s₁ B hml0 hP _
    obtain ⟨rfl, hx, hbd, hgv⟩ := hP
    obtain ⟨scr, harrAt, hlist, hof, hsmall⟩ := hx
    obtain ⟨hcb, hkn, -, -⟩ := State.arrayAt?_spec harrAt
    have hown : s.vm.findClass R_law = some m.cls := findClass_of_methodNamed B.named
    have hts0 : ∀ c ∈ (Jvm.Cond.code x code maxLocals ret :: tables_1), c.before #[Value.ref b] s = true := atoms_spec (ws := Jvm.Cond.code x code maxLocals ret :: tables_1) B.pre
    have hts : ∀ w ∈ lw_tbl, w.before #[Value.ref b] s = true := k2_hts_sels lw_privs (fun w hw => hts0 w (List.mem_cons_of_mem _ hw)) lw_privs_ok
    have hml : c.maxLocals = 4 := B.maxLocals_eq (hts0 _ List.mem_cons_self)
    have X₀ : Stand p l e room_1 s m #[Value.ref b] below meth c s₁ [] 0 0 := Stand.of_body B
    have hh0 : s₁.heap = s.heap := by rw [B.state]; rfl
    have hsz : scr.slots.size = xs.length := by rw [← Array.length_toList, hlist, List.length_map]
    have hval : ∀ j : Nat, j < xs.length → scr.slots[j]? = some (.int (xs.getD j 0)) := fun j hj => by
      rw [← Array.getElem?_toList, hlist]
      simp [hj]
    have hbl : b < s.heap.size := (Array.getElem?_eq_some_iff.mp hcb).1
    have hX : va_X b xs.length (fun j => xs.getD j 0) s s.heap := ⟨scr, hcb, hof, hkn, hsz, hval⟩
    have K : W p l e room_1 s m #[Value.ref b] below meth c s₁.heap [] 0 0 (lw_Z below #[Value.ref b] s) (entryFrame m ([Value.ref b] : List Value).toArray 4) := by
      rw [hh0]
      exact whole_start l hbd ⟨B.exec, B.bytes, B.returns, hml, hown, hts, hX, hbl, B.notSynchronized, hgv⟩
    obtain ⟨t, a1, o, b1, b2, b3⟩ := K s₁ rfl X₀
    exact ⟨t, o, a1, b1, b2, b3⟩
theorem lw_pre_spec {args : Array Value} {s : State} (h : (Jvm.Cond.and given_1 narrow_1).before args s = true) (hr : rest_1_c.before args s = true) : ∃ (b : Addr) (xs : List Int32), lw_P b xs args s := by
  have hs := flat_of_before _ h
  have hq := flat_of_before _ hr
  have hc : (Cond.count 1).before args s = true := hs _ (by decide +kernel)
  have harr : (Cond.arrayOf (.arg 0) .int).before args s = true := hs _ (by decide +kernel)
  have hle : (Cond.le (.length (.arg 0)) (.int 2562)).before args s = true := hs _ (by decide +kernel)
  have hlen : (Cond.isInt (.length (.arg 0))).before args s = true := hq _ (by decide +kernel)
  have hall : (Cond.all (.arg 0) (.isInt (.elem (.arg 0) (.index 0)))).before args s = true := hq _ (by decide +kernel)
  obtain ⟨b, xs, hb, hx⟩ := State.ints_of_pre rfl harr hlen hall
  have hsm : xs.length < 2 ^ 31 := hx.choose_spec.2.2.2
  have hev : (Term.length (.arg 0)).eval args s none [] s = some (.int xs.length.toInt32) := hx.length_eval hb
  have hv := Cond.le_ints hev (show (Term.int 2562).eval args s none [] s = some (.int 2562) from rfl)
  have hd : xs.length.toInt32 ≤ 2562 := by
    simpa [Cond.before, Cond.holds, hv] using hle
  have hN : xs.length ≤ 2562 := (Int32.ofNat_le_ofNat hsm (by decide)).mp (show Int32.ofNat xs.length ≤ Int32.ofNat 2562 from hd)
  exact ⟨b, xs, Cond.one_arg hc (show args[0]? = some (.ref b) from hb), hx, hN, h⟩
theorem lw_comes (l : Launch) : Comes l x (Jvm.Cond.code x code maxLocals ret :: tables_1) room_1 (fun tb e args s => Calls_1 tb e args s ∧ rest_1 tb e args s ∧ Pre_1 tb e args s)
    (fun _ _ args s o t => lw_Q args s o t) := by
  intro p e ha hc hk s m args below hf hfit hheap happ hpre
  obtain ⟨b, xs, hP⟩ := lw_pre_spec hpre.2.2 hpre.2.1
  obtain ⟨k, o, h1, h2, h3, hQ⟩ := lw_walk l b xs p e ha hc hk s m args below hf ((Spec.applies_iff_loose hf).mp happ).1 hP trivial
  exact ⟨k, o, h1, h2, h3, hQ⟩
theorem lw_frame {s t : State} {o : Outcome} {args : Array Value} (h : Framed s o t [] 600000 7302250) :
    Framed s o t (fieldLocs frame_1_writes args s ++ arrayLocs frame_1_arrays args s ++ staticLocs frame_1_statics s) 600000 7302250 := h
theorem lw_limb (L : Cond) (hL : ∀ (args : Array Value) (s t : State), L.after args s (.returned (some (.int 1))) t = true) :
    ArmFor flags0 classFile x code maxLocals ret World_1 tables_1 room_1 Calls_1 rest_1 Pre_1
      (fun tb e a s o t => postC L tb e a s o t ∧ Framed s o t (fieldLocs frame_1_writes a s ++ arrayLocs frame_1_arrays a s ++ staticLocs frame_1_statics s) 600000 7302250) := by
  intro l _ _ _ p e ha hc hk s m args below hf hfit hheap happ hpre
  obtain ⟨k, o, h1, h2, h3, rfl, hF⟩ := lw_comes l p e ha hc hk s m args below hf hfit hheap happ hpre
  exact ⟨k, _, h1, h2, h3, hL args s _, lw_frame hF⟩
theorem i_vc : Claimed_1_1 ∧ Claimed_1_2 := ⟨lw_limb limb_1_1 (fun args s t => by simp [limb_1_1, Cond.after, Cond.holds, Cond.value]), lw_limb limb_1_2 (fun args s t => Cond.after_iff.mpr (by
  first | (rw [show limb_1_2 = Cond.eq .result (.int 1) from rfl, Cond.eq_ints (x := 1) (y := 1) rfl rfl]; simp; done) | (simp [limb_1_2, Cond.value, Term.eval]; done)))⟩
end
