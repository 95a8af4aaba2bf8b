section
-- ===== PART A: goes FIRST, ahead of the names: the tables' words, and 'selects' of the private methods out of them =====
/-- a private method of a class that the tables say can be made, by its rows of tables_1 -/
def lw_okq (q : MethodName × Nat) : Prop := (q.1.cls ≠ "java/lang/invoke/MethodHandle" ∧ q.1.cls ≠ "java/lang/invoke/VarHandle") ∧ Cond.instantiable q.1.cls q.2 ∈ tables_1 ∧ Cond.privateMethod q.1 ∈ tables_1 ∧ Cond.instanceMethod q.1 ∈ tables_1
theorem lw_p0 : lw_okq (⟨"AskedRoutes", "areUnlike", "(II)Z"⟩, 10) := ⟨⟨by decide +kernel, by decide +kernel⟩, List.mem_of_getElem? (i := 18) (by decide +kernel), List.mem_of_getElem? (i := 449) (by decide +kernel), List.mem_of_getElem? (i := 450) (by decide +kernel)⟩
theorem lw_p1 : lw_okq (⟨"AskedRoutes", "isNode", "(I)Z"⟩, 10) := ⟨⟨by decide +kernel, by decide +kernel⟩, List.mem_of_getElem? (i := 18) (by decide +kernel), List.mem_of_getElem? (i := 453) (by decide +kernel), List.mem_of_getElem? (i := 454) (by decide +kernel)⟩
theorem lw_p2 : lw_okq (⟨"AskedRoutes", "refusalOfGuess", "(III)I"⟩, 10) := ⟨⟨by decide +kernel, by decide +kernel⟩, List.mem_of_getElem? (i := 18) (by decide +kernel), List.mem_of_getElem? (i := 570) (by decide +kernel), List.mem_of_getElem? (i := 571) (by decide +kernel)⟩
theorem lw_p3 : lw_okq (⟨"AskedRoutes", "hurtWithout", "(I)I"⟩, 10) := ⟨⟨by decide +kernel, by decide +kernel⟩, List.mem_of_getElem? (i := 18) (by decide +kernel), List.mem_of_getElem? (i := 641) (by decide +kernel), List.mem_of_getElem? (i := 642) (by decide +kernel)⟩
theorem lw_p4 : lw_okq (⟨"AskedRoutesModel", "blanks", "()V"⟩, 33) := ⟨⟨by decide +kernel, by decide +kernel⟩, List.mem_of_getElem? (i := 691) (by decide +kernel), List.mem_of_getElem? (i := 815) (by decide +kernel), List.mem_of_getElem? (i := 816) (by decide +kernel)⟩
theorem lw_p5 : lw_okq (⟨"AskedRoutesModel", "readsItem", "(I)Z"⟩, 33) := ⟨⟨by decide +kernel, by decide +kernel⟩, List.mem_of_getElem? (i := 691) (by decide +kernel), List.mem_of_getElem? (i := 819) (by decide +kernel), List.mem_of_getElem? (i := 820) (by decide +kernel)⟩
theorem lw_p6 : lw_okq (⟨"AskedRoutesModel", "next", "()V"⟩, 33) := ⟨⟨by decide +kernel, by decide +kernel⟩, List.mem_of_getElem? (i := 691) (by decide +kernel), List.mem_of_getElem? (i := 823) (by decide +kernel), List.mem_of_getElem? (i := 824) (by decide +kernel)⟩
theorem lw_p7 : lw_okq (⟨"AskedRoutesModel", "isFigure", "()Z"⟩, 33) := ⟨⟨by decide +kernel, by decide +kernel⟩, List.mem_of_getElem? (i := 691) (by decide +kernel), List.mem_of_getElem? (i := 827) (by decide +kernel), List.mem_of_getElem? (i := 828) (by decide +kernel)⟩
theorem lw_p8 : lw_okq (⟨"AskedRoutesModel", "isNumber", "(II)Z"⟩, 33) := ⟨⟨by decide +kernel, by decide +kernel⟩, List.mem_of_getElem? (i := 691) (by decide +kernel), List.mem_of_getElem? (i := 831) (by decide +kernel), List.mem_of_getElem? (i := 832) (by decide +kernel)⟩
theorem lw_p9 : lw_okq (⟨"AskedRoutesModel", "readsLink", "()Z"⟩, 33) := ⟨⟨by decide +kernel, by decide +kernel⟩, List.mem_of_getElem? (i := 691) (by decide +kernel), List.mem_of_getElem? (i := 835) (by decide +kernel), List.mem_of_getElem? (i := 836) (by decide +kernel)⟩
theorem lw_p10 : lw_okq (⟨"AskedRoutesModel", "pairOf", "(I)I"⟩, 33) := ⟨⟨by decide +kernel, by decide +kernel⟩, List.mem_of_getElem? (i := 691) (by decide +kernel), List.mem_of_getElem? (i := 846) (by decide +kernel), List.mem_of_getElem? (i := 847) (by decide +kernel)⟩
theorem lw_p11 : lw_okq (⟨"AskedRoutesModel", "isNode", "(I)Z"⟩, 33) := ⟨⟨by decide +kernel, by decide +kernel⟩, List.mem_of_getElem? (i := 691) (by decide +kernel), List.mem_of_getElem? (i := 854) (by decide +kernel), List.mem_of_getElem? (i := 855) (by decide +kernel)⟩
theorem lw_p12 : lw_okq (⟨"AskedRoutesModel", "remembers", "()V"⟩, 33) := ⟨⟨by decide +kernel, by decide +kernel⟩, List.mem_of_getElem? (i := 691) (by decide +kernel), List.mem_of_getElem? (i := 858) (by decide +kernel), List.mem_of_getElem? (i := 859) (by decide +kernel)⟩
theorem lw_p13 : lw_okq (⟨"AskedRoutesModel", "letter", "(II)I"⟩, 33) := ⟨⟨by decide +kernel, by decide +kernel⟩, List.mem_of_getElem? (i := 691) (by decide +kernel), List.mem_of_getElem? (i := 862) (by decide +kernel), List.mem_of_getElem? (i := 863) (by decide +kernel)⟩
theorem lw_p14 : lw_okq (⟨"AskedRoutesModel", "bestOf", "(II)I"⟩, 33) := ⟨⟨by decide +kernel, by decide +kernel⟩, List.mem_of_getElem? (i := 691) (by decide +kernel), List.mem_of_getElem? (i := 866) (by decide +kernel), List.mem_of_getElem? (i := 867) (by decide +kernel)⟩
theorem lw_p15 : lw_okq (⟨"AskedRoutesModel", "delay", "(II)I"⟩, 33) := ⟨⟨by decide +kernel, by decide +kernel⟩, List.mem_of_getElem? (i := 691) (by decide +kernel), List.mem_of_getElem? (i := 870) (by decide +kernel), List.mem_of_getElem? (i := 871) (by decide +kernel)⟩
def lw_privs_1 : List (MethodName × Nat) := [(⟨"AskedRoutes", "areUnlike", "(II)Z"⟩, 10), (⟨"AskedRoutes", "isNode", "(I)Z"⟩, 10), (⟨"AskedRoutes", "refusalOfGuess", "(III)I"⟩, 10), (⟨"AskedRoutes", "hurtWithout", "(I)I"⟩, 10), (⟨"AskedRoutesModel", "blanks", "()V"⟩, 33), (⟨"AskedRoutesModel", "readsItem", "(I)Z"⟩, 33), (⟨"AskedRoutesModel", "next", "()V"⟩, 33), (⟨"AskedRoutesModel", "isFigure", "()Z"⟩, 33), (⟨"AskedRoutesModel", "isNumber", "(II)Z"⟩, 33), (⟨"AskedRoutesModel", "readsLink", "()Z"⟩, 33), (⟨"AskedRoutesModel", "pairOf", "(I)I"⟩, 33), (⟨"AskedRoutesModel", "isNode", "(I)Z"⟩, 33), (⟨"AskedRoutesModel", "remembers", "()V"⟩, 33), (⟨"AskedRoutesModel", "letter", "(II)I"⟩, 33), (⟨"AskedRoutesModel", "bestOf", "(II)I"⟩, 33), (⟨"AskedRoutesModel", "delay", "(II)I"⟩, 33)]
theorem lw_r1 : ∀ q ∈ lw_privs_1, lw_okq q := List.forall_mem_cons.mpr ⟨lw_p0, List.forall_mem_cons.mpr ⟨lw_p1, List.forall_mem_cons.mpr ⟨lw_p2, List.forall_mem_cons.mpr ⟨lw_p3, List.forall_mem_cons.mpr ⟨lw_p4, List.forall_mem_cons.mpr ⟨lw_p5, List.forall_mem_cons.mpr ⟨lw_p6, List.forall_mem_cons.mpr ⟨lw_p7, List.forall_mem_cons.mpr ⟨lw_p8, List.forall_mem_cons.mpr ⟨lw_p9, List.forall_mem_cons.mpr ⟨lw_p10, List.forall_mem_cons.mpr ⟨lw_p11, List.forall_mem_cons.mpr ⟨lw_p12, List.forall_mem_cons.mpr ⟨lw_p13, List.forall_mem_cons.mpr ⟨lw_p14, List.forall_mem_cons.mpr ⟨lw_p15, fun _ h => absurd h List.not_mem_nil⟩⟩⟩⟩⟩⟩⟩⟩⟩⟩⟩⟩⟩⟩⟩⟩
theorem lw_p16 : lw_okq (⟨"AskedRoutesModel", "guessNow", "(III)I"⟩, 33) := ⟨⟨by decide +kernel, by decide +kernel⟩, List.mem_of_getElem? (i := 691) (by decide +kernel), List.mem_of_getElem? (i := 874) (by decide +kernel), List.mem_of_getElem? (i := 875) (by decide +kernel)⟩
theorem lw_p17 : lw_okq (⟨"AskedRoutesModel", "hops", "(II)I"⟩, 33) := ⟨⟨by decide +kernel, by decide +kernel⟩, List.mem_of_getElem? (i := 691) (by decide +kernel), List.mem_of_getElem? (i := 881) (by decide +kernel), List.mem_of_getElem? (i := 882) (by decide +kernel)⟩
theorem lw_p18 : lw_okq (⟨"AskedRoutesModel", "eldestOf", "(II)I"⟩, 33) := ⟨⟨by decide +kernel, by decide +kernel⟩, List.mem_of_getElem? (i := 691) (by decide +kernel), List.mem_of_getElem? (i := 885) (by decide +kernel), List.mem_of_getElem? (i := 886) (by decide +kernel)⟩
theorem lw_p19 : lw_okq (⟨"AskedRoutesModel", "noGuesses", "(II)V"⟩, 33) := ⟨⟨by decide +kernel, by decide +kernel⟩, List.mem_of_getElem? (i := 691) (by decide +kernel), List.mem_of_getElem? (i := 898) (by decide +kernel), List.mem_of_getElem? (i := 899) (by decide +kernel)⟩
theorem lw_p20 : lw_okq (⟨"AskedRoutesModel", "linkMany", "()I"⟩, 33) := ⟨⟨by decide +kernel, by decide +kernel⟩, List.mem_of_getElem? (i := 691) (by decide +kernel), List.mem_of_getElem? (i := 902) (by decide +kernel), List.mem_of_getElem? (i := 903) (by decide +kernel)⟩
theorem lw_p21 : lw_okq (⟨"AskedRoutesModel", "whyNoGuess", "(III)I"⟩, 33) := ⟨⟨by decide +kernel, by decide +kernel⟩, List.mem_of_getElem? (i := 691) (by decide +kernel), List.mem_of_getElem? (i := 922) (by decide +kernel), List.mem_of_getElem? (i := 923) (by decide +kernel)⟩
theorem lw_p22 : lw_okq (⟨"AskedRoutesModel", "laysPath", "(II)Z"⟩, 33) := ⟨⟨by decide +kernel, by decide +kernel⟩, List.mem_of_getElem? (i := 691) (by decide +kernel), List.mem_of_getElem? (i := 950) (by decide +kernel), List.mem_of_getElem? (i := 951) (by decide +kernel)⟩
theorem lw_p23 : lw_okq (⟨"AskedRoutesModel", "laysFar", "(I)V"⟩, 33) := ⟨⟨by decide +kernel, by decide +kernel⟩, List.mem_of_getElem? (i := 691) (by decide +kernel), List.mem_of_getElem? (i := 965) (by decide +kernel), List.mem_of_getElem? (i := 966) (by decide +kernel)⟩
theorem lw_p24 : lw_okq (⟨"AskedRoutesModel", "farOf", "(II)I"⟩, 33) := ⟨⟨by decide +kernel, by decide +kernel⟩, List.mem_of_getElem? (i := 691) (by decide +kernel), List.mem_of_getElem? (i := 969) (by decide +kernel), List.mem_of_getElem? (i := 970) (by decide +kernel)⟩
theorem lw_p25 : lw_okq (⟨"AskedRoutesModel", "hurtOf", "(I)I"⟩, 33) := ⟨⟨by decide +kernel, by decide +kernel⟩, List.mem_of_getElem? (i := 691) (by decide +kernel), List.mem_of_getElem? (i := 981) (by decide +kernel), List.mem_of_getElem? (i := 982) (by decide +kernel)⟩
def lw_privs_2 : List (MethodName × Nat) := [(⟨"AskedRoutesModel", "guessNow", "(III)I"⟩, 33), (⟨"AskedRoutesModel", "hops", "(II)I"⟩, 33), (⟨"AskedRoutesModel", "eldestOf", "(II)I"⟩, 33), (⟨"AskedRoutesModel", "noGuesses", "(II)V"⟩, 33), (⟨"AskedRoutesModel", "linkMany", "()I"⟩, 33), (⟨"AskedRoutesModel", "whyNoGuess", "(III)I"⟩, 33), (⟨"AskedRoutesModel", "laysPath", "(II)Z"⟩, 33), (⟨"AskedRoutesModel", "laysFar", "(I)V"⟩, 33), (⟨"AskedRoutesModel", "farOf", "(II)I"⟩, 33), (⟨"AskedRoutesModel", "hurtOf", "(I)I"⟩, 33)]
theorem lw_r2 : ∀ q ∈ lw_privs_2, lw_okq q := List.forall_mem_cons.mpr ⟨lw_p16, List.forall_mem_cons.mpr ⟨lw_p17, List.forall_mem_cons.mpr ⟨lw_p18, List.forall_mem_cons.mpr ⟨lw_p19, List.forall_mem_cons.mpr ⟨lw_p20, List.forall_mem_cons.mpr ⟨lw_p21, List.forall_mem_cons.mpr ⟨lw_p22, List.forall_mem_cons.mpr ⟨lw_p23, List.forall_mem_cons.mpr ⟨lw_p24, List.forall_mem_cons.mpr ⟨lw_p25, fun _ h => absurd h List.not_mem_nil⟩⟩⟩⟩⟩⟩⟩⟩⟩⟩
def lw_privs : List (MethodName × Nat) := lw_privs_1 ++ (lw_privs_2)
def lw_tbl : List Cond := k2_sels lw_privs ++ tables_1
theorem lw_privs_ok : ∀ q ∈ lw_privs, lw_okq q := by
  show ∀ q ∈ lw_privs_1 ++ (lw_privs_2), lw_okq q
  exact List.forall_mem_append.mpr ⟨lw_r1, lw_r2⟩
end
section
def RX0 : String := "AskedRoutes$Images"
def TX0 : u_T := fun k => match k with
  | 0 => ("AskedRoutes$Images", "rows", "[LAskedRoutes$Known;", true)
  | _ => ("AskedRoutes$Images", "kept", "[Z", true)
def tyX0 : Nat → FieldType := fun k => match k with
  | 0 => .array (.object "AskedRoutes$Known")
  | _ => .array .boolean
theorem nmX0 : ∀ a, a < 2 → ∀ b, b < 2 → a ≠ b → (TX0 a).2.1 ≠ (TX0 b).2.1 := by decide +kernel
theorem tyX0_ok : ∀ k, k < 2 → parseFieldDescriptor (TX0 k).2.2.1 = some (tyX0 k) := by decide +kernel
abbrev cX0_init : ByteArray := prog_2_method_1_code
def yX0_init : MethodName := ⟨RX0, "<init>", "()V"⟩
abbrev cX0_drop : ByteArray := prog_2_method_2_code
def yX0_drop : MethodName := ⟨RX0, "drop", "()V"⟩
def RX1 : String := "AskedRoutes$Known"
def TX1 : u_T := fun k => match k with
  | 0 => ("AskedRoutes$Known", "links", "LAskedRoutes$Links;", true)
  | 1 => ("AskedRoutes$Known", "hopsBy", "[I", true)
  | 2 => ("AskedRoutes$Known", "guesses", "[I", true)
  | 3 => ("AskedRoutes$Known", "mendedAt", "[I", true)
  | 4 => ("AskedRoutes$Known", "counts", "[I", true)
  | 5 => ("AskedRoutes$Known", "explored", "[I", true)
  | 6 => ("AskedRoutes$Known", "wayNodes", "[I", true)
  | 7 => ("AskedRoutes$Known", "waySize", "I", false)
  | _ => ("AskedRoutes$Known", "time", "I", false)
def tyX1 : Nat → FieldType := fun k => match k with
  | 0 => .object "AskedRoutes$Links"
  | 1 => .array .int
  | 2 => .array .int
  | 3 => .array .int
  | 4 => .array .int
  | 5 => .array .int
  | 6 => .array .int
  | 7 => .int
  | _ => .int
theorem nmX1 : ∀ a, a < 9 → ∀ b, b < 9 → a ≠ b → (TX1 a).2.1 ≠ (TX1 b).2.1 := by decide +kernel
theorem tyX1_ok : ∀ k, k < 9 → parseFieldDescriptor (TX1 k).2.2.1 = some (tyX1 k) := by decide +kernel
abbrev cX1_init : ByteArray := prog_3_method_1_code
def yX1_init : MethodName := ⟨RX1, "<init>", "()V"⟩
abbrev cX1_restart : ByteArray := prog_3_method_2_code
def yX1_restart : MethodName := ⟨RX1, "restart", "(LAskedRoutes$Links;)V"⟩
abbrev cX1_copyFrom : ByteArray := prog_3_method_3_code
def yX1_copyFrom : MethodName := ⟨RX1, "copyFrom", "(LAskedRoutes$Known;)V"⟩
abbrev cX1_takeAway : ByteArray := prog_3_method_4_code
def yX1_takeAway : MethodName := ⟨RX1, "takeAway", "(II)V"⟩
abbrev cX1_addToWay : ByteArray := prog_3_method_5_code
def yX1_addToWay : MethodName := ⟨RX1, "addToWay", "(I)V"⟩
abbrev cX1_countHop : ByteArray := prog_3_method_6_code
def yX1_countHop : MethodName := ⟨RX1, "countHop", "(II)V"⟩
def RX2 : String := "AskedRoutes$LeastWays"
def TX2 : u_T := fun k => match k with
  | 0 => ("AskedRoutes$LeastWays", "sums", "[I", true)
  | _ => ("AskedRoutes$LeastWays", "nodes", "I", false)
def tyX2 : Nat → FieldType := fun k => match k with
  | 0 => .array .int
  | _ => .int
theorem nmX2 : ∀ a, a < 2 → ∀ b, b < 2 → a ≠ b → (TX2 a).2.1 ≠ (TX2 b).2.1 := by decide +kernel
theorem tyX2_ok : ∀ k, k < 2 → parseFieldDescriptor (TX2 k).2.2.1 = some (tyX2 k) := by decide +kernel
abbrev cX2_init : ByteArray := prog_4_method_1_code
def yX2_init : MethodName := ⟨RX2, "<init>", "()V"⟩
abbrev cX2_measure : ByteArray := prog_4_method_2_code
def yX2_measure : MethodName := ⟨RX2, "measure", "(LAskedRoutes$Links;II)V"⟩
abbrev cX2_stepFrom : ByteArray := prog_4_method_3_code
def yX2_stepFrom : MethodName := ⟨RX2, "stepFrom", "(LAskedRoutes$Links;III)I"⟩
abbrev cX2_between : ByteArray := prog_4_method_4_code
def yX2_between : MethodName := ⟨RX2, "between", "(II)I"⟩
abbrev cX2_sumOfAll : ByteArray := prog_4_method_5_code
def yX2_sumOfAll : MethodName := ⟨RX2, "sumOfAll", "()I"⟩
def RX3 : String := "AskedRoutes$Links"
def TX3 : u_T := fun k => match k with
  | 0 => ("AskedRoutes$Links", "delays", "[I", true)
  | _ => ("AskedRoutes$Links", "total", "I", false)
def tyX3 : Nat → FieldType := fun k => match k with
  | 0 => .array .int
  | _ => .int
theorem nmX3 : ∀ a, a < 2 → ∀ b, b < 2 → a ≠ b → (TX3 a).2.1 ≠ (TX3 b).2.1 := by decide +kernel
theorem tyX3_ok : ∀ k, k < 2 → parseFieldDescriptor (TX3 k).2.2.1 = some (tyX3 k) := by decide +kernel
abbrev cX3_init : ByteArray := prog_5_method_1_code
def yX3_init : MethodName := ⟨RX3, "<init>", "()V"⟩
abbrev cX3_restart : ByteArray := prog_5_method_2_code
def yX3_restart : MethodName := ⟨RX3, "restart", "()V"⟩
abbrev cX3_copyFrom : ByteArray := prog_5_method_3_code
def yX3_copyFrom : MethodName := ⟨RX3, "copyFrom", "(LAskedRoutes$Links;)V"⟩
abbrev cX3_delayOf : ByteArray := prog_5_method_4_code
def yX3_delayOf : MethodName := ⟨RX3, "delayOf", "(II)I"⟩
abbrev cX3_put : ByteArray := prog_5_method_5_code
def yX3_put : MethodName := ⟨RX3, "put", "(III)V"⟩
abbrev cX3_takeAway : ByteArray := prog_5_method_6_code
def yX3_takeAway : MethodName := ⟨RX3, "takeAway", "(II)V"⟩
abbrev cX3_pairOf : ByteArray := prog_5_method_7_code
def yX3_pairOf : MethodName := ⟨RX3, "pairOf", "(I)I"⟩
abbrev cX3_neighboursOf : ByteArray := prog_5_method_8_code
def yX3_neighboursOf : MethodName := ⟨RX3, "neighboursOf", "(I)I"⟩
def RX4 : String := "AskedRoutes$Past"
def TX4 : u_T := fun k => match k with
  | 0 => ("AskedRoutes$Past", "ring", "[LAskedRoutes$Known;", true)
  | 1 => ("AskedRoutes$Past", "latest", "I", false)
  | _ => ("AskedRoutes$Past", "size", "I", false)
def tyX4 : Nat → FieldType := fun k => match k with
  | 0 => .array (.object "AskedRoutes$Known")
  | 1 => .int
  | _ => .int
theorem nmX4 : ∀ a, a < 3 → ∀ b, b < 3 → a ≠ b → (TX4 a).2.1 ≠ (TX4 b).2.1 := by decide +kernel
theorem tyX4_ok : ∀ k, k < 3 → parseFieldDescriptor (TX4 k).2.2.1 = some (tyX4 k) := by decide +kernel
abbrev cX4_init : ByteArray := prog_6_method_1_code
def yX4_init : MethodName := ⟨RX4, "<init>", "()V"⟩
abbrev cX4_push : ByteArray := prog_6_method_2_code
def yX4_push : MethodName := ⟨RX4, "push", "(LAskedRoutes$Known;)V"⟩
abbrev cX4_pop : ByteArray := prog_6_method_3_code
def yX4_pop : MethodName := ⟨RX4, "pop", "(LAskedRoutes$Known;)Z"⟩
def RX5 : String := "AskedRoutes$Post"
def TX5 : u_T := fun k => match k with
  | 0 => ("AskedRoutes$Post", "rules", "LAskedRoutes$Rules;", true)
  | _ => ("AskedRoutes$Post", "known", "LAskedRoutes$Known;", true)
def tyX5 : Nat → FieldType := fun k => match k with
  | 0 => .object "AskedRoutes$Rules"
  | _ => .object "AskedRoutes$Known"
theorem nmX5 : ∀ a, a < 2 → ∀ b, b < 2 → a ≠ b → (TX5 a).2.1 ≠ (TX5 b).2.1 := by decide +kernel
theorem tyX5_ok : ∀ k, k < 2 → parseFieldDescriptor (TX5 k).2.2.1 = some (tyX5 k) := by decide +kernel
abbrev cX5_init : ByteArray := prog_7_method_1_code
def yX5_init : MethodName := ⟨RX5, "<init>", "(LAskedRoutes$Rules;LAskedRoutes$Known;)V"⟩
abbrev cX5_guessBy : ByteArray := prog_7_method_2_code
def yX5_guessBy : MethodName := ⟨RX5, "guessBy", "(III)I"⟩
abbrev cX5_guessAt : ByteArray := prog_7_method_3_code
def yX5_guessAt : MethodName := ⟨RX5, "guessAt", "(I)I"⟩
abbrev cX5_bestOf : ByteArray := prog_7_method_4_code
def yX5_bestOf : MethodName := ⟨RX5, "bestOf", "(II)I"⟩
abbrev cX5_stalestOf : ByteArray := prog_7_method_5_code
def yX5_stalestOf : MethodName := ⟨RX5, "stalestOf", "(II)I"⟩
abbrev cX5_chooseHop : ByteArray := prog_7_method_6_code
def yX5_chooseHop : MethodName := ⟨RX5, "chooseHop", "(II)I"⟩
abbrev cX5_toldBy : ByteArray := prog_7_method_7_code
def yX5_toldBy : MethodName := ⟨RX5, "toldBy", "(II)I"⟩
abbrev cX5_mend : ByteArray := prog_7_method_8_code
def yX5_mend : MethodName := ⟨RX5, "mend", "(III)V"⟩
abbrev cX5_deliver : ByteArray := prog_7_method_9_code
def yX5_deliver : MethodName := ⟨RX5, "deliver", "(II)I"⟩
abbrev cX5_deliverRound : ByteArray := prog_7_method_10_code
def yX5_deliverRound : MethodName := ⟨RX5, "deliverRound", "()I"⟩
def RX6 : String := "AskedRoutes$Reader"
def TX6 : u_T := fun k => match k with
  | 0 => ("AskedRoutes$Reader", "text", "LAskedRoutes$Text;", true)
  | 1 => ("AskedRoutes$Reader", "rules", "LAskedRoutes$Rules;", true)
  | 2 => ("AskedRoutes$Reader", "links", "LAskedRoutes$Links;", true)
  | 3 => ("AskedRoutes$Reader", "items", "I", false)
  | 4 => ("AskedRoutes$Reader", "kind", "I", false)
  | 5 => ("AskedRoutes$Reader", "number", "I", false)
  | 6 => ("AskedRoutes$Reader", "place", "I", false)
  | _ => ("AskedRoutes$Reader", "next", "I", false)
def tyX6 : Nat → FieldType := fun k => match k with
  | 0 => .object "AskedRoutes$Text"
  | 1 => .object "AskedRoutes$Rules"
  | 2 => .object "AskedRoutes$Links"
  | 3 => .int
  | 4 => .int
  | 5 => .int
  | 6 => .int
  | _ => .int
theorem nmX6 : ∀ a, a < 8 → ∀ b, b < 8 → a ≠ b → (TX6 a).2.1 ≠ (TX6 b).2.1 := by decide +kernel
theorem tyX6_ok : ∀ k, k < 8 → parseFieldDescriptor (TX6 k).2.2.1 = some (tyX6 k) := by decide +kernel
abbrev cX6_init : ByteArray := prog_8_method_1_code
def yX6_init : MethodName := ⟨RX6, "<init>", "(LAskedRoutes$Text;)V"⟩
abbrev cX6_readText : ByteArray := prog_8_method_2_code
def yX6_readText : MethodName := ⟨RX6, "readText", "()I"⟩
abbrev cX6_readEnd : ByteArray := prog_8_method_3_code
def yX6_readEnd : MethodName := ⟨RX6, "readEnd", "()Z"⟩
abbrev cX6_readItem : ByteArray := prog_8_method_4_code
def yX6_readItem : MethodName := ⟨RX6, "readItem", "()Z"⟩
abbrev cX6_readNodes : ByteArray := prog_8_method_5_code
def yX6_readNodes : MethodName := ⟨RX6, "readNodes", "()Z"⟩
abbrev cX6_readLink : ByteArray := prog_8_method_6_code
def yX6_readLink : MethodName := ⟨RX6, "readLink", "()Z"⟩
abbrev cX6_readRule : ByteArray := prog_8_method_7_code
def yX6_readRule : MethodName := ⟨RX6, "readRule", "(I)Z"⟩
abbrev cX6_lowestOf : ByteArray := prog_8_method_8_code
def yX6_lowestOf : MethodName := ⟨RX6, "lowestOf", "(I)I"⟩
abbrev cX6_highestOf : ByteArray := prog_8_method_9_code
def yX6_highestOf : MethodName := ⟨RX6, "highestOf", "(I)I"⟩
abbrev cX6_readNumber : ByteArray := prog_8_method_10_code
def yX6_readNumber : MethodName := ⟨RX6, "readNumber", "(II)Z"⟩
abbrev cX6_step : ByteArray := prog_8_method_11_code
def yX6_step : MethodName := ⟨RX6, "step", "()V"⟩
abbrev cX6_stepOverNumber : ByteArray := prog_8_method_12_code
def yX6_stepOverNumber : MethodName := ⟨RX6, "stepOverNumber", "()V"⟩
abbrev cX6_isDigit : ByteArray := prog_8_method_13_code
def yX6_isDigit : MethodName := ⟨RX6, "isDigit", "(I)Z"⟩
def RX7 : String := "AskedRoutes$Rules"
def TX7 : u_T := fun k => match k with
  | 0 => ("AskedRoutes$Rules", "nodes", "I", false)
  | 1 => ("AskedRoutes$Rules", "every", "I", false)
  | 2 => ("AskedRoutes$Rules", "halves", "I", false)
  | 3 => ("AskedRoutes$Rules", "age", "I", false)
  | 4 => ("AskedRoutes$Rules", "life", "I", false)
  | _ => ("AskedRoutes$Rules", "first", "I", false)
def tyX7 : Nat → FieldType := fun k => match k with
  | 0 => .int
  | 1 => .int
  | 2 => .int
  | 3 => .int
  | 4 => .int
  | _ => .int
theorem nmX7 : ∀ a, a < 6 → ∀ b, b < 6 → a ≠ b → (TX7 a).2.1 ≠ (TX7 b).2.1 := by decide +kernel
theorem tyX7_ok : ∀ k, k < 6 → parseFieldDescriptor (TX7 k).2.2.1 = some (tyX7 k) := by decide +kernel
abbrev cX7_init : ByteArray := prog_9_method_1_code
def yX7_init : MethodName := ⟨RX7, "<init>", "()V"⟩
abbrev cX7_restart : ByteArray := prog_9_method_2_code
def yX7_restart : MethodName := ⟨RX7, "restart", "()V"⟩
abbrev cX7_copyFrom : ByteArray := prog_9_method_3_code
def yX7_copyFrom : MethodName := ⟨RX7, "copyFrom", "(LAskedRoutes$Rules;)V"⟩
def RX8 : String := "AskedRoutes$Sights"
def TX8 : u_T := fun k => match k with
  | 0 => ("AskedRoutes$Sights", "froms", "[I", true)
  | 1 => ("AskedRoutes$Sights", "goals", "[I", true)
  | 2 => ("AskedRoutes$Sights", "worths", "[I", true)
  | _ => ("AskedRoutes$Sights", "size", "I", false)
def tyX8 : Nat → FieldType := fun k => match k with
  | 0 => .array .int
  | 1 => .array .int
  | 2 => .array .int
  | _ => .int
theorem nmX8 : ∀ a, a < 4 → ∀ b, b < 4 → a ≠ b → (TX8 a).2.1 ≠ (TX8 b).2.1 := by decide +kernel
theorem tyX8_ok : ∀ k, k < 4 → parseFieldDescriptor (TX8 k).2.2.1 = some (tyX8 k) := by decide +kernel
abbrev cX8_init : ByteArray := prog_10_method_1_code
def yX8_init : MethodName := ⟨RX8, "<init>", "()V"⟩
abbrev cX8_append : ByteArray := prog_10_method_2_code
def yX8_append : MethodName := ⟨RX8, "append", "(III)Z"⟩
abbrev cX8_agree : ByteArray := prog_10_method_3_code
def yX8_agree : MethodName := ⟨RX8, "agree", "(LAskedRoutes$LeastWays;)Z"⟩
def RX9 : String := "AskedRoutes$Text"
def TX9 : u_T := fun k => match k with
  | 0 => ("AskedRoutes$Text", "letters", "[I", true)
  | _ => ("AskedRoutes$Text", "size", "I", false)
def tyX9 : Nat → FieldType := fun k => match k with
  | 0 => .array .int
  | _ => .int
theorem nmX9 : ∀ a, a < 2 → ∀ b, b < 2 → a ≠ b → (TX9 a).2.1 ≠ (TX9 b).2.1 := by decide +kernel
theorem tyX9_ok : ∀ k, k < 2 → parseFieldDescriptor (TX9 k).2.2.1 = some (tyX9 k) := by decide +kernel
abbrev cX9_init : ByteArray := prog_11_method_1_code
def yX9_init : MethodName := ⟨RX9, "<init>", "()V"⟩
abbrev cX9_append : ByteArray := prog_11_method_2_code
def yX9_append : MethodName := ⟨RX9, "append", "(I)Z"⟩
def RX10 : String := "AskedRoutes$Trail"
def TX10 : u_T := fun k => match k with
  | 0 => ("AskedRoutes$Trail", "post", "LAskedRoutes$Post;", true)
  | 1 => ("AskedRoutes$Trail", "nodes", "[I", true)
  | 2 => ("AskedRoutes$Trail", "size", "I", false)
  | _ => ("AskedRoutes$Trail", "delays", "I", false)
def tyX10 : Nat → FieldType := fun k => match k with
  | 0 => .object "AskedRoutes$Post"
  | 1 => .array .int
  | 2 => .int
  | _ => .int
theorem nmX10 : ∀ a, a < 4 → ∀ b, b < 4 → a ≠ b → (TX10 a).2.1 ≠ (TX10 b).2.1 := by decide +kernel
theorem tyX10_ok : ∀ k, k < 4 → parseFieldDescriptor (TX10 k).2.2.1 = some (tyX10 k) := by decide +kernel
abbrev cX10_init : ByteArray := prog_12_method_1_code
def yX10_init : MethodName := ⟨RX10, "<init>", "(LAskedRoutes$Post;)V"⟩
abbrev cX10_follow : ByteArray := prog_12_method_2_code
def yX10_follow : MethodName := ⟨RX10, "follow", "(II)Z"⟩
def RX11 : String := "AskedRoutes"
def TX11 : u_T := fun k => match k with
  | 0 => ("AskedRoutes", "text", "LAskedRoutes$Text;", true)
  | 1 => ("AskedRoutes", "reader", "LAskedRoutes$Reader;", true)
  | 2 => ("AskedRoutes", "rules", "LAskedRoutes$Rules;", true)
  | 3 => ("AskedRoutes", "known", "LAskedRoutes$Known;", true)
  | 4 => ("AskedRoutes", "post", "LAskedRoutes$Post;", true)
  | 5 => ("AskedRoutes", "past", "LAskedRoutes$Past;", true)
  | 6 => ("AskedRoutes", "images", "LAskedRoutes$Images;", true)
  | 7 => ("AskedRoutes", "trail", "LAskedRoutes$Trail;", true)
  | 8 => ("AskedRoutes", "ways", "LAskedRoutes$LeastWays;", true)
  | _ => ("AskedRoutes", "sights", "LAskedRoutes$Sights;", true)
def tyX11 : Nat → FieldType := fun k => match k with
  | 0 => .object "AskedRoutes$Text"
  | 1 => .object "AskedRoutes$Reader"
  | 2 => .object "AskedRoutes$Rules"
  | 3 => .object "AskedRoutes$Known"
  | 4 => .object "AskedRoutes$Post"
  | 5 => .object "AskedRoutes$Past"
  | 6 => .object "AskedRoutes$Images"
  | 7 => .object "AskedRoutes$Trail"
  | 8 => .object "AskedRoutes$LeastWays"
  | _ => .object "AskedRoutes$Sights"
theorem nmX11 : ∀ a, a < 10 → ∀ b, b < 10 → a ≠ b → (TX11 a).2.1 ≠ (TX11 b).2.1 := by decide +kernel
theorem tyX11_ok : ∀ k, k < 10 → parseFieldDescriptor (TX11 k).2.2.1 = some (tyX11 k) := by decide +kernel
abbrev cX11_init : ByteArray := prog_1_method_1_code
def yX11_init : MethodName := ⟨RX11, "<init>", "()V"⟩
abbrev cX11_type : ByteArray := prog_1_method_2_code
def yX11_type : MethodName := ⟨RX11, "type", "(I)I"⟩
abbrev cX11_clear : ByteArray := prog_1_method_3_code
def yX11_clear : MethodName := ⟨RX11, "clear", "()I"⟩
abbrev cX11_net : ByteArray := prog_1_method_4_code
def yX11_net : MethodName := ⟨RX11, "net", "()I"⟩
abbrev cX11_link : ByteArray := prog_1_method_5_code
def yX11_link : MethodName := ⟨RX11, "link", "(II)I"⟩
abbrev cX11_sends : ByteArray := prog_1_method_6_code
def yX11_sends : MethodName := ⟨RX11, "sends", "(II)I"⟩
abbrev cX11_rounds : ByteArray := prog_1_method_7_code
def yX11_rounds : MethodName := ⟨RX11, "rounds", "(I)I"⟩
abbrev cX11_cuts : ByteArray := prog_1_method_8_code
def yX11_cuts : MethodName := ⟨RX11, "cuts", "(I)I"⟩
abbrev cX11_lays : ByteArray := prog_1_method_9_code
def yX11_lays : MethodName := ⟨RX11, "lays", "(III)I"⟩
abbrev cX11_changes : ByteArray := prog_1_method_10_code
def yX11_changes : MethodName := ⟨RX11, "changes", "(II)I"⟩
abbrev cX11_undo : ByteArray := prog_1_method_11_code
def yX11_undo : MethodName := ⟨RX11, "undo", "()I"⟩
abbrev cX11_guess : ByteArray := prog_1_method_12_code
def yX11_guess : MethodName := ⟨RX11, "guess", "(III)I"⟩
abbrev cX11_mended : ByteArray := prog_1_method_13_code
def yX11_mended : MethodName := ⟨RX11, "mended", "(III)I"⟩
abbrev cX11_best : ByteArray := prog_1_method_14_code
def yX11_best : MethodName := ⟨RX11, "best", "(II)I"⟩
abbrev cX11_node : ByteArray := prog_1_method_15_code
def yX11_node : MethodName := ⟨RX11, "node", "(II)I"⟩
abbrev cX11_used : ByteArray := prog_1_method_16_code
def yX11_used : MethodName := ⟨RX11, "used", "(I)I"⟩
abbrev cX11_way : ByteArray := prog_1_method_17_code
def yX11_way : MethodName := ⟨RX11, "way", "(I)I"⟩
abbrev cX11_path : ByteArray := prog_1_method_18_code
def yX11_path : MethodName := ⟨RX11, "path", "(III)I"⟩
abbrev cX11_astray : ByteArray := prog_1_method_19_code
def yX11_astray : MethodName := ⟨RX11, "astray", "(I)I"⟩
abbrev cX11_least : ByteArray := prog_1_method_20_code
def yX11_least : MethodName := ⟨RX11, "least", "(II)I"⟩
abbrev cX11_right : ByteArray := prog_1_method_21_code
def yX11_right : MethodName := ⟨RX11, "right", "()I"⟩
abbrev cX11_hurt : ByteArray := prog_1_method_22_code
def yX11_hurt : MethodName := ⟨RX11, "hurt", "(I)I"⟩
abbrev cX11_worst : ByteArray := prog_1_method_23_code
def yX11_worst : MethodName := ⟨RX11, "worst", "()I"⟩
abbrev cX11_sees : ByteArray := prog_1_method_24_code
def yX11_sees : MethodName := ⟨RX11, "sees", "(III)I"⟩
abbrev cX11_forget : ByteArray := prog_1_method_25_code
def yX11_forget : MethodName := ⟨RX11, "forget", "()I"⟩
abbrev cX11_unseen : ByteArray := prog_1_method_26_code
def yX11_unseen : MethodName := ⟨RX11, "unseen", "()I"⟩
abbrev cX11_keep : ByteArray := prog_1_method_27_code
def yX11_keep : MethodName := ⟨RX11, "keep", "(I)I"⟩
abbrev cX11_back : ByteArray := prog_1_method_28_code
def yX11_back : MethodName := ⟨RX11, "back", "(I)I"⟩
abbrev cX11_count : ByteArray := prog_1_method_29_code
def yX11_count : MethodName := ⟨RX11, "count", "(I)I"⟩
abbrev cX11_isNode : ByteArray := prog_1_method_30_code
def yX11_isNode : MethodName := ⟨RX11, "isNode", "(I)Z"⟩
abbrev cX11_areUnlike : ByteArray := prog_1_method_31_code
def yX11_areUnlike : MethodName := ⟨RX11, "areUnlike", "(II)Z"⟩
abbrev cX11_isDelay : ByteArray := prog_1_method_32_code
def yX11_isDelay : MethodName := ⟨RX11, "isDelay", "(I)Z"⟩
abbrev cX11_isImage : ByteArray := prog_1_method_33_code
def yX11_isImage : MethodName := ⟨RX11, "isImage", "(I)Z"⟩
abbrev cX11_refusalOfGuess : ByteArray := prog_1_method_34_code
def yX11_refusalOfGuess : MethodName := ⟨RX11, "refusalOfGuess", "(III)I"⟩
abbrev cX11_hurtWithout : ByteArray := prog_1_method_35_code
def yX11_hurtWithout : MethodName := ⟨RX11, "hurtWithout", "(I)I"⟩
abbrev cX11_pairCell : ByteArray := prog_1_method_36_code
def yX11_pairCell : MethodName := ⟨RX11, "pairCell", "(II)I"⟩
abbrev cX11_guessCell : ByteArray := prog_1_method_37_code
def yX11_guessCell : MethodName := ⟨RX11, "guessCell", "(III)I"⟩
def RX12 : String := "AskedRoutesModel"
def TX12 : u_T := fun k => match k with
  | 0 => ("AskedRoutesModel", "nodes", "I", false)
  | 1 => ("AskedRoutesModel", "every", "I", false)
  | 2 => ("AskedRoutesModel", "halves", "I", false)
  | 3 => ("AskedRoutesModel", "age", "I", false)
  | 4 => ("AskedRoutesModel", "life", "I", false)
  | 5 => ("AskedRoutesModel", "first", "I", false)
  | 6 => ("AskedRoutesModel", "now", "[I", true)
  | 7 => ("AskedRoutesModel", "undoMany", "I", false)
  | 8 => ("AskedRoutesModel", "undoAt", "I", false)
  | 9 => ("AskedRoutesModel", "undos", "[I", true)
  | 10 => ("AskedRoutesModel", "isKept", "[Z", true)
  | 11 => ("AskedRoutesModel", "kept", "[I", true)
  | 12 => ("AskedRoutesModel", "letterMany", "I", false)
  | 13 => ("AskedRoutesModel", "text", "[I", true)
  | 14 => ("AskedRoutesModel", "readAt", "I", false)
  | 15 => ("AskedRoutesModel", "tokenAt", "I", false)
  | 16 => ("AskedRoutesModel", "token", "I", false)
  | 17 => ("AskedRoutesModel", "newNodes", "I", false)
  | 18 => ("AskedRoutesModel", "newEvery", "I", false)
  | 19 => ("AskedRoutesModel", "newHalves", "I", false)
  | 20 => ("AskedRoutesModel", "newAge", "I", false)
  | 21 => ("AskedRoutesModel", "newLife", "I", false)
  | 22 => ("AskedRoutesModel", "newFirst", "I", false)
  | 23 => ("AskedRoutesModel", "newLinks", "I", false)
  | 24 => ("AskedRoutesModel", "newDelay", "[I", true)
  | 25 => ("AskedRoutesModel", "pathMany", "I", false)
  | 26 => ("AskedRoutesModel", "pathDelay", "I", false)
  | 27 => ("AskedRoutesModel", "path", "[I", true)
  | 28 => ("AskedRoutesModel", "far", "[I", true)
  | 29 => ("AskedRoutesModel", "seenMany", "I", false)
  | 30 => ("AskedRoutesModel", "seenFrom", "[I", true)
  | 31 => ("AskedRoutesModel", "seenTo", "[I", true)
  | _ => ("AskedRoutesModel", "seen", "[I", true)
def tyX12 : Nat → FieldType := fun k => match k with
  | 0 => .int
  | 1 => .int
  | 2 => .int
  | 3 => .int
  | 4 => .int
  | 5 => .int
  | 6 => .array .int
  | 7 => .int
  | 8 => .int
  | 9 => .array .int
  | 10 => .array .boolean
  | 11 => .array .int
  | 12 => .int
  | 13 => .array .int
  | 14 => .int
  | 15 => .int
  | 16 => .int
  | 17 => .int
  | 18 => .int
  | 19 => .int
  | 20 => .int
  | 21 => .int
  | 22 => .int
  | 23 => .int
  | 24 => .array .int
  | 25 => .int
  | 26 => .int
  | 27 => .array .int
  | 28 => .array .int
  | 29 => .int
  | 30 => .array .int
  | 31 => .array .int
  | _ => .array .int
theorem nmX12 : ∀ a, a < 33 → ∀ b, b < 33 → a ≠ b → (TX12 a).2.1 ≠ (TX12 b).2.1 := by decide +kernel
theorem tyX12_ok : ∀ k, k < 33 → parseFieldDescriptor (TX12 k).2.2.1 = some (tyX12 k) := by decide +kernel
abbrev cX12_init : ByteArray := prog_14_method_1_code
def yX12_init : MethodName := ⟨RX12, "<init>", "()V"⟩
abbrev cX12_in : ByteArray := prog_14_method_2_code
def yX12_in : MethodName := ⟨RX12, "in", "(III)Z"⟩
abbrev cX12_has : ByteArray := prog_14_method_3_code
def yX12_has : MethodName := ⟨RX12, "has", "(II)Z"⟩
abbrev cX12_begins : ByteArray := prog_14_method_4_code
def yX12_begins : MethodName := ⟨RX12, "begins", "([I)V"⟩
abbrev cX12_isNode : ByteArray := prog_14_method_5_code
def yX12_isNode : MethodName := ⟨RX12, "isNode", "(I)Z"⟩
abbrev cX12_pair : ByteArray := prog_14_method_6_code
def yX12_pair : MethodName := ⟨RX12, "pair", "(II)I"⟩
abbrev cX12_delay : ByteArray := prog_14_method_7_code
def yX12_delay : MethodName := ⟨RX12, "delay", "(II)I"⟩
abbrev cX12_guessAt : ByteArray := prog_14_method_8_code
def yX12_guessAt : MethodName := ⟨RX12, "guessAt", "(III)I"⟩
abbrev cX12_linkMany : ByteArray := prog_14_method_9_code
def yX12_linkMany : MethodName := ⟨RX12, "linkMany", "()I"⟩
abbrev cX12_pairOf : ByteArray := prog_14_method_10_code
def yX12_pairOf : MethodName := ⟨RX12, "pairOf", "(I)I"⟩
abbrev cX12_type : ByteArray := prog_14_method_11_code
def yX12_type : MethodName := ⟨RX12, "type", "(I)I"⟩
abbrev cX12_clear : ByteArray := prog_14_method_12_code
def yX12_clear : MethodName := ⟨RX12, "clear", "()I"⟩
abbrev cX12_isFigure : ByteArray := prog_14_method_13_code
def yX12_isFigure : MethodName := ⟨RX12, "isFigure", "()Z"⟩
abbrev cX12_blanks : ByteArray := prog_14_method_14_code
def yX12_blanks : MethodName := ⟨RX12, "blanks", "()V"⟩
abbrev cX12_next : ByteArray := prog_14_method_15_code
def yX12_next : MethodName := ⟨RX12, "next", "()V"⟩
abbrev cX12_isNumber : ByteArray := prog_14_method_16_code
def yX12_isNumber : MethodName := ⟨RX12, "isNumber", "(II)Z"⟩
abbrev cX12_readsLink : ByteArray := prog_14_method_17_code
def yX12_readsLink : MethodName := ⟨RX12, "readsLink", "()Z"⟩
abbrev cX12_readsItem : ByteArray := prog_14_method_18_code
def yX12_readsItem : MethodName := ⟨RX12, "readsItem", "(I)Z"⟩
abbrev cX12_net : ByteArray := prog_14_method_19_code
def yX12_net : MethodName := ⟨RX12, "net", "()I"⟩
abbrev cX12_link : ByteArray := prog_14_method_20_code
def yX12_link : MethodName := ⟨RX12, "link", "(II)I"⟩
abbrev cX12_guessNow : ByteArray := prog_14_method_21_code
def yX12_guessNow : MethodName := ⟨RX12, "guessNow", "(III)I"⟩
abbrev cX12_bestOf : ByteArray := prog_14_method_22_code
def yX12_bestOf : MethodName := ⟨RX12, "bestOf", "(II)I"⟩
abbrev cX12_eldestOf : ByteArray := prog_14_method_23_code
def yX12_eldestOf : MethodName := ⟨RX12, "eldestOf", "(II)I"⟩
abbrev cX12_remembers : ByteArray := prog_14_method_24_code
def yX12_remembers : MethodName := ⟨RX12, "remembers", "()V"⟩
abbrev cX12_hops : ByteArray := prog_14_method_25_code
def yX12_hops : MethodName := ⟨RX12, "hops", "(II)I"⟩
abbrev cX12_letter : ByteArray := prog_14_method_26_code
def yX12_letter : MethodName := ⟨RX12, "letter", "(II)I"⟩
abbrev cX12_sends : ByteArray := prog_14_method_27_code
def yX12_sends : MethodName := ⟨RX12, "sends", "(II)I"⟩
abbrev cX12_rounds : ByteArray := prog_14_method_28_code
def yX12_rounds : MethodName := ⟨RX12, "rounds", "(I)I"⟩
abbrev cX12_noGuesses : ByteArray := prog_14_method_29_code
def yX12_noGuesses : MethodName := ⟨RX12, "noGuesses", "(II)V"⟩
abbrev cX12_cuts : ByteArray := prog_14_method_30_code
def yX12_cuts : MethodName := ⟨RX12, "cuts", "(I)I"⟩
abbrev cX12_lays : ByteArray := prog_14_method_31_code
def yX12_lays : MethodName := ⟨RX12, "lays", "(III)I"⟩
abbrev cX12_changes : ByteArray := prog_14_method_32_code
def yX12_changes : MethodName := ⟨RX12, "changes", "(II)I"⟩
abbrev cX12_undo : ByteArray := prog_14_method_33_code
def yX12_undo : MethodName := ⟨RX12, "undo", "()I"⟩
abbrev cX12_whyNoGuess : ByteArray := prog_14_method_34_code
def yX12_whyNoGuess : MethodName := ⟨RX12, "whyNoGuess", "(III)I"⟩
abbrev cX12_guess : ByteArray := prog_14_method_35_code
def yX12_guess : MethodName := ⟨RX12, "guess", "(III)I"⟩
abbrev cX12_mended : ByteArray := prog_14_method_36_code
def yX12_mended : MethodName := ⟨RX12, "mended", "(III)I"⟩
abbrev cX12_best : ByteArray := prog_14_method_37_code
def yX12_best : MethodName := ⟨RX12, "best", "(II)I"⟩
abbrev cX12_node : ByteArray := prog_14_method_38_code
def yX12_node : MethodName := ⟨RX12, "node", "(II)I"⟩
abbrev cX12_used : ByteArray := prog_14_method_39_code
def yX12_used : MethodName := ⟨RX12, "used", "(I)I"⟩
abbrev cX12_way : ByteArray := prog_14_method_40_code
def yX12_way : MethodName := ⟨RX12, "way", "(I)I"⟩
abbrev cX12_laysPath : ByteArray := prog_14_method_41_code
def yX12_laysPath : MethodName := ⟨RX12, "laysPath", "(II)Z"⟩
abbrev cX12_path : ByteArray := prog_14_method_42_code
def yX12_path : MethodName := ⟨RX12, "path", "(III)I"⟩
abbrev cX12_astray : ByteArray := prog_14_method_43_code
def yX12_astray : MethodName := ⟨RX12, "astray", "(I)I"⟩
abbrev cX12_laysFar : ByteArray := prog_14_method_44_code
def yX12_laysFar : MethodName := ⟨RX12, "laysFar", "(I)V"⟩
abbrev cX12_farOf : ByteArray := prog_14_method_45_code
def yX12_farOf : MethodName := ⟨RX12, "farOf", "(II)I"⟩
abbrev cX12_least : ByteArray := prog_14_method_46_code
def yX12_least : MethodName := ⟨RX12, "least", "(II)I"⟩
abbrev cX12_right : ByteArray := prog_14_method_47_code
def yX12_right : MethodName := ⟨RX12, "right", "()I"⟩
abbrev cX12_hurtOf : ByteArray := prog_14_method_48_code
def yX12_hurtOf : MethodName := ⟨RX12, "hurtOf", "(I)I"⟩
abbrev cX12_hurt : ByteArray := prog_14_method_49_code
def yX12_hurt : MethodName := ⟨RX12, "hurt", "(I)I"⟩
abbrev cX12_worst : ByteArray := prog_14_method_50_code
def yX12_worst : MethodName := ⟨RX12, "worst", "()I"⟩
abbrev cX12_sees : ByteArray := prog_14_method_51_code
def yX12_sees : MethodName := ⟨RX12, "sees", "(III)I"⟩
abbrev cX12_forget : ByteArray := prog_14_method_52_code
def yX12_forget : MethodName := ⟨RX12, "forget", "()I"⟩
abbrev cX12_unseen : ByteArray := prog_14_method_53_code
def yX12_unseen : MethodName := ⟨RX12, "unseen", "()I"⟩
abbrev cX12_keep : ByteArray := prog_14_method_54_code
def yX12_keep : MethodName := ⟨RX12, "keep", "(I)I"⟩
abbrev cX12_back : ByteArray := prog_14_method_55_code
def yX12_back : MethodName := ⟨RX12, "back", "(I)I"⟩
abbrev cX12_count : ByteArray := prog_14_method_56_code
def yX12_count : MethodName := ⟨RX12, "count", "(I)I"⟩
def RJ9 : String := "java/lang/Math"
def TJ9 : u_T := fun k => match k with
  | _ => ("", "", "", false)
def tyJ9 : Nat → FieldType := fun k => match k with
  | _ => .int
theorem nmJ9 : ∀ a, a < 0 → ∀ b, b < 0 → a ≠ b → (TJ9 a).2.1 ≠ (TJ9 b).2.1 := by decide +kernel
theorem tyJ9_ok : ∀ k, k < 0 → parseFieldDescriptor (TJ9 k).2.2.1 = some (tyJ9 k) := by decide +kernel
abbrev cJ9_max_7cf53 : ByteArray := prog_15_method_65_code
def yJ9_max_7cf53 : MethodName := ⟨RJ9, "max", "(II)I"⟩
abbrev cJ9_min_7cf53 : ByteArray := prog_15_method_69_code
def yJ9_min_7cf53 : MethodName := ⟨RJ9, "min", "(II)I"⟩
def RJ10 : String := "java/lang/System"
def TJ10 : u_T := fun k => match k with
  | _ => ("", "", "", false)
def tyJ10 : Nat → FieldType := fun k => match k with
  | _ => .int
theorem nmJ10 : ∀ a, a < 0 → ∀ b, b < 0 → a ≠ b → (TJ10 a).2.1 ≠ (TJ10 b).2.1 := by decide +kernel
theorem tyJ10_ok : ∀ k, k < 0 → parseFieldDescriptor (TJ10 k).2.2.1 = some (tyJ10 k) := by decide +kernel
def RJ7 : String := "java/util/Arrays"
def TJ7 : u_T := fun k => match k with
  | _ => ("", "", "", false)
def tyJ7 : Nat → FieldType := fun k => match k with
  | _ => .int
theorem nmJ7 : ∀ a, a < 0 → ∀ b, b < 0 → a ≠ b → (TJ7 a).2.1 ≠ (TJ7 b).2.1 := by decide +kernel
theorem tyJ7_ok : ∀ k, k < 0 → parseFieldDescriptor (TJ7 k).2.2.1 = some (tyJ7 k) := by decide +kernel
abbrev cJ7_fill_53178 : ByteArray := prog_17_method_103_code
def yJ7_fill_53178 : MethodName := ⟨RJ7, "fill", "([II)V"⟩
def RL : String := "AskedRoutesLaw"
abbrev cL_law : ByteArray := code
def yL_law : MethodName := ⟨RL, "law", "([I)Z"⟩
abbrev vwCl : List vw_C := [(RX0, TX0, 2), (RX1, TX1, 9), (RX2, TX2, 2), (RX3, TX3, 2), (RX4, TX4, 3), (RX5, TX5, 2), (RX6, TX6, 8), (RX7, TX7, 6), (RX8, TX8, 4), (RX9, TX9, 2), (RX10, TX10, 4), (RX11, TX11, 10), (RX12, TX12, 33)]
end
section
theorem dX0_init_0 : decode cX0_init 0 = .ok (.aload_n 0, 1) := by decide +kernel
theorem dX0_init_1 : decode cX0_init 1 = .ok (.invokespecial 3, 3) := by decide +kernel
theorem dX0_init_4 : decode cX0_init 4 = .ok (.aload_n 0, 1) := by decide +kernel
theorem dX0_init_5 : decode cX0_init 5 = .ok (.iconst 2, 1) := by decide +kernel
theorem dX0_init_6 : decode cX0_init 6 = .ok (.anewarray 9, 3) := by decide +kernel
theorem dX0_init_9 : decode cX0_init 9 = .ok (.putfield 11, 3) := by decide +kernel
theorem dX0_init_12 : decode cX0_init 12 = .ok (.aload_n 0, 1) := by decide +kernel
theorem dX0_init_13 : decode cX0_init 13 = .ok (.iconst 2, 1) := by decide +kernel
theorem dX0_init_14 : decode cX0_init 14 = .ok (.newarray .boolean, 2) := by decide +kernel
theorem dX0_init_16 : decode cX0_init 16 = .ok (.putfield 17, 3) := by decide +kernel
theorem dX0_init_19 : decode cX0_init 19 = .ok (.iconst 0, 1) := by decide +kernel
theorem dX0_init_20 : decode cX0_init 20 = .ok (.istore_n 1, 1) := by decide +kernel
theorem dX0_init_21 : decode cX0_init 21 = .ok (.iload_n 1, 1) := by decide +kernel
theorem dX0_init_22 : decode cX0_init 22 = .ok (.iconst 2, 1) := by decide +kernel
theorem dX0_init_23 : decode cX0_init 23 = .ok (.if_icmp .ge 22, 3) := by decide +kernel
theorem dX0_init_26 : decode cX0_init 26 = .ok (.aload_n 0, 1) := by decide +kernel
theorem dX0_init_27 : decode cX0_init 27 = .ok (.getfield 11, 3) := by decide +kernel
theorem dX0_init_30 : decode cX0_init 30 = .ok (.iload_n 1, 1) := by decide +kernel
theorem dX0_init_31 : decode cX0_init 31 = .ok (.new 9, 3) := by decide +kernel
theorem dX0_init_34 : decode cX0_init 34 = .ok (.dup, 1) := by decide +kernel
theorem dX0_init_35 : decode cX0_init 35 = .ok (.invokespecial 21, 3) := by decide +kernel
theorem dX0_init_38 : decode cX0_init 38 = .ok (.aastore, 1) := by decide +kernel
theorem dX0_init_39 : decode cX0_init 39 = .ok (.iinc 1 1, 3) := by decide +kernel
theorem dX0_init_42 : decode cX0_init 42 = .ok (.goto (-21), 3) := by decide +kernel
theorem dX0_init_45 : decode cX0_init 45 = .ok (.return_, 1) := by decide +kernel
theorem dX0_drop_0 : decode cX0_drop 0 = .ok (.iconst 0, 1) := by decide +kernel
theorem dX0_drop_1 : decode cX0_drop 1 = .ok (.istore_n 1, 1) := by decide +kernel
theorem dX0_drop_2 : decode cX0_drop 2 = .ok (.iload_n 1, 1) := by decide +kernel
theorem dX0_drop_3 : decode cX0_drop 3 = .ok (.iconst 2, 1) := by decide +kernel
theorem dX0_drop_4 : decode cX0_drop 4 = .ok (.if_icmp .ge 16, 3) := by decide +kernel
theorem dX0_drop_7 : decode cX0_drop 7 = .ok (.aload_n 0, 1) := by decide +kernel
theorem dX0_drop_8 : decode cX0_drop 8 = .ok (.getfield 17, 3) := by decide +kernel
theorem dX0_drop_11 : decode cX0_drop 11 = .ok (.iload_n 1, 1) := by decide +kernel
theorem dX0_drop_12 : decode cX0_drop 12 = .ok (.iconst 0, 1) := by decide +kernel
theorem dX0_drop_13 : decode cX0_drop 13 = .ok (.bastore, 1) := by decide +kernel
theorem dX0_drop_14 : decode cX0_drop 14 = .ok (.iinc 1 1, 3) := by decide +kernel
theorem dX0_drop_17 : decode cX0_drop 17 = .ok (.goto (-15), 3) := by decide +kernel
theorem dX0_drop_20 : decode cX0_drop 20 = .ok (.return_, 1) := by decide +kernel
theorem dX1_init_0 : decode cX1_init 0 = .ok (.aload_n 0, 1) := by decide +kernel
theorem dX1_init_1 : decode cX1_init 1 = .ok (.invokespecial 3, 3) := by decide +kernel
theorem dX1_init_4 : decode cX1_init 4 = .ok (.aload_n 0, 1) := by decide +kernel
theorem dX1_init_5 : decode cX1_init 5 = .ok (.new 9, 3) := by decide +kernel
theorem dX1_init_8 : decode cX1_init 8 = .ok (.dup, 1) := by decide +kernel
theorem dX1_init_9 : decode cX1_init 9 = .ok (.invokespecial 11, 3) := by decide +kernel
theorem dX1_init_12 : decode cX1_init 12 = .ok (.putfield 12, 3) := by decide +kernel
theorem dX1_init_15 : decode cX1_init 15 = .ok (.aload_n 0, 1) := by decide +kernel
theorem dX1_init_16 : decode cX1_init 16 = .ok (.bipush 36, 2) := by decide +kernel
theorem dX1_init_18 : decode cX1_init 18 = .ok (.newarray .int, 2) := by decide +kernel
theorem dX1_init_20 : decode cX1_init 20 = .ok (.putfield 18, 3) := by decide +kernel
theorem dX1_init_23 : decode cX1_init 23 = .ok (.aload_n 0, 1) := by decide +kernel
theorem dX1_init_24 : decode cX1_init 24 = .ok (.sipush 216, 3) := by decide +kernel
theorem dX1_init_27 : decode cX1_init 27 = .ok (.newarray .int, 2) := by decide +kernel
theorem dX1_init_29 : decode cX1_init 29 = .ok (.putfield 22, 3) := by decide +kernel
theorem dX1_init_32 : decode cX1_init 32 = .ok (.aload_n 0, 1) := by decide +kernel
theorem dX1_init_33 : decode cX1_init 33 = .ok (.sipush 216, 3) := by decide +kernel
theorem dX1_init_36 : decode cX1_init 36 = .ok (.newarray .int, 2) := by decide +kernel
theorem dX1_init_38 : decode cX1_init 38 = .ok (.putfield 25, 3) := by decide +kernel
theorem dX1_init_41 : decode cX1_init 41 = .ok (.aload_n 0, 1) := by decide +kernel
theorem dX1_init_42 : decode cX1_init 42 = .ok (.bipush 6, 2) := by decide +kernel
theorem dX1_init_44 : decode cX1_init 44 = .ok (.newarray .int, 2) := by decide +kernel
theorem dX1_init_46 : decode cX1_init 46 = .ok (.putfield 28, 3) := by decide +kernel
theorem dX1_init_49 : decode cX1_init 49 = .ok (.aload_n 0, 1) := by decide +kernel
theorem dX1_init_50 : decode cX1_init 50 = .ok (.bipush 6, 2) := by decide +kernel
theorem dX1_init_52 : decode cX1_init 52 = .ok (.newarray .int, 2) := by decide +kernel
theorem dX1_init_54 : decode cX1_init 54 = .ok (.putfield 31, 3) := by decide +kernel
theorem dX1_init_57 : decode cX1_init 57 = .ok (.aload_n 0, 1) := by decide +kernel
theorem dX1_init_58 : decode cX1_init 58 = .ok (.bipush 101, 2) := by decide +kernel
theorem dX1_init_60 : decode cX1_init 60 = .ok (.newarray .int, 2) := by decide +kernel
theorem dX1_init_62 : decode cX1_init 62 = .ok (.putfield 34, 3) := by decide +kernel
theorem dX1_init_65 : decode cX1_init 65 = .ok (.return_, 1) := by decide +kernel
theorem dX1_restart_0 : decode cX1_restart 0 = .ok (.aload_n 0, 1) := by decide +kernel
theorem dX1_restart_1 : decode cX1_restart 1 = .ok (.getfield 12, 3) := by decide +kernel
theorem dX1_restart_4 : decode cX1_restart 4 = .ok (.aload_n 1, 1) := by decide +kernel
theorem dX1_restart_5 : decode cX1_restart 5 = .ok (.invokevirtual 37, 3) := by decide +kernel
theorem dX1_restart_8 : decode cX1_restart 8 = .ok (.aload_n 0, 1) := by decide +kernel
theorem dX1_restart_9 : decode cX1_restart 9 = .ok (.getfield 18, 3) := by decide +kernel
theorem dX1_restart_12 : decode cX1_restart 12 = .ok (.iconst 0, 1) := by decide +kernel
theorem dX1_restart_13 : decode cX1_restart 13 = .ok (.invokestatic 41, 3) := by decide +kernel
theorem dX1_restart_16 : decode cX1_restart 16 = .ok (.aload_n 0, 1) := by decide +kernel
theorem dX1_restart_17 : decode cX1_restart 17 = .ok (.getfield 25, 3) := by decide +kernel
theorem dX1_restart_20 : decode cX1_restart 20 = .ok (.iconst 0, 1) := by decide +kernel
theorem dX1_restart_21 : decode cX1_restart 21 = .ok (.invokestatic 41, 3) := by decide +kernel
theorem dX1_restart_24 : decode cX1_restart 24 = .ok (.aload_n 0, 1) := by decide +kernel
theorem dX1_restart_25 : decode cX1_restart 25 = .ok (.getfield 28, 3) := by decide +kernel
theorem dX1_restart_28 : decode cX1_restart 28 = .ok (.iconst 0, 1) := by decide +kernel
theorem dX1_restart_29 : decode cX1_restart 29 = .ok (.invokestatic 41, 3) := by decide +kernel
theorem dX1_restart_32 : decode cX1_restart 32 = .ok (.aload_n 0, 1) := by decide +kernel
theorem dX1_restart_33 : decode cX1_restart 33 = .ok (.getfield 31, 3) := by decide +kernel
theorem dX1_restart_36 : decode cX1_restart 36 = .ok (.iconst 0, 1) := by decide +kernel
theorem dX1_restart_37 : decode cX1_restart 37 = .ok (.invokestatic 41, 3) := by decide +kernel
theorem dX1_restart_40 : decode cX1_restart 40 = .ok (.aload_n 0, 1) := by decide +kernel
theorem dX1_restart_41 : decode cX1_restart 41 = .ok (.iconst 0, 1) := by decide +kernel
theorem dX1_restart_42 : decode cX1_restart 42 = .ok (.putfield 47, 3) := by decide +kernel
theorem dX1_restart_45 : decode cX1_restart 45 = .ok (.aload_n 0, 1) := by decide +kernel
theorem dX1_restart_46 : decode cX1_restart 46 = .ok (.iconst 0, 1) := by decide +kernel
theorem dX1_restart_47 : decode cX1_restart 47 = .ok (.putfield 51, 3) := by decide +kernel
theorem dX1_restart_50 : decode cX1_restart 50 = .ok (.return_, 1) := by decide +kernel
theorem dX1_copyFrom_0 : decode cX1_copyFrom 0 = .ok (.aload_n 0, 1) := by decide +kernel
theorem dX1_copyFrom_1 : decode cX1_copyFrom 1 = .ok (.getfield 12, 3) := by decide +kernel
theorem dX1_copyFrom_4 : decode cX1_copyFrom 4 = .ok (.aload_n 1, 1) := by decide +kernel
theorem dX1_copyFrom_5 : decode cX1_copyFrom 5 = .ok (.getfield 12, 3) := by decide +kernel
theorem dX1_copyFrom_8 : decode cX1_copyFrom 8 = .ok (.invokevirtual 37, 3) := by decide +kernel
theorem dX1_copyFrom_11 : decode cX1_copyFrom 11 = .ok (.aload_n 1, 1) := by decide +kernel
theorem dX1_copyFrom_12 : decode cX1_copyFrom 12 = .ok (.getfield 18, 3) := by decide +kernel
theorem dX1_copyFrom_15 : decode cX1_copyFrom 15 = .ok (.iconst 0, 1) := by decide +kernel
theorem dX1_copyFrom_16 : decode cX1_copyFrom 16 = .ok (.aload_n 0, 1) := by decide +kernel
theorem dX1_copyFrom_17 : decode cX1_copyFrom 17 = .ok (.getfield 18, 3) := by decide +kernel
theorem dX1_copyFrom_20 : decode cX1_copyFrom 20 = .ok (.iconst 0, 1) := by decide +kernel
theorem dX1_copyFrom_21 : decode cX1_copyFrom 21 = .ok (.bipush 36, 2) := by decide +kernel
theorem dX1_copyFrom_23 : decode cX1_copyFrom 23 = .ok (.invokestatic 54, 3) := by decide +kernel
theorem dX1_copyFrom_26 : decode cX1_copyFrom 26 = .ok (.aload_n 1, 1) := by decide +kernel
theorem dX1_copyFrom_27 : decode cX1_copyFrom 27 = .ok (.getfield 22, 3) := by decide +kernel
theorem dX1_copyFrom_30 : decode cX1_copyFrom 30 = .ok (.iconst 0, 1) := by decide +kernel
theorem dX1_copyFrom_31 : decode cX1_copyFrom 31 = .ok (.aload_n 0, 1) := by decide +kernel
theorem dX1_copyFrom_32 : decode cX1_copyFrom 32 = .ok (.getfield 22, 3) := by decide +kernel
theorem dX1_copyFrom_35 : decode cX1_copyFrom 35 = .ok (.iconst 0, 1) := by decide +kernel
theorem dX1_copyFrom_36 : decode cX1_copyFrom 36 = .ok (.sipush 216, 3) := by decide +kernel
theorem dX1_copyFrom_39 : decode cX1_copyFrom 39 = .ok (.invokestatic 54, 3) := by decide +kernel
theorem dX1_copyFrom_42 : decode cX1_copyFrom 42 = .ok (.aload_n 1, 1) := by decide +kernel
theorem dX1_copyFrom_43 : decode cX1_copyFrom 43 = .ok (.getfield 25, 3) := by decide +kernel
theorem dX1_copyFrom_46 : decode cX1_copyFrom 46 = .ok (.iconst 0, 1) := by decide +kernel
theorem dX1_copyFrom_47 : decode cX1_copyFrom 47 = .ok (.aload_n 0, 1) := by decide +kernel
theorem dX1_copyFrom_48 : decode cX1_copyFrom 48 = .ok (.getfield 25, 3) := by decide +kernel
theorem dX1_copyFrom_51 : decode cX1_copyFrom 51 = .ok (.iconst 0, 1) := by decide +kernel
theorem dX1_copyFrom_52 : decode cX1_copyFrom 52 = .ok (.sipush 216, 3) := by decide +kernel
theorem dX1_copyFrom_55 : decode cX1_copyFrom 55 = .ok (.invokestatic 54, 3) := by decide +kernel
theorem dX1_copyFrom_58 : decode cX1_copyFrom 58 = .ok (.aload_n 1, 1) := by decide +kernel
theorem dX1_copyFrom_59 : decode cX1_copyFrom 59 = .ok (.getfield 28, 3) := by decide +kernel
theorem dX1_copyFrom_62 : decode cX1_copyFrom 62 = .ok (.iconst 0, 1) := by decide +kernel
theorem dX1_copyFrom_63 : decode cX1_copyFrom 63 = .ok (.aload_n 0, 1) := by decide +kernel
theorem dX1_copyFrom_64 : decode cX1_copyFrom 64 = .ok (.getfield 28, 3) := by decide +kernel
theorem dX1_copyFrom_67 : decode cX1_copyFrom 67 = .ok (.iconst 0, 1) := by decide +kernel
theorem dX1_copyFrom_68 : decode cX1_copyFrom 68 = .ok (.bipush 6, 2) := by decide +kernel
theorem dX1_copyFrom_70 : decode cX1_copyFrom 70 = .ok (.invokestatic 54, 3) := by decide +kernel
theorem dX1_copyFrom_73 : decode cX1_copyFrom 73 = .ok (.aload_n 1, 1) := by decide +kernel
theorem dX1_copyFrom_74 : decode cX1_copyFrom 74 = .ok (.getfield 31, 3) := by decide +kernel
theorem dX1_copyFrom_77 : decode cX1_copyFrom 77 = .ok (.iconst 0, 1) := by decide +kernel
theorem dX1_copyFrom_78 : decode cX1_copyFrom 78 = .ok (.aload_n 0, 1) := by decide +kernel
theorem dX1_copyFrom_79 : decode cX1_copyFrom 79 = .ok (.getfield 31, 3) := by decide +kernel
theorem dX1_copyFrom_82 : decode cX1_copyFrom 82 = .ok (.iconst 0, 1) := by decide +kernel
theorem dX1_copyFrom_83 : decode cX1_copyFrom 83 = .ok (.bipush 6, 2) := by decide +kernel
theorem dX1_copyFrom_85 : decode cX1_copyFrom 85 = .ok (.invokestatic 54, 3) := by decide +kernel
theorem dX1_copyFrom_88 : decode cX1_copyFrom 88 = .ok (.aload_n 1, 1) := by decide +kernel
theorem dX1_copyFrom_89 : decode cX1_copyFrom 89 = .ok (.getfield 34, 3) := by decide +kernel
theorem dX1_copyFrom_92 : decode cX1_copyFrom 92 = .ok (.iconst 0, 1) := by decide +kernel
theorem dX1_copyFrom_93 : decode cX1_copyFrom 93 = .ok (.aload_n 0, 1) := by decide +kernel
theorem dX1_copyFrom_94 : decode cX1_copyFrom 94 = .ok (.getfield 34, 3) := by decide +kernel
theorem dX1_copyFrom_97 : decode cX1_copyFrom 97 = .ok (.iconst 0, 1) := by decide +kernel
theorem dX1_copyFrom_98 : decode cX1_copyFrom 98 = .ok (.aload_n 1, 1) := by decide +kernel
theorem dX1_copyFrom_99 : decode cX1_copyFrom 99 = .ok (.getfield 47, 3) := by decide +kernel
theorem dX1_copyFrom_102 : decode cX1_copyFrom 102 = .ok (.invokestatic 54, 3) := by decide +kernel
theorem dX1_copyFrom_105 : decode cX1_copyFrom 105 = .ok (.aload_n 0, 1) := by decide +kernel
theorem dX1_copyFrom_106 : decode cX1_copyFrom 106 = .ok (.aload_n 1, 1) := by decide +kernel
theorem dX1_copyFrom_107 : decode cX1_copyFrom 107 = .ok (.getfield 47, 3) := by decide +kernel
theorem dX1_copyFrom_110 : decode cX1_copyFrom 110 = .ok (.putfield 47, 3) := by decide +kernel
theorem dX1_copyFrom_113 : decode cX1_copyFrom 113 = .ok (.aload_n 0, 1) := by decide +kernel
theorem dX1_copyFrom_114 : decode cX1_copyFrom 114 = .ok (.aload_n 1, 1) := by decide +kernel
theorem dX1_copyFrom_115 : decode cX1_copyFrom 115 = .ok (.getfield 51, 3) := by decide +kernel
theorem dX1_copyFrom_118 : decode cX1_copyFrom 118 = .ok (.putfield 51, 3) := by decide +kernel
theorem dX1_copyFrom_121 : decode cX1_copyFrom 121 = .ok (.return_, 1) := by decide +kernel
theorem dX1_takeAway_0 : decode cX1_takeAway 0 = .ok (.aload_n 0, 1) := by decide +kernel
theorem dX1_takeAway_1 : decode cX1_takeAway 1 = .ok (.getfield 12, 3) := by decide +kernel
theorem dX1_takeAway_4 : decode cX1_takeAway 4 = .ok (.iload_n 1, 1) := by decide +kernel
theorem dX1_takeAway_5 : decode cX1_takeAway 5 = .ok (.iload_n 2, 1) := by decide +kernel
theorem dX1_takeAway_6 : decode cX1_takeAway 6 = .ok (.invokevirtual 60, 3) := by decide +kernel
theorem dX1_takeAway_9 : decode cX1_takeAway 9 = .ok (.aload_n 0, 1) := by decide +kernel
theorem dX1_takeAway_10 : decode cX1_takeAway 10 = .ok (.getfield 18, 3) := by decide +kernel
theorem dX1_takeAway_13 : decode cX1_takeAway 13 = .ok (.iload_n 1, 1) := by decide +kernel
theorem dX1_takeAway_14 : decode cX1_takeAway 14 = .ok (.iload_n 2, 1) := by decide +kernel
theorem dX1_takeAway_15 : decode cX1_takeAway 15 = .ok (.invokestatic 64, 3) := by decide +kernel
theorem dX1_takeAway_18 : decode cX1_takeAway 18 = .ok (.iconst 0, 1) := by decide +kernel
theorem dX1_takeAway_19 : decode cX1_takeAway 19 = .ok (.iastore, 1) := by decide +kernel
theorem dX1_takeAway_20 : decode cX1_takeAway 20 = .ok (.iconst 0, 1) := by decide +kernel
theorem dX1_takeAway_21 : decode cX1_takeAway 21 = .ok (.istore_n 3, 1) := by decide +kernel
theorem dX1_takeAway_22 : decode cX1_takeAway 22 = .ok (.iload_n 3, 1) := by decide +kernel
theorem dX1_takeAway_23 : decode cX1_takeAway 23 = .ok (.bipush 6, 2) := by decide +kernel
theorem dX1_takeAway_25 : decode cX1_takeAway 25 = .ok (.if_icmp .ge 33, 3) := by decide +kernel
theorem dX1_takeAway_28 : decode cX1_takeAway 28 = .ok (.aload_n 0, 1) := by decide +kernel
theorem dX1_takeAway_29 : decode cX1_takeAway 29 = .ok (.getfield 25, 3) := by decide +kernel
theorem dX1_takeAway_32 : decode cX1_takeAway 32 = .ok (.iload_n 1, 1) := by decide +kernel
theorem dX1_takeAway_33 : decode cX1_takeAway 33 = .ok (.iload_n 3, 1) := by decide +kernel
theorem dX1_takeAway_34 : decode cX1_takeAway 34 = .ok (.iload_n 2, 1) := by decide +kernel
theorem dX1_takeAway_35 : decode cX1_takeAway 35 = .ok (.invokestatic 68, 3) := by decide +kernel
theorem dX1_takeAway_38 : decode cX1_takeAway 38 = .ok (.iconst 0, 1) := by decide +kernel
theorem dX1_takeAway_39 : decode cX1_takeAway 39 = .ok (.iastore, 1) := by decide +kernel
theorem dX1_takeAway_40 : decode cX1_takeAway 40 = .ok (.aload_n 0, 1) := by decide +kernel
theorem dX1_takeAway_41 : decode cX1_takeAway 41 = .ok (.getfield 25, 3) := by decide +kernel
theorem dX1_takeAway_44 : decode cX1_takeAway 44 = .ok (.iload_n 2, 1) := by decide +kernel
theorem dX1_takeAway_45 : decode cX1_takeAway 45 = .ok (.iload_n 3, 1) := by decide +kernel
theorem dX1_takeAway_46 : decode cX1_takeAway 46 = .ok (.iload_n 1, 1) := by decide +kernel
theorem dX1_takeAway_47 : decode cX1_takeAway 47 = .ok (.invokestatic 68, 3) := by decide +kernel
theorem dX1_takeAway_50 : decode cX1_takeAway 50 = .ok (.iconst 0, 1) := by decide +kernel
theorem dX1_takeAway_51 : decode cX1_takeAway 51 = .ok (.iastore, 1) := by decide +kernel
theorem dX1_takeAway_52 : decode cX1_takeAway 52 = .ok (.iinc 3 1, 3) := by decide +kernel
theorem dX1_takeAway_55 : decode cX1_takeAway 55 = .ok (.goto (-33), 3) := by decide +kernel
theorem dX1_takeAway_58 : decode cX1_takeAway 58 = .ok (.return_, 1) := by decide +kernel
theorem dX1_addToWay_0 : decode cX1_addToWay 0 = .ok (.aload_n 0, 1) := by decide +kernel
theorem dX1_addToWay_1 : decode cX1_addToWay 1 = .ok (.getfield 47, 3) := by decide +kernel
theorem dX1_addToWay_4 : decode cX1_addToWay 4 = .ok (.bipush 100, 2) := by decide +kernel
theorem dX1_addToWay_6 : decode cX1_addToWay 6 = .ok (.if_icmp .gt 23, 3) := by decide +kernel
theorem dX1_addToWay_9 : decode cX1_addToWay 9 = .ok (.aload_n 0, 1) := by decide +kernel
theorem dX1_addToWay_10 : decode cX1_addToWay 10 = .ok (.getfield 34, 3) := by decide +kernel
theorem dX1_addToWay_13 : decode cX1_addToWay 13 = .ok (.aload_n 0, 1) := by decide +kernel
theorem dX1_addToWay_14 : decode cX1_addToWay 14 = .ok (.getfield 47, 3) := by decide +kernel
theorem dX1_addToWay_17 : decode cX1_addToWay 17 = .ok (.iload_n 1, 1) := by decide +kernel
theorem dX1_addToWay_18 : decode cX1_addToWay 18 = .ok (.iastore, 1) := by decide +kernel
theorem dX1_addToWay_19 : decode cX1_addToWay 19 = .ok (.aload_n 0, 1) := by decide +kernel
theorem dX1_addToWay_20 : decode cX1_addToWay 20 = .ok (.dup, 1) := by decide +kernel
theorem dX1_addToWay_21 : decode cX1_addToWay 21 = .ok (.getfield 47, 3) := by decide +kernel
theorem dX1_addToWay_24 : decode cX1_addToWay 24 = .ok (.iconst 1, 1) := by decide +kernel
theorem dX1_addToWay_25 : decode cX1_addToWay 25 = .ok (.iadd, 1) := by decide +kernel
theorem dX1_addToWay_26 : decode cX1_addToWay 26 = .ok (.putfield 47, 3) := by decide +kernel
theorem dX1_addToWay_29 : decode cX1_addToWay 29 = .ok (.return_, 1) := by decide +kernel
theorem dX1_countHop_0 : decode cX1_countHop 0 = .ok (.aload_n 0, 1) := by decide +kernel
theorem dX1_countHop_1 : decode cX1_countHop 1 = .ok (.getfield 18, 3) := by decide +kernel
theorem dX1_countHop_4 : decode cX1_countHop 4 = .ok (.iload_n 1, 1) := by decide +kernel
theorem dX1_countHop_5 : decode cX1_countHop 5 = .ok (.iload_n 2, 1) := by decide +kernel
theorem dX1_countHop_6 : decode cX1_countHop 6 = .ok (.invokestatic 72, 3) := by decide +kernel
theorem dX1_countHop_9 : decode cX1_countHop 9 = .ok (.iload_n 1, 1) := by decide +kernel
theorem dX1_countHop_10 : decode cX1_countHop 10 = .ok (.iload_n 2, 1) := by decide +kernel
theorem dX1_countHop_11 : decode cX1_countHop 11 = .ok (.invokestatic 77, 3) := by decide +kernel
theorem dX1_countHop_14 : decode cX1_countHop 14 = .ok (.invokestatic 64, 3) := by decide +kernel
theorem dX1_countHop_17 : decode cX1_countHop 17 = .ok (.dup2, 1) := by decide +kernel
theorem dX1_countHop_18 : decode cX1_countHop 18 = .ok (.iaload, 1) := by decide +kernel
theorem dX1_countHop_19 : decode cX1_countHop 19 = .ok (.iconst 1, 1) := by decide +kernel
theorem dX1_countHop_20 : decode cX1_countHop 20 = .ok (.iadd, 1) := by decide +kernel
theorem dX1_countHop_21 : decode cX1_countHop 21 = .ok (.iastore, 1) := by decide +kernel
theorem dX1_countHop_22 : decode cX1_countHop 22 = .ok (.aload_n 0, 1) := by decide +kernel
theorem dX1_countHop_23 : decode cX1_countHop 23 = .ok (.iload_n 2, 1) := by decide +kernel
theorem dX1_countHop_24 : decode cX1_countHop 24 = .ok (.invokevirtual 80, 3) := by decide +kernel
theorem dX1_countHop_27 : decode cX1_countHop 27 = .ok (.return_, 1) := by decide +kernel
theorem dX2_init_0 : decode cX2_init 0 = .ok (.aload_n 0, 1) := by decide +kernel
theorem dX2_init_1 : decode cX2_init 1 = .ok (.invokespecial 3, 3) := by decide +kernel
theorem dX2_init_4 : decode cX2_init 4 = .ok (.aload_n 0, 1) := by decide +kernel
theorem dX2_init_5 : decode cX2_init 5 = .ok (.bipush 36, 2) := by decide +kernel
theorem dX2_init_7 : decode cX2_init 7 = .ok (.newarray .int, 2) := by decide +kernel
theorem dX2_init_9 : decode cX2_init 9 = .ok (.putfield 9, 3) := by decide +kernel
theorem dX2_init_12 : decode cX2_init 12 = .ok (.return_, 1) := by decide +kernel
theorem dX2_measure_0 : decode cX2_measure 0 = .ok (.aload_n 0, 1) := by decide +kernel
theorem dX2_measure_1 : decode cX2_measure 1 = .ok (.iload_n 2, 1) := by decide +kernel
theorem dX2_measure_2 : decode cX2_measure 2 = .ok (.putfield 15, 3) := by decide +kernel
theorem dX2_measure_5 : decode cX2_measure 5 = .ok (.iconst 0, 1) := by decide +kernel
theorem dX2_measure_6 : decode cX2_measure 6 = .ok (.istore 4, 2) := by decide +kernel
theorem dX2_measure_8 : decode cX2_measure 8 = .ok (.iload 4, 2) := by decide +kernel
theorem dX2_measure_10 : decode cX2_measure 10 = .ok (.aload_n 0, 1) := by decide +kernel
theorem dX2_measure_11 : decode cX2_measure 11 = .ok (.getfield 15, 3) := by decide +kernel
theorem dX2_measure_14 : decode cX2_measure 14 = .ok (.if_icmp .ge 49, 3) := by decide +kernel
theorem dX2_measure_17 : decode cX2_measure 17 = .ok (.iconst 0, 1) := by decide +kernel
theorem dX2_measure_18 : decode cX2_measure 18 = .ok (.istore 5, 2) := by decide +kernel
theorem dX2_measure_20 : decode cX2_measure 20 = .ok (.iload 5, 2) := by decide +kernel
theorem dX2_measure_22 : decode cX2_measure 22 = .ok (.aload_n 0, 1) := by decide +kernel
theorem dX2_measure_23 : decode cX2_measure 23 = .ok (.getfield 15, 3) := by decide +kernel
theorem dX2_measure_26 : decode cX2_measure 26 = .ok (.if_icmp .ge 31, 3) := by decide +kernel
theorem dX2_measure_29 : decode cX2_measure 29 = .ok (.aload_n 0, 1) := by decide +kernel
theorem dX2_measure_30 : decode cX2_measure 30 = .ok (.getfield 9, 3) := by decide +kernel
theorem dX2_measure_33 : decode cX2_measure 33 = .ok (.iload 4, 2) := by decide +kernel
theorem dX2_measure_35 : decode cX2_measure 35 = .ok (.iload 5, 2) := by decide +kernel
theorem dX2_measure_37 : decode cX2_measure 37 = .ok (.invokestatic 19, 3) := by decide +kernel
theorem dX2_measure_40 : decode cX2_measure 40 = .ok (.aload_n 0, 1) := by decide +kernel
theorem dX2_measure_41 : decode cX2_measure 41 = .ok (.aload_n 1, 1) := by decide +kernel
theorem dX2_measure_42 : decode cX2_measure 42 = .ok (.iload 4, 2) := by decide +kernel
theorem dX2_measure_44 : decode cX2_measure 44 = .ok (.iload 5, 2) := by decide +kernel
theorem dX2_measure_46 : decode cX2_measure 46 = .ok (.iload_n 3, 1) := by decide +kernel
theorem dX2_measure_47 : decode cX2_measure 47 = .ok (.invokevirtual 23, 3) := by decide +kernel
theorem dX2_measure_50 : decode cX2_measure 50 = .ok (.iastore, 1) := by decide +kernel
theorem dX2_measure_51 : decode cX2_measure 51 = .ok (.iinc 5 1, 3) := by decide +kernel
theorem dX2_measure_54 : decode cX2_measure 54 = .ok (.goto (-34), 3) := by decide +kernel
theorem dX2_measure_57 : decode cX2_measure 57 = .ok (.iinc 4 1, 3) := by decide +kernel
theorem dX2_measure_60 : decode cX2_measure 60 = .ok (.goto (-52), 3) := by decide +kernel
theorem dX2_measure_63 : decode cX2_measure 63 = .ok (.iconst 0, 1) := by decide +kernel
theorem dX2_measure_64 : decode cX2_measure 64 = .ok (.istore 4, 2) := by decide +kernel
theorem dX2_measure_66 : decode cX2_measure 66 = .ok (.iload 4, 2) := by decide +kernel
theorem dX2_measure_68 : decode cX2_measure 68 = .ok (.aload_n 0, 1) := by decide +kernel
theorem dX2_measure_69 : decode cX2_measure 69 = .ok (.getfield 15, 3) := by decide +kernel
theorem dX2_measure_72 : decode cX2_measure 72 = .ok (.if_icmp .ge 101, 3) := by decide +kernel
theorem dX2_measure_75 : decode cX2_measure 75 = .ok (.iconst 0, 1) := by decide +kernel
theorem dX2_measure_76 : decode cX2_measure 76 = .ok (.istore 5, 2) := by decide +kernel
theorem dX2_measure_78 : decode cX2_measure 78 = .ok (.iload 5, 2) := by decide +kernel
theorem dX2_measure_80 : decode cX2_measure 80 = .ok (.aload_n 0, 1) := by decide +kernel
theorem dX2_measure_81 : decode cX2_measure 81 = .ok (.getfield 15, 3) := by decide +kernel
theorem dX2_measure_84 : decode cX2_measure 84 = .ok (.if_icmp .ge 83, 3) := by decide +kernel
theorem dX2_measure_87 : decode cX2_measure 87 = .ok (.iconst 0, 1) := by decide +kernel
theorem dX2_measure_88 : decode cX2_measure 88 = .ok (.istore 6, 2) := by decide +kernel
theorem dX2_measure_90 : decode cX2_measure 90 = .ok (.iload 6, 2) := by decide +kernel
theorem dX2_measure_92 : decode cX2_measure 92 = .ok (.aload_n 0, 1) := by decide +kernel
theorem dX2_measure_93 : decode cX2_measure 93 = .ok (.getfield 15, 3) := by decide +kernel
theorem dX2_measure_96 : decode cX2_measure 96 = .ok (.if_icmp .ge 65, 3) := by decide +kernel
theorem dX2_measure_99 : decode cX2_measure 99 = .ok (.aload_n 0, 1) := by decide +kernel
theorem dX2_measure_100 : decode cX2_measure 100 = .ok (.getfield 9, 3) := by decide +kernel
theorem dX2_measure_103 : decode cX2_measure 103 = .ok (.iload 5, 2) := by decide +kernel
theorem dX2_measure_105 : decode cX2_measure 105 = .ok (.iload 4, 2) := by decide +kernel
theorem dX2_measure_107 : decode cX2_measure 107 = .ok (.invokestatic 19, 3) := by decide +kernel
theorem dX2_measure_110 : decode cX2_measure 110 = .ok (.iaload, 1) := by decide +kernel
theorem dX2_measure_111 : decode cX2_measure 111 = .ok (.aload_n 0, 1) := by decide +kernel
theorem dX2_measure_112 : decode cX2_measure 112 = .ok (.getfield 9, 3) := by decide +kernel
theorem dX2_measure_115 : decode cX2_measure 115 = .ok (.iload 4, 2) := by decide +kernel
theorem dX2_measure_117 : decode cX2_measure 117 = .ok (.iload 6, 2) := by decide +kernel
theorem dX2_measure_119 : decode cX2_measure 119 = .ok (.invokestatic 19, 3) := by decide +kernel
theorem dX2_measure_122 : decode cX2_measure 122 = .ok (.iaload, 1) := by decide +kernel
theorem dX2_measure_123 : decode cX2_measure 123 = .ok (.iadd, 1) := by decide +kernel
theorem dX2_measure_124 : decode cX2_measure 124 = .ok (.istore 7, 2) := by decide +kernel
theorem dX2_measure_126 : decode cX2_measure 126 = .ok (.aload_n 0, 1) := by decide +kernel
theorem dX2_measure_127 : decode cX2_measure 127 = .ok (.getfield 9, 3) := by decide +kernel
theorem dX2_measure_130 : decode cX2_measure 130 = .ok (.iload 5, 2) := by decide +kernel
theorem dX2_measure_132 : decode cX2_measure 132 = .ok (.iload 6, 2) := by decide +kernel
theorem dX2_measure_134 : decode cX2_measure 134 = .ok (.invokestatic 19, 3) := by decide +kernel
theorem dX2_measure_137 : decode cX2_measure 137 = .ok (.aload_n 0, 1) := by decide +kernel
theorem dX2_measure_138 : decode cX2_measure 138 = .ok (.getfield 9, 3) := by decide +kernel
theorem dX2_measure_141 : decode cX2_measure 141 = .ok (.iload 5, 2) := by decide +kernel
theorem dX2_measure_143 : decode cX2_measure 143 = .ok (.iload 6, 2) := by decide +kernel
theorem dX2_measure_145 : decode cX2_measure 145 = .ok (.invokestatic 19, 3) := by decide +kernel
theorem dX2_measure_148 : decode cX2_measure 148 = .ok (.iaload, 1) := by decide +kernel
theorem dX2_measure_149 : decode cX2_measure 149 = .ok (.iload 7, 2) := by decide +kernel
theorem dX2_measure_151 : decode cX2_measure 151 = .ok (.invokestatic 27, 3) := by decide +kernel
theorem dX2_measure_154 : decode cX2_measure 154 = .ok (.iastore, 1) := by decide +kernel
theorem dX2_measure_155 : decode cX2_measure 155 = .ok (.iinc 6 1, 3) := by decide +kernel
theorem dX2_measure_158 : decode cX2_measure 158 = .ok (.goto (-68), 3) := by decide +kernel
theorem dX2_measure_161 : decode cX2_measure 161 = .ok (.iinc 5 1, 3) := by decide +kernel
theorem dX2_measure_164 : decode cX2_measure 164 = .ok (.goto (-86), 3) := by decide +kernel
theorem dX2_measure_167 : decode cX2_measure 167 = .ok (.iinc 4 1, 3) := by decide +kernel
theorem dX2_measure_170 : decode cX2_measure 170 = .ok (.goto (-104), 3) := by decide +kernel
theorem dX2_measure_173 : decode cX2_measure 173 = .ok (.return_, 1) := by decide +kernel
theorem dX2_stepFrom_0 : decode cX2_stepFrom 0 = .ok (.iload_n 2, 1) := by decide +kernel
theorem dX2_stepFrom_1 : decode cX2_stepFrom 1 = .ok (.iload_n 3, 1) := by decide +kernel
theorem dX2_stepFrom_2 : decode cX2_stepFrom 2 = .ok (.if_icmp .ne 5, 3) := by decide +kernel
theorem dX2_stepFrom_5 : decode cX2_stepFrom 5 = .ok (.iconst 0, 1) := by decide +kernel
theorem dX2_stepFrom_6 : decode cX2_stepFrom 6 = .ok (.ireturn, 1) := by decide +kernel
theorem dX2_stepFrom_7 : decode cX2_stepFrom 7 = .ok (.aload_n 1, 1) := by decide +kernel
theorem dX2_stepFrom_8 : decode cX2_stepFrom 8 = .ok (.iload_n 2, 1) := by decide +kernel
theorem dX2_stepFrom_9 : decode cX2_stepFrom 9 = .ok (.iload_n 3, 1) := by decide +kernel
theorem dX2_stepFrom_10 : decode cX2_stepFrom 10 = .ok (.invokevirtual 32, 3) := by decide +kernel
theorem dX2_stepFrom_13 : decode cX2_stepFrom 13 = .ok (.istore 5, 2) := by decide +kernel
theorem dX2_stepFrom_15 : decode cX2_stepFrom 15 = .ok (.iload 5, 2) := by decide +kernel
theorem dX2_stepFrom_17 : decode cX2_stepFrom 17 = .ok (.ifCond .eq 21, 3) := by decide +kernel
theorem dX2_stepFrom_20 : decode cX2_stepFrom 20 = .ok (.iload_n 2, 1) := by decide +kernel
theorem dX2_stepFrom_21 : decode cX2_stepFrom 21 = .ok (.iload_n 3, 1) := by decide +kernel
theorem dX2_stepFrom_22 : decode cX2_stepFrom 22 = .ok (.invokestatic 27, 3) := by decide +kernel
theorem dX2_stepFrom_25 : decode cX2_stepFrom 25 = .ok (.iload_n 2, 1) := by decide +kernel
theorem dX2_stepFrom_26 : decode cX2_stepFrom 26 = .ok (.iload_n 3, 1) := by decide +kernel
theorem dX2_stepFrom_27 : decode cX2_stepFrom 27 = .ok (.invokestatic 37, 3) := by decide +kernel
theorem dX2_stepFrom_30 : decode cX2_stepFrom 30 = .ok (.invokestatic 19, 3) := by decide +kernel
theorem dX2_stepFrom_33 : decode cX2_stepFrom 33 = .ok (.iload 4, 2) := by decide +kernel
theorem dX2_stepFrom_35 : decode cX2_stepFrom 35 = .ok (.if_icmp .ne 6, 3) := by decide +kernel
theorem dX2_stepFrom_38 : decode cX2_stepFrom 38 = .ok (.ldc 40, 2) := by decide +kernel
theorem dX2_stepFrom_40 : decode cX2_stepFrom 40 = .ok (.ireturn, 1) := by decide +kernel
theorem dX2_stepFrom_41 : decode cX2_stepFrom 41 = .ok (.iload 5, 2) := by decide +kernel
theorem dX2_stepFrom_43 : decode cX2_stepFrom 43 = .ok (.ireturn, 1) := by decide +kernel
theorem dX2_between_0 : decode cX2_between 0 = .ok (.aload_n 0, 1) := by decide +kernel
theorem dX2_between_1 : decode cX2_between 1 = .ok (.getfield 9, 3) := by decide +kernel
theorem dX2_between_4 : decode cX2_between 4 = .ok (.iload_n 1, 1) := by decide +kernel
theorem dX2_between_5 : decode cX2_between 5 = .ok (.iload_n 2, 1) := by decide +kernel
theorem dX2_between_6 : decode cX2_between 6 = .ok (.invokestatic 19, 3) := by decide +kernel
theorem dX2_between_9 : decode cX2_between 9 = .ok (.iaload, 1) := by decide +kernel
theorem dX2_between_10 : decode cX2_between 10 = .ok (.istore_n 3, 1) := by decide +kernel
theorem dX2_between_11 : decode cX2_between 11 = .ok (.iload_n 3, 1) := by decide +kernel
theorem dX2_between_12 : decode cX2_between 12 = .ok (.ldc 40, 2) := by decide +kernel
theorem dX2_between_14 : decode cX2_between 14 = .ok (.if_icmp .lt 8, 3) := by decide +kernel
theorem dX2_between_17 : decode cX2_between 17 = .ok (.bipush (-9), 2) := by decide +kernel
theorem dX2_between_19 : decode cX2_between 19 = .ok (.goto 4, 3) := by decide +kernel
theorem dX2_between_22 : decode cX2_between 22 = .ok (.iload_n 3, 1) := by decide +kernel
theorem dX2_between_23 : decode cX2_between 23 = .ok (.ireturn, 1) := by decide +kernel
theorem dX2_sumOfAll_0 : decode cX2_sumOfAll 0 = .ok (.iconst 0, 1) := by decide +kernel
theorem dX2_sumOfAll_1 : decode cX2_sumOfAll 1 = .ok (.istore_n 1, 1) := by decide +kernel
theorem dX2_sumOfAll_2 : decode cX2_sumOfAll 2 = .ok (.iconst 0, 1) := by decide +kernel
theorem dX2_sumOfAll_3 : decode cX2_sumOfAll 3 = .ok (.istore_n 2, 1) := by decide +kernel
theorem dX2_sumOfAll_4 : decode cX2_sumOfAll 4 = .ok (.iload_n 2, 1) := by decide +kernel
theorem dX2_sumOfAll_5 : decode cX2_sumOfAll 5 = .ok (.aload_n 0, 1) := by decide +kernel
theorem dX2_sumOfAll_6 : decode cX2_sumOfAll 6 = .ok (.getfield 15, 3) := by decide +kernel
theorem dX2_sumOfAll_9 : decode cX2_sumOfAll 9 = .ok (.if_icmp .ge 50, 3) := by decide +kernel
theorem dX2_sumOfAll_12 : decode cX2_sumOfAll 12 = .ok (.iconst 0, 1) := by decide +kernel
theorem dX2_sumOfAll_13 : decode cX2_sumOfAll 13 = .ok (.istore_n 3, 1) := by decide +kernel
theorem dX2_sumOfAll_14 : decode cX2_sumOfAll 14 = .ok (.iload_n 3, 1) := by decide +kernel
theorem dX2_sumOfAll_15 : decode cX2_sumOfAll 15 = .ok (.aload_n 0, 1) := by decide +kernel
theorem dX2_sumOfAll_16 : decode cX2_sumOfAll 16 = .ok (.getfield 15, 3) := by decide +kernel
theorem dX2_sumOfAll_19 : decode cX2_sumOfAll 19 = .ok (.if_icmp .ge 34, 3) := by decide +kernel
theorem dX2_sumOfAll_22 : decode cX2_sumOfAll 22 = .ok (.aload_n 0, 1) := by decide +kernel
theorem dX2_sumOfAll_23 : decode cX2_sumOfAll 23 = .ok (.iload_n 2, 1) := by decide +kernel
theorem dX2_sumOfAll_24 : decode cX2_sumOfAll 24 = .ok (.iload_n 3, 1) := by decide +kernel
theorem dX2_sumOfAll_25 : decode cX2_sumOfAll 25 = .ok (.invokevirtual 41, 3) := by decide +kernel
theorem dX2_sumOfAll_28 : decode cX2_sumOfAll 28 = .ok (.istore 4, 2) := by decide +kernel
theorem dX2_sumOfAll_30 : decode cX2_sumOfAll 30 = .ok (.iload_n 1, 1) := by decide +kernel
theorem dX2_sumOfAll_31 : decode cX2_sumOfAll 31 = .ok (.iload 4, 2) := by decide +kernel
theorem dX2_sumOfAll_33 : decode cX2_sumOfAll 33 = .ok (.bipush (-9), 2) := by decide +kernel
theorem dX2_sumOfAll_35 : decode cX2_sumOfAll 35 = .ok (.if_icmp .ne 8, 3) := by decide +kernel
theorem dX2_sumOfAll_38 : decode cX2_sumOfAll 38 = .ok (.bipush 100, 2) := by decide +kernel
theorem dX2_sumOfAll_40 : decode cX2_sumOfAll 40 = .ok (.goto 5, 3) := by decide +kernel
theorem dX2_sumOfAll_43 : decode cX2_sumOfAll 43 = .ok (.iload 4, 2) := by decide +kernel
theorem dX2_sumOfAll_45 : decode cX2_sumOfAll 45 = .ok (.iadd, 1) := by decide +kernel
theorem dX2_sumOfAll_46 : decode cX2_sumOfAll 46 = .ok (.istore_n 1, 1) := by decide +kernel
theorem dX2_sumOfAll_47 : decode cX2_sumOfAll 47 = .ok (.iinc 3 1, 3) := by decide +kernel
theorem dX2_sumOfAll_50 : decode cX2_sumOfAll 50 = .ok (.goto (-36), 3) := by decide +kernel
theorem dX2_sumOfAll_53 : decode cX2_sumOfAll 53 = .ok (.iinc 2 1, 3) := by decide +kernel
theorem dX2_sumOfAll_56 : decode cX2_sumOfAll 56 = .ok (.goto (-52), 3) := by decide +kernel
theorem dX2_sumOfAll_59 : decode cX2_sumOfAll 59 = .ok (.iload_n 1, 1) := by decide +kernel
theorem dX2_sumOfAll_60 : decode cX2_sumOfAll 60 = .ok (.ireturn, 1) := by decide +kernel
theorem dX3_init_0 : decode cX3_init 0 = .ok (.aload_n 0, 1) := by decide +kernel
theorem dX3_init_1 : decode cX3_init 1 = .ok (.invokespecial 3, 3) := by decide +kernel
theorem dX3_init_4 : decode cX3_init 4 = .ok (.aload_n 0, 1) := by decide +kernel
theorem dX3_init_5 : decode cX3_init 5 = .ok (.bipush 36, 2) := by decide +kernel
theorem dX3_init_7 : decode cX3_init 7 = .ok (.newarray .int, 2) := by decide +kernel
theorem dX3_init_9 : decode cX3_init 9 = .ok (.putfield 9, 3) := by decide +kernel
theorem dX3_init_12 : decode cX3_init 12 = .ok (.return_, 1) := by decide +kernel
theorem dX3_restart_0 : decode cX3_restart 0 = .ok (.aload_n 0, 1) := by decide +kernel
theorem dX3_restart_1 : decode cX3_restart 1 = .ok (.getfield 9, 3) := by decide +kernel
theorem dX3_restart_4 : decode cX3_restart 4 = .ok (.iconst 0, 1) := by decide +kernel
theorem dX3_restart_5 : decode cX3_restart 5 = .ok (.invokestatic 15, 3) := by decide +kernel
theorem dX3_restart_8 : decode cX3_restart 8 = .ok (.aload_n 0, 1) := by decide +kernel
theorem dX3_restart_9 : decode cX3_restart 9 = .ok (.iconst 0, 1) := by decide +kernel
theorem dX3_restart_10 : decode cX3_restart 10 = .ok (.putfield 21, 3) := by decide +kernel
theorem dX3_restart_13 : decode cX3_restart 13 = .ok (.return_, 1) := by decide +kernel
theorem dX3_copyFrom_0 : decode cX3_copyFrom 0 = .ok (.aload_n 1, 1) := by decide +kernel
theorem dX3_copyFrom_1 : decode cX3_copyFrom 1 = .ok (.getfield 9, 3) := by decide +kernel
theorem dX3_copyFrom_4 : decode cX3_copyFrom 4 = .ok (.iconst 0, 1) := by decide +kernel
theorem dX3_copyFrom_5 : decode cX3_copyFrom 5 = .ok (.aload_n 0, 1) := by decide +kernel
theorem dX3_copyFrom_6 : decode cX3_copyFrom 6 = .ok (.getfield 9, 3) := by decide +kernel
theorem dX3_copyFrom_9 : decode cX3_copyFrom 9 = .ok (.iconst 0, 1) := by decide +kernel
theorem dX3_copyFrom_10 : decode cX3_copyFrom 10 = .ok (.bipush 36, 2) := by decide +kernel
theorem dX3_copyFrom_12 : decode cX3_copyFrom 12 = .ok (.invokestatic 25, 3) := by decide +kernel
theorem dX3_copyFrom_15 : decode cX3_copyFrom 15 = .ok (.aload_n 0, 1) := by decide +kernel
theorem dX3_copyFrom_16 : decode cX3_copyFrom 16 = .ok (.aload_n 1, 1) := by decide +kernel
theorem dX3_copyFrom_17 : decode cX3_copyFrom 17 = .ok (.getfield 21, 3) := by decide +kernel
theorem dX3_copyFrom_20 : decode cX3_copyFrom 20 = .ok (.putfield 21, 3) := by decide +kernel
theorem dX3_copyFrom_23 : decode cX3_copyFrom 23 = .ok (.return_, 1) := by decide +kernel
theorem dX3_delayOf_0 : decode cX3_delayOf 0 = .ok (.aload_n 0, 1) := by decide +kernel
theorem dX3_delayOf_1 : decode cX3_delayOf 1 = .ok (.getfield 9, 3) := by decide +kernel
theorem dX3_delayOf_4 : decode cX3_delayOf 4 = .ok (.iload_n 1, 1) := by decide +kernel
theorem dX3_delayOf_5 : decode cX3_delayOf 5 = .ok (.iload_n 2, 1) := by decide +kernel
theorem dX3_delayOf_6 : decode cX3_delayOf 6 = .ok (.invokestatic 31, 3) := by decide +kernel
theorem dX3_delayOf_9 : decode cX3_delayOf 9 = .ok (.iaload, 1) := by decide +kernel
theorem dX3_delayOf_10 : decode cX3_delayOf 10 = .ok (.ireturn, 1) := by decide +kernel
theorem dX3_put_0 : decode cX3_put 0 = .ok (.aload_n 0, 1) := by decide +kernel
theorem dX3_put_1 : decode cX3_put 1 = .ok (.iload_n 1, 1) := by decide +kernel
theorem dX3_put_2 : decode cX3_put 2 = .ok (.iload_n 2, 1) := by decide +kernel
theorem dX3_put_3 : decode cX3_put 3 = .ok (.invokevirtual 35, 3) := by decide +kernel
theorem dX3_put_6 : decode cX3_put 6 = .ok (.ifCond .ne 13, 3) := by decide +kernel
theorem dX3_put_9 : decode cX3_put 9 = .ok (.aload_n 0, 1) := by decide +kernel
theorem dX3_put_10 : decode cX3_put 10 = .ok (.dup, 1) := by decide +kernel
theorem dX3_put_11 : decode cX3_put 11 = .ok (.getfield 21, 3) := by decide +kernel
theorem dX3_put_14 : decode cX3_put 14 = .ok (.iconst 1, 1) := by decide +kernel
theorem dX3_put_15 : decode cX3_put 15 = .ok (.iadd, 1) := by decide +kernel
theorem dX3_put_16 : decode cX3_put 16 = .ok (.putfield 21, 3) := by decide +kernel
theorem dX3_put_19 : decode cX3_put 19 = .ok (.aload_n 0, 1) := by decide +kernel
theorem dX3_put_20 : decode cX3_put 20 = .ok (.getfield 9, 3) := by decide +kernel
theorem dX3_put_23 : decode cX3_put 23 = .ok (.iload_n 1, 1) := by decide +kernel
theorem dX3_put_24 : decode cX3_put 24 = .ok (.iload_n 2, 1) := by decide +kernel
theorem dX3_put_25 : decode cX3_put 25 = .ok (.invokestatic 31, 3) := by decide +kernel
theorem dX3_put_28 : decode cX3_put 28 = .ok (.iload_n 3, 1) := by decide +kernel
theorem dX3_put_29 : decode cX3_put 29 = .ok (.iastore, 1) := by decide +kernel
theorem dX3_put_30 : decode cX3_put 30 = .ok (.aload_n 0, 1) := by decide +kernel
theorem dX3_put_31 : decode cX3_put 31 = .ok (.getfield 9, 3) := by decide +kernel
theorem dX3_put_34 : decode cX3_put 34 = .ok (.iload_n 2, 1) := by decide +kernel
theorem dX3_put_35 : decode cX3_put 35 = .ok (.iload_n 1, 1) := by decide +kernel
theorem dX3_put_36 : decode cX3_put 36 = .ok (.invokestatic 31, 3) := by decide +kernel
theorem dX3_put_39 : decode cX3_put 39 = .ok (.iload_n 3, 1) := by decide +kernel
theorem dX3_put_40 : decode cX3_put 40 = .ok (.iastore, 1) := by decide +kernel
theorem dX3_put_41 : decode cX3_put 41 = .ok (.return_, 1) := by decide +kernel
theorem dX3_takeAway_0 : decode cX3_takeAway 0 = .ok (.aload_n 0, 1) := by decide +kernel
theorem dX3_takeAway_1 : decode cX3_takeAway 1 = .ok (.iload_n 1, 1) := by decide +kernel
theorem dX3_takeAway_2 : decode cX3_takeAway 2 = .ok (.iload_n 2, 1) := by decide +kernel
theorem dX3_takeAway_3 : decode cX3_takeAway 3 = .ok (.invokevirtual 35, 3) := by decide +kernel
theorem dX3_takeAway_6 : decode cX3_takeAway 6 = .ok (.ifCond .le 13, 3) := by decide +kernel
theorem dX3_takeAway_9 : decode cX3_takeAway 9 = .ok (.aload_n 0, 1) := by decide +kernel
theorem dX3_takeAway_10 : decode cX3_takeAway 10 = .ok (.dup, 1) := by decide +kernel
theorem dX3_takeAway_11 : decode cX3_takeAway 11 = .ok (.getfield 21, 3) := by decide +kernel
theorem dX3_takeAway_14 : decode cX3_takeAway 14 = .ok (.iconst 1, 1) := by decide +kernel
theorem dX3_takeAway_15 : decode cX3_takeAway 15 = .ok (.isub, 1) := by decide +kernel
theorem dX3_takeAway_16 : decode cX3_takeAway 16 = .ok (.putfield 21, 3) := by decide +kernel
theorem dX3_takeAway_19 : decode cX3_takeAway 19 = .ok (.aload_n 0, 1) := by decide +kernel
theorem dX3_takeAway_20 : decode cX3_takeAway 20 = .ok (.getfield 9, 3) := by decide +kernel
theorem dX3_takeAway_23 : decode cX3_takeAway 23 = .ok (.iload_n 1, 1) := by decide +kernel
theorem dX3_takeAway_24 : decode cX3_takeAway 24 = .ok (.iload_n 2, 1) := by decide +kernel
theorem dX3_takeAway_25 : decode cX3_takeAway 25 = .ok (.invokestatic 31, 3) := by decide +kernel
theorem dX3_takeAway_28 : decode cX3_takeAway 28 = .ok (.iconst 0, 1) := by decide +kernel
theorem dX3_takeAway_29 : decode cX3_takeAway 29 = .ok (.iastore, 1) := by decide +kernel
theorem dX3_takeAway_30 : decode cX3_takeAway 30 = .ok (.aload_n 0, 1) := by decide +kernel
theorem dX3_takeAway_31 : decode cX3_takeAway 31 = .ok (.getfield 9, 3) := by decide +kernel
theorem dX3_takeAway_34 : decode cX3_takeAway 34 = .ok (.iload_n 2, 1) := by decide +kernel
theorem dX3_takeAway_35 : decode cX3_takeAway 35 = .ok (.iload_n 1, 1) := by decide +kernel
theorem dX3_takeAway_36 : decode cX3_takeAway 36 = .ok (.invokestatic 31, 3) := by decide +kernel
theorem dX3_takeAway_39 : decode cX3_takeAway 39 = .ok (.iconst 0, 1) := by decide +kernel
theorem dX3_takeAway_40 : decode cX3_takeAway 40 = .ok (.iastore, 1) := by decide +kernel
theorem dX3_takeAway_41 : decode cX3_takeAway 41 = .ok (.return_, 1) := by decide +kernel
theorem dX3_pairOf_0 : decode cX3_pairOf 0 = .ok (.iload_n 1, 1) := by decide +kernel
theorem dX3_pairOf_1 : decode cX3_pairOf 1 = .ok (.ifCond .lt 11, 3) := by decide +kernel
theorem dX3_pairOf_4 : decode cX3_pairOf 4 = .ok (.iload_n 1, 1) := by decide +kernel
theorem dX3_pairOf_5 : decode cX3_pairOf 5 = .ok (.aload_n 0, 1) := by decide +kernel
theorem dX3_pairOf_6 : decode cX3_pairOf 6 = .ok (.getfield 21, 3) := by decide +kernel
theorem dX3_pairOf_9 : decode cX3_pairOf 9 = .ok (.if_icmp .lt 5, 3) := by decide +kernel
theorem dX3_pairOf_12 : decode cX3_pairOf 12 = .ok (.iconst (-1), 1) := by decide +kernel
theorem dX3_pairOf_13 : decode cX3_pairOf 13 = .ok (.ireturn, 1) := by decide +kernel
theorem dX3_pairOf_14 : decode cX3_pairOf 14 = .ok (.iconst 0, 1) := by decide +kernel
theorem dX3_pairOf_15 : decode cX3_pairOf 15 = .ok (.istore_n 2, 1) := by decide +kernel
theorem dX3_pairOf_16 : decode cX3_pairOf 16 = .ok (.iconst 0, 1) := by decide +kernel
theorem dX3_pairOf_17 : decode cX3_pairOf 17 = .ok (.istore_n 3, 1) := by decide +kernel
theorem dX3_pairOf_18 : decode cX3_pairOf 18 = .ok (.iload_n 3, 1) := by decide +kernel
theorem dX3_pairOf_19 : decode cX3_pairOf 19 = .ok (.bipush 6, 2) := by decide +kernel
theorem dX3_pairOf_21 : decode cX3_pairOf 21 = .ok (.if_icmp .ge 52, 3) := by decide +kernel
theorem dX3_pairOf_24 : decode cX3_pairOf 24 = .ok (.iload_n 3, 1) := by decide +kernel
theorem dX3_pairOf_25 : decode cX3_pairOf 25 = .ok (.iconst 1, 1) := by decide +kernel
theorem dX3_pairOf_26 : decode cX3_pairOf 26 = .ok (.iadd, 1) := by decide +kernel
theorem dX3_pairOf_27 : decode cX3_pairOf 27 = .ok (.istore 4, 2) := by decide +kernel
theorem dX3_pairOf_29 : decode cX3_pairOf 29 = .ok (.iload 4, 2) := by decide +kernel
theorem dX3_pairOf_31 : decode cX3_pairOf 31 = .ok (.bipush 6, 2) := by decide +kernel
theorem dX3_pairOf_33 : decode cX3_pairOf 33 = .ok (.if_icmp .ge 34, 3) := by decide +kernel
theorem dX3_pairOf_36 : decode cX3_pairOf 36 = .ok (.aload_n 0, 1) := by decide +kernel
theorem dX3_pairOf_37 : decode cX3_pairOf 37 = .ok (.iload_n 3, 1) := by decide +kernel
theorem dX3_pairOf_38 : decode cX3_pairOf 38 = .ok (.iload 4, 2) := by decide +kernel
theorem dX3_pairOf_40 : decode cX3_pairOf 40 = .ok (.invokevirtual 35, 3) := by decide +kernel
theorem dX3_pairOf_43 : decode cX3_pairOf 43 = .ok (.ifCond .le 18, 3) := by decide +kernel
theorem dX3_pairOf_46 : decode cX3_pairOf 46 = .ok (.iload_n 2, 1) := by decide +kernel
theorem dX3_pairOf_47 : decode cX3_pairOf 47 = .ok (.iload_n 1, 1) := by decide +kernel
theorem dX3_pairOf_48 : decode cX3_pairOf 48 = .ok (.if_icmp .ne 10, 3) := by decide +kernel
theorem dX3_pairOf_51 : decode cX3_pairOf 51 = .ok (.iload_n 3, 1) := by decide +kernel
theorem dX3_pairOf_52 : decode cX3_pairOf 52 = .ok (.iload 4, 2) := by decide +kernel
theorem dX3_pairOf_54 : decode cX3_pairOf 54 = .ok (.invokestatic 31, 3) := by decide +kernel
theorem dX3_pairOf_57 : decode cX3_pairOf 57 = .ok (.ireturn, 1) := by decide +kernel
theorem dX3_pairOf_58 : decode cX3_pairOf 58 = .ok (.iinc 2 1, 3) := by decide +kernel
theorem dX3_pairOf_61 : decode cX3_pairOf 61 = .ok (.iinc 4 1, 3) := by decide +kernel
theorem dX3_pairOf_64 : decode cX3_pairOf 64 = .ok (.goto (-35), 3) := by decide +kernel
theorem dX3_pairOf_67 : decode cX3_pairOf 67 = .ok (.iinc 3 1, 3) := by decide +kernel
theorem dX3_pairOf_70 : decode cX3_pairOf 70 = .ok (.goto (-52), 3) := by decide +kernel
theorem dX3_pairOf_73 : decode cX3_pairOf 73 = .ok (.iconst (-1), 1) := by decide +kernel
theorem dX3_pairOf_74 : decode cX3_pairOf 74 = .ok (.ireturn, 1) := by decide +kernel
theorem dX3_neighboursOf_0 : decode cX3_neighboursOf 0 = .ok (.iconst 0, 1) := by decide +kernel
theorem dX3_neighboursOf_1 : decode cX3_neighboursOf 1 = .ok (.istore_n 2, 1) := by decide +kernel
theorem dX3_neighboursOf_2 : decode cX3_neighboursOf 2 = .ok (.iconst 0, 1) := by decide +kernel
theorem dX3_neighboursOf_3 : decode cX3_neighboursOf 3 = .ok (.istore_n 3, 1) := by decide +kernel
theorem dX3_neighboursOf_4 : decode cX3_neighboursOf 4 = .ok (.iload_n 3, 1) := by decide +kernel
theorem dX3_neighboursOf_5 : decode cX3_neighboursOf 5 = .ok (.bipush 6, 2) := by decide +kernel
theorem dX3_neighboursOf_7 : decode cX3_neighboursOf 7 = .ok (.if_icmp .ge 21, 3) := by decide +kernel
theorem dX3_neighboursOf_10 : decode cX3_neighboursOf 10 = .ok (.aload_n 0, 1) := by decide +kernel
theorem dX3_neighboursOf_11 : decode cX3_neighboursOf 11 = .ok (.iload_n 1, 1) := by decide +kernel
theorem dX3_neighboursOf_12 : decode cX3_neighboursOf 12 = .ok (.iload_n 3, 1) := by decide +kernel
theorem dX3_neighboursOf_13 : decode cX3_neighboursOf 13 = .ok (.invokevirtual 35, 3) := by decide +kernel
theorem dX3_neighboursOf_16 : decode cX3_neighboursOf 16 = .ok (.ifCond .le 6, 3) := by decide +kernel
theorem dX3_neighboursOf_19 : decode cX3_neighboursOf 19 = .ok (.iinc 2 1, 3) := by decide +kernel
theorem dX3_neighboursOf_22 : decode cX3_neighboursOf 22 = .ok (.iinc 3 1, 3) := by decide +kernel
theorem dX3_neighboursOf_25 : decode cX3_neighboursOf 25 = .ok (.goto (-21), 3) := by decide +kernel
theorem dX3_neighboursOf_28 : decode cX3_neighboursOf 28 = .ok (.iload_n 2, 1) := by decide +kernel
theorem dX3_neighboursOf_29 : decode cX3_neighboursOf 29 = .ok (.ireturn, 1) := by decide +kernel
theorem dX4_init_0 : decode cX4_init 0 = .ok (.aload_n 0, 1) := by decide +kernel
theorem dX4_init_1 : decode cX4_init 1 = .ok (.invokespecial 3, 3) := by decide +kernel
theorem dX4_init_4 : decode cX4_init 4 = .ok (.aload_n 0, 1) := by decide +kernel
theorem dX4_init_5 : decode cX4_init 5 = .ok (.bipush 8, 2) := by decide +kernel
theorem dX4_init_7 : decode cX4_init 7 = .ok (.anewarray 9, 3) := by decide +kernel
theorem dX4_init_10 : decode cX4_init 10 = .ok (.putfield 11, 3) := by decide +kernel
theorem dX4_init_13 : decode cX4_init 13 = .ok (.iconst 0, 1) := by decide +kernel
theorem dX4_init_14 : decode cX4_init 14 = .ok (.istore_n 1, 1) := by decide +kernel
theorem dX4_init_15 : decode cX4_init 15 = .ok (.iload_n 1, 1) := by decide +kernel
theorem dX4_init_16 : decode cX4_init 16 = .ok (.bipush 8, 2) := by decide +kernel
theorem dX4_init_18 : decode cX4_init 18 = .ok (.if_icmp .ge 22, 3) := by decide +kernel
theorem dX4_init_21 : decode cX4_init 21 = .ok (.aload_n 0, 1) := by decide +kernel
theorem dX4_init_22 : decode cX4_init 22 = .ok (.getfield 11, 3) := by decide +kernel
theorem dX4_init_25 : decode cX4_init 25 = .ok (.iload_n 1, 1) := by decide +kernel
theorem dX4_init_26 : decode cX4_init 26 = .ok (.new 9, 3) := by decide +kernel
theorem dX4_init_29 : decode cX4_init 29 = .ok (.dup, 1) := by decide +kernel
theorem dX4_init_30 : decode cX4_init 30 = .ok (.invokespecial 17, 3) := by decide +kernel
theorem dX4_init_33 : decode cX4_init 33 = .ok (.aastore, 1) := by decide +kernel
theorem dX4_init_34 : decode cX4_init 34 = .ok (.iinc 1 1, 3) := by decide +kernel
theorem dX4_init_37 : decode cX4_init 37 = .ok (.goto (-22), 3) := by decide +kernel
theorem dX4_init_40 : decode cX4_init 40 = .ok (.return_, 1) := by decide +kernel
theorem dX4_push_0 : decode cX4_push 0 = .ok (.aload_n 0, 1) := by decide +kernel
theorem dX4_push_1 : decode cX4_push 1 = .ok (.aload_n 0, 1) := by decide +kernel
theorem dX4_push_2 : decode cX4_push 2 = .ok (.getfield 18, 3) := by decide +kernel
theorem dX4_push_5 : decode cX4_push 5 = .ok (.iconst 1, 1) := by decide +kernel
theorem dX4_push_6 : decode cX4_push 6 = .ok (.iadd, 1) := by decide +kernel
theorem dX4_push_7 : decode cX4_push 7 = .ok (.bipush 8, 2) := by decide +kernel
theorem dX4_push_9 : decode cX4_push 9 = .ok (.if_icmp .ge 12, 3) := by decide +kernel
theorem dX4_push_12 : decode cX4_push 12 = .ok (.aload_n 0, 1) := by decide +kernel
theorem dX4_push_13 : decode cX4_push 13 = .ok (.getfield 18, 3) := by decide +kernel
theorem dX4_push_16 : decode cX4_push 16 = .ok (.iconst 1, 1) := by decide +kernel
theorem dX4_push_17 : decode cX4_push 17 = .ok (.iadd, 1) := by decide +kernel
theorem dX4_push_18 : decode cX4_push 18 = .ok (.goto 4, 3) := by decide +kernel
theorem dX4_push_21 : decode cX4_push 21 = .ok (.iconst 0, 1) := by decide +kernel
theorem dX4_push_22 : decode cX4_push 22 = .ok (.putfield 18, 3) := by decide +kernel
theorem dX4_push_25 : decode cX4_push 25 = .ok (.aload_n 0, 1) := by decide +kernel
theorem dX4_push_26 : decode cX4_push 26 = .ok (.getfield 11, 3) := by decide +kernel
theorem dX4_push_29 : decode cX4_push 29 = .ok (.aload_n 0, 1) := by decide +kernel
theorem dX4_push_30 : decode cX4_push 30 = .ok (.getfield 18, 3) := by decide +kernel
theorem dX4_push_33 : decode cX4_push 33 = .ok (.aaload, 1) := by decide +kernel
theorem dX4_push_34 : decode cX4_push 34 = .ok (.aload_n 1, 1) := by decide +kernel
theorem dX4_push_35 : decode cX4_push 35 = .ok (.invokevirtual 22, 3) := by decide +kernel
theorem dX4_push_38 : decode cX4_push 38 = .ok (.aload_n 0, 1) := by decide +kernel
theorem dX4_push_39 : decode cX4_push 39 = .ok (.getfield 26, 3) := by decide +kernel
theorem dX4_push_42 : decode cX4_push 42 = .ok (.bipush 8, 2) := by decide +kernel
theorem dX4_push_44 : decode cX4_push 44 = .ok (.if_icmp .ge 13, 3) := by decide +kernel
theorem dX4_push_47 : decode cX4_push 47 = .ok (.aload_n 0, 1) := by decide +kernel
theorem dX4_push_48 : decode cX4_push 48 = .ok (.dup, 1) := by decide +kernel
theorem dX4_push_49 : decode cX4_push 49 = .ok (.getfield 26, 3) := by decide +kernel
theorem dX4_push_52 : decode cX4_push 52 = .ok (.iconst 1, 1) := by decide +kernel
theorem dX4_push_53 : decode cX4_push 53 = .ok (.iadd, 1) := by decide +kernel
theorem dX4_push_54 : decode cX4_push 54 = .ok (.putfield 26, 3) := by decide +kernel
theorem dX4_push_57 : decode cX4_push 57 = .ok (.return_, 1) := by decide +kernel
theorem dX4_pop_0 : decode cX4_pop 0 = .ok (.aload_n 0, 1) := by decide +kernel
theorem dX4_pop_1 : decode cX4_pop 1 = .ok (.getfield 26, 3) := by decide +kernel
theorem dX4_pop_4 : decode cX4_pop 4 = .ok (.ifCond .ne 5, 3) := by decide +kernel
theorem dX4_pop_7 : decode cX4_pop 7 = .ok (.iconst 0, 1) := by decide +kernel
theorem dX4_pop_8 : decode cX4_pop 8 = .ok (.ireturn, 1) := by decide +kernel
theorem dX4_pop_9 : decode cX4_pop 9 = .ok (.aload_n 1, 1) := by decide +kernel
theorem dX4_pop_10 : decode cX4_pop 10 = .ok (.aload_n 0, 1) := by decide +kernel
theorem dX4_pop_11 : decode cX4_pop 11 = .ok (.getfield 11, 3) := by decide +kernel
theorem dX4_pop_14 : decode cX4_pop 14 = .ok (.aload_n 0, 1) := by decide +kernel
theorem dX4_pop_15 : decode cX4_pop 15 = .ok (.getfield 18, 3) := by decide +kernel
theorem dX4_pop_18 : decode cX4_pop 18 = .ok (.aaload, 1) := by decide +kernel
theorem dX4_pop_19 : decode cX4_pop 19 = .ok (.invokevirtual 22, 3) := by decide +kernel
theorem dX4_pop_22 : decode cX4_pop 22 = .ok (.aload_n 0, 1) := by decide +kernel
theorem dX4_pop_23 : decode cX4_pop 23 = .ok (.aload_n 0, 1) := by decide +kernel
theorem dX4_pop_24 : decode cX4_pop 24 = .ok (.getfield 18, 3) := by decide +kernel
theorem dX4_pop_27 : decode cX4_pop 27 = .ok (.ifCond .le 12, 3) := by decide +kernel
theorem dX4_pop_30 : decode cX4_pop 30 = .ok (.aload_n 0, 1) := by decide +kernel
theorem dX4_pop_31 : decode cX4_pop 31 = .ok (.getfield 18, 3) := by decide +kernel
theorem dX4_pop_34 : decode cX4_pop 34 = .ok (.iconst 1, 1) := by decide +kernel
theorem dX4_pop_35 : decode cX4_pop 35 = .ok (.isub, 1) := by decide +kernel
theorem dX4_pop_36 : decode cX4_pop 36 = .ok (.goto 5, 3) := by decide +kernel
theorem dX4_pop_39 : decode cX4_pop 39 = .ok (.bipush 7, 2) := by decide +kernel
theorem dX4_pop_41 : decode cX4_pop 41 = .ok (.putfield 18, 3) := by decide +kernel
theorem dX4_pop_44 : decode cX4_pop 44 = .ok (.aload_n 0, 1) := by decide +kernel
theorem dX4_pop_45 : decode cX4_pop 45 = .ok (.dup, 1) := by decide +kernel
theorem dX4_pop_46 : decode cX4_pop 46 = .ok (.getfield 26, 3) := by decide +kernel
theorem dX4_pop_49 : decode cX4_pop 49 = .ok (.iconst 1, 1) := by decide +kernel
theorem dX4_pop_50 : decode cX4_pop 50 = .ok (.isub, 1) := by decide +kernel
theorem dX4_pop_51 : decode cX4_pop 51 = .ok (.putfield 26, 3) := by decide +kernel
theorem dX4_pop_54 : decode cX4_pop 54 = .ok (.iconst 1, 1) := by decide +kernel
theorem dX4_pop_55 : decode cX4_pop 55 = .ok (.ireturn, 1) := by decide +kernel
theorem dJ7_fill_53178_0 : decode cJ7_fill_53178 0 = .ok (.iconst 0, 1) := by decide +kernel
theorem dJ7_fill_53178_1 : decode cJ7_fill_53178 1 = .ok (.istore_n 2, 1) := by decide +kernel
theorem dJ7_fill_53178_2 : decode cJ7_fill_53178 2 = .ok (.aload_n 0, 1) := by decide +kernel
theorem dJ7_fill_53178_3 : decode cJ7_fill_53178 3 = .ok (.arraylength, 1) := by decide +kernel
theorem dJ7_fill_53178_4 : decode cJ7_fill_53178 4 = .ok (.istore_n 3, 1) := by decide +kernel
theorem dJ7_fill_53178_5 : decode cJ7_fill_53178 5 = .ok (.iload_n 2, 1) := by decide +kernel
theorem dJ7_fill_53178_6 : decode cJ7_fill_53178 6 = .ok (.iload_n 3, 1) := by decide +kernel
theorem dJ7_fill_53178_7 : decode cJ7_fill_53178 7 = .ok (.if_icmp .ge 13, 3) := by decide +kernel
theorem dJ7_fill_53178_10 : decode cJ7_fill_53178 10 = .ok (.aload_n 0, 1) := by decide +kernel
theorem dJ7_fill_53178_11 : decode cJ7_fill_53178 11 = .ok (.iload_n 2, 1) := by decide +kernel
theorem dJ7_fill_53178_12 : decode cJ7_fill_53178 12 = .ok (.iload_n 1, 1) := by decide +kernel
theorem dJ7_fill_53178_13 : decode cJ7_fill_53178 13 = .ok (.iastore, 1) := by decide +kernel
theorem dJ7_fill_53178_14 : decode cJ7_fill_53178 14 = .ok (.iinc 2 1, 3) := by decide +kernel
theorem dJ7_fill_53178_17 : decode cJ7_fill_53178 17 = .ok (.goto (-12), 3) := by decide +kernel
theorem dJ7_fill_53178_20 : decode cJ7_fill_53178 20 = .ok (.return_, 1) := by decide +kernel
theorem dJ9_max_7cf53_0 : decode cJ9_max_7cf53 0 = .ok (.iload_n 0, 1) := by decide +kernel
theorem dJ9_max_7cf53_1 : decode cJ9_max_7cf53 1 = .ok (.iload_n 1, 1) := by decide +kernel
theorem dJ9_max_7cf53_2 : decode cJ9_max_7cf53 2 = .ok (.if_icmp .lt 7, 3) := by decide +kernel
theorem dJ9_max_7cf53_5 : decode cJ9_max_7cf53 5 = .ok (.iload_n 0, 1) := by decide +kernel
theorem dJ9_max_7cf53_6 : decode cJ9_max_7cf53 6 = .ok (.goto 4, 3) := by decide +kernel
theorem dJ9_max_7cf53_9 : decode cJ9_max_7cf53 9 = .ok (.iload_n 1, 1) := by decide +kernel
theorem dJ9_max_7cf53_10 : decode cJ9_max_7cf53 10 = .ok (.ireturn, 1) := by decide +kernel
theorem dJ9_min_7cf53_0 : decode cJ9_min_7cf53 0 = .ok (.iload_n 0, 1) := by decide +kernel
theorem dJ9_min_7cf53_1 : decode cJ9_min_7cf53 1 = .ok (.iload_n 1, 1) := by decide +kernel
theorem dJ9_min_7cf53_2 : decode cJ9_min_7cf53 2 = .ok (.if_icmp .gt 7, 3) := by decide +kernel
theorem dJ9_min_7cf53_5 : decode cJ9_min_7cf53 5 = .ok (.iload_n 0, 1) := by decide +kernel
theorem dJ9_min_7cf53_6 : decode cJ9_min_7cf53 6 = .ok (.goto 4, 3) := by decide +kernel
theorem dJ9_min_7cf53_9 : decode cJ9_min_7cf53 9 = .ok (.iload_n 1, 1) := by decide +kernel
theorem dJ9_min_7cf53_10 : decode cJ9_min_7cf53 10 = .ok (.ireturn, 1) := by decide +kernel
end
section
theorem dX5_init_0 : decode cX5_init 0 = .ok (.aload_n 0, 1) := by decide +kernel
theorem dX5_init_1 : decode cX5_init 1 = .ok (.invokespecial 3, 3) := by decide +kernel
theorem dX5_init_4 : decode cX5_init 4 = .ok (.aload_n 0, 1) := by decide +kernel
theorem dX5_init_5 : decode cX5_init 5 = .ok (.aload_n 1, 1) := by decide +kernel
theorem dX5_init_6 : decode cX5_init 6 = .ok (.putfield 9, 3) := by decide +kernel
theorem dX5_init_9 : decode cX5_init 9 = .ok (.aload_n 0, 1) := by decide +kernel
theorem dX5_init_10 : decode cX5_init 10 = .ok (.aload_n 2, 1) := by decide +kernel
theorem dX5_init_11 : decode cX5_init 11 = .ok (.putfield 15, 3) := by decide +kernel
theorem dX5_init_14 : decode cX5_init 14 = .ok (.return_, 1) := by decide +kernel
theorem dX5_guessBy_0 : decode cX5_guessBy 0 = .ok (.aload_n 0, 1) := by decide +kernel
theorem dX5_guessBy_1 : decode cX5_guessBy 1 = .ok (.iload_n 1, 1) := by decide +kernel
theorem dX5_guessBy_2 : decode cX5_guessBy 2 = .ok (.iload_n 2, 1) := by decide +kernel
theorem dX5_guessBy_3 : decode cX5_guessBy 3 = .ok (.iload_n 3, 1) := by decide +kernel
theorem dX5_guessBy_4 : decode cX5_guessBy 4 = .ok (.invokestatic 19, 3) := by decide +kernel
theorem dX5_guessBy_7 : decode cX5_guessBy 7 = .ok (.invokevirtual 23, 3) := by decide +kernel
theorem dX5_guessBy_10 : decode cX5_guessBy 10 = .ok (.ireturn, 1) := by decide +kernel
theorem dX5_guessAt_0 : decode cX5_guessAt 0 = .ok (.aload_n 0, 1) := by decide +kernel
theorem dX5_guessAt_1 : decode cX5_guessAt 1 = .ok (.getfield 15, 3) := by decide +kernel
theorem dX5_guessAt_4 : decode cX5_guessAt 4 = .ok (.getfield 27, 3) := by decide +kernel
theorem dX5_guessAt_7 : decode cX5_guessAt 7 = .ok (.iload_n 1, 1) := by decide +kernel
theorem dX5_guessAt_8 : decode cX5_guessAt 8 = .ok (.iaload, 1) := by decide +kernel
theorem dX5_guessAt_9 : decode cX5_guessAt 9 = .ok (.istore_n 2, 1) := by decide +kernel
theorem dX5_guessAt_10 : decode cX5_guessAt 10 = .ok (.iload_n 2, 1) := by decide +kernel
theorem dX5_guessAt_11 : decode cX5_guessAt 11 = .ok (.ifCond .eq 22, 3) := by decide +kernel
theorem dX5_guessAt_14 : decode cX5_guessAt 14 = .ok (.aload_n 0, 1) := by decide +kernel
theorem dX5_guessAt_15 : decode cX5_guessAt 15 = .ok (.getfield 15, 3) := by decide +kernel
theorem dX5_guessAt_18 : decode cX5_guessAt 18 = .ok (.getfield 33, 3) := by decide +kernel
theorem dX5_guessAt_21 : decode cX5_guessAt 21 = .ok (.iload_n 2, 1) := by decide +kernel
theorem dX5_guessAt_22 : decode cX5_guessAt 22 = .ok (.isub, 1) := by decide +kernel
theorem dX5_guessAt_23 : decode cX5_guessAt 23 = .ok (.aload_n 0, 1) := by decide +kernel
theorem dX5_guessAt_24 : decode cX5_guessAt 24 = .ok (.getfield 9, 3) := by decide +kernel
theorem dX5_guessAt_27 : decode cX5_guessAt 27 = .ok (.getfield 37, 3) := by decide +kernel
theorem dX5_guessAt_30 : decode cX5_guessAt 30 = .ok (.if_icmp .le 14, 3) := by decide +kernel
theorem dX5_guessAt_33 : decode cX5_guessAt 33 = .ok (.bipush 64, 2) := by decide +kernel
theorem dX5_guessAt_35 : decode cX5_guessAt 35 = .ok (.aload_n 0, 1) := by decide +kernel
theorem dX5_guessAt_36 : decode cX5_guessAt 36 = .ok (.getfield 9, 3) := by decide +kernel
theorem dX5_guessAt_39 : decode cX5_guessAt 39 = .ok (.getfield 42, 3) := by decide +kernel
theorem dX5_guessAt_42 : decode cX5_guessAt 42 = .ok (.imul, 1) := by decide +kernel
theorem dX5_guessAt_43 : decode cX5_guessAt 43 = .ok (.ireturn, 1) := by decide +kernel
theorem dX5_guessAt_44 : decode cX5_guessAt 44 = .ok (.aload_n 0, 1) := by decide +kernel
theorem dX5_guessAt_45 : decode cX5_guessAt 45 = .ok (.getfield 15, 3) := by decide +kernel
theorem dX5_guessAt_48 : decode cX5_guessAt 48 = .ok (.getfield 45, 3) := by decide +kernel
theorem dX5_guessAt_51 : decode cX5_guessAt 51 = .ok (.iload_n 1, 1) := by decide +kernel
theorem dX5_guessAt_52 : decode cX5_guessAt 52 = .ok (.iaload, 1) := by decide +kernel
theorem dX5_guessAt_53 : decode cX5_guessAt 53 = .ok (.ireturn, 1) := by decide +kernel
theorem dX5_bestOf_0 : decode cX5_bestOf 0 = .ok (.iload_n 1, 1) := by decide +kernel
theorem dX5_bestOf_1 : decode cX5_bestOf 1 = .ok (.iconst 0, 1) := by decide +kernel
theorem dX5_bestOf_2 : decode cX5_bestOf 2 = .ok (.invokestatic 48, 3) := by decide +kernel
theorem dX5_bestOf_5 : decode cX5_bestOf 5 = .ok (.istore_n 3, 1) := by decide +kernel
theorem dX5_bestOf_6 : decode cX5_bestOf 6 = .ok (.iload_n 1, 1) := by decide +kernel
theorem dX5_bestOf_7 : decode cX5_bestOf 7 = .ok (.iload_n 2, 1) := by decide +kernel
theorem dX5_bestOf_8 : decode cX5_bestOf 8 = .ok (.iconst 0, 1) := by decide +kernel
theorem dX5_bestOf_9 : decode cX5_bestOf 9 = .ok (.invokestatic 19, 3) := by decide +kernel
theorem dX5_bestOf_12 : decode cX5_bestOf 12 = .ok (.istore 4, 2) := by decide +kernel
theorem dX5_bestOf_14 : decode cX5_bestOf 14 = .ok (.bipush (-9), 2) := by decide +kernel
theorem dX5_bestOf_16 : decode cX5_bestOf 16 = .ok (.istore 5, 2) := by decide +kernel
theorem dX5_bestOf_18 : decode cX5_bestOf 18 = .ok (.iconst 0, 1) := by decide +kernel
theorem dX5_bestOf_19 : decode cX5_bestOf 19 = .ok (.istore 6, 2) := by decide +kernel
theorem dX5_bestOf_21 : decode cX5_bestOf 21 = .ok (.iconst 0, 1) := by decide +kernel
theorem dX5_bestOf_22 : decode cX5_bestOf 22 = .ok (.istore 7, 2) := by decide +kernel
theorem dX5_bestOf_24 : decode cX5_bestOf 24 = .ok (.iload 7, 2) := by decide +kernel
theorem dX5_bestOf_26 : decode cX5_bestOf 26 = .ok (.aload_n 0, 1) := by decide +kernel
theorem dX5_bestOf_27 : decode cX5_bestOf 27 = .ok (.getfield 9, 3) := by decide +kernel
theorem dX5_bestOf_30 : decode cX5_bestOf 30 = .ok (.getfield 52, 3) := by decide +kernel
theorem dX5_bestOf_33 : decode cX5_bestOf 33 = .ok (.if_icmp .ge 60, 3) := by decide +kernel
theorem dX5_bestOf_36 : decode cX5_bestOf 36 = .ok (.aload_n 0, 1) := by decide +kernel
theorem dX5_bestOf_37 : decode cX5_bestOf 37 = .ok (.getfield 15, 3) := by decide +kernel
theorem dX5_bestOf_40 : decode cX5_bestOf 40 = .ok (.getfield 55, 3) := by decide +kernel
theorem dX5_bestOf_43 : decode cX5_bestOf 43 = .ok (.getfield 59, 3) := by decide +kernel
theorem dX5_bestOf_46 : decode cX5_bestOf 46 = .ok (.iload_n 3, 1) := by decide +kernel
theorem dX5_bestOf_47 : decode cX5_bestOf 47 = .ok (.iload 7, 2) := by decide +kernel
theorem dX5_bestOf_49 : decode cX5_bestOf 49 = .ok (.iadd, 1) := by decide +kernel
theorem dX5_bestOf_50 : decode cX5_bestOf 50 = .ok (.iaload, 1) := by decide +kernel
theorem dX5_bestOf_51 : decode cX5_bestOf 51 = .ok (.ifCond .le 36, 3) := by decide +kernel
theorem dX5_bestOf_54 : decode cX5_bestOf 54 = .ok (.aload_n 0, 1) := by decide +kernel
theorem dX5_bestOf_55 : decode cX5_bestOf 55 = .ok (.iload 4, 2) := by decide +kernel
theorem dX5_bestOf_57 : decode cX5_bestOf 57 = .ok (.iload 7, 2) := by decide +kernel
theorem dX5_bestOf_59 : decode cX5_bestOf 59 = .ok (.iadd, 1) := by decide +kernel
theorem dX5_bestOf_60 : decode cX5_bestOf 60 = .ok (.invokevirtual 23, 3) := by decide +kernel
theorem dX5_bestOf_63 : decode cX5_bestOf 63 = .ok (.istore 8, 2) := by decide +kernel
theorem dX5_bestOf_65 : decode cX5_bestOf 65 = .ok (.iload 5, 2) := by decide +kernel
theorem dX5_bestOf_67 : decode cX5_bestOf 67 = .ok (.bipush (-9), 2) := by decide +kernel
theorem dX5_bestOf_69 : decode cX5_bestOf 69 = .ok (.if_icmp .eq 10, 3) := by decide +kernel
theorem dX5_bestOf_72 : decode cX5_bestOf 72 = .ok (.iload 8, 2) := by decide +kernel
theorem dX5_bestOf_74 : decode cX5_bestOf 74 = .ok (.iload 6, 2) := by decide +kernel
theorem dX5_bestOf_76 : decode cX5_bestOf 76 = .ok (.if_icmp .ge 11, 3) := by decide +kernel
theorem dX5_bestOf_79 : decode cX5_bestOf 79 = .ok (.iload 7, 2) := by decide +kernel
theorem dX5_bestOf_81 : decode cX5_bestOf 81 = .ok (.istore 5, 2) := by decide +kernel
theorem dX5_bestOf_83 : decode cX5_bestOf 83 = .ok (.iload 8, 2) := by decide +kernel
theorem dX5_bestOf_85 : decode cX5_bestOf 85 = .ok (.istore 6, 2) := by decide +kernel
theorem dX5_bestOf_87 : decode cX5_bestOf 87 = .ok (.iinc 7 1, 3) := by decide +kernel
theorem dX5_bestOf_90 : decode cX5_bestOf 90 = .ok (.goto (-66), 3) := by decide +kernel
theorem dX5_bestOf_93 : decode cX5_bestOf 93 = .ok (.iload 5, 2) := by decide +kernel
theorem dX5_bestOf_95 : decode cX5_bestOf 95 = .ok (.ireturn, 1) := by decide +kernel
theorem dX5_stalestOf_0 : decode cX5_stalestOf 0 = .ok (.iload_n 1, 1) := by decide +kernel
theorem dX5_stalestOf_1 : decode cX5_stalestOf 1 = .ok (.iconst 0, 1) := by decide +kernel
theorem dX5_stalestOf_2 : decode cX5_stalestOf 2 = .ok (.invokestatic 48, 3) := by decide +kernel
theorem dX5_stalestOf_5 : decode cX5_stalestOf 5 = .ok (.istore_n 3, 1) := by decide +kernel
theorem dX5_stalestOf_6 : decode cX5_stalestOf 6 = .ok (.iload_n 1, 1) := by decide +kernel
theorem dX5_stalestOf_7 : decode cX5_stalestOf 7 = .ok (.iload_n 2, 1) := by decide +kernel
theorem dX5_stalestOf_8 : decode cX5_stalestOf 8 = .ok (.iconst 0, 1) := by decide +kernel
theorem dX5_stalestOf_9 : decode cX5_stalestOf 9 = .ok (.invokestatic 19, 3) := by decide +kernel
theorem dX5_stalestOf_12 : decode cX5_stalestOf 12 = .ok (.istore 4, 2) := by decide +kernel
theorem dX5_stalestOf_14 : decode cX5_stalestOf 14 = .ok (.bipush (-9), 2) := by decide +kernel
theorem dX5_stalestOf_16 : decode cX5_stalestOf 16 = .ok (.istore 5, 2) := by decide +kernel
theorem dX5_stalestOf_18 : decode cX5_stalestOf 18 = .ok (.iconst 0, 1) := by decide +kernel
theorem dX5_stalestOf_19 : decode cX5_stalestOf 19 = .ok (.istore 6, 2) := by decide +kernel
theorem dX5_stalestOf_21 : decode cX5_stalestOf 21 = .ok (.iconst 0, 1) := by decide +kernel
theorem dX5_stalestOf_22 : decode cX5_stalestOf 22 = .ok (.istore 7, 2) := by decide +kernel
theorem dX5_stalestOf_24 : decode cX5_stalestOf 24 = .ok (.iload 7, 2) := by decide +kernel
theorem dX5_stalestOf_26 : decode cX5_stalestOf 26 = .ok (.aload_n 0, 1) := by decide +kernel
theorem dX5_stalestOf_27 : decode cX5_stalestOf 27 = .ok (.getfield 9, 3) := by decide +kernel
theorem dX5_stalestOf_30 : decode cX5_stalestOf 30 = .ok (.getfield 52, 3) := by decide +kernel
theorem dX5_stalestOf_33 : decode cX5_stalestOf 33 = .ok (.if_icmp .ge 64, 3) := by decide +kernel
theorem dX5_stalestOf_36 : decode cX5_stalestOf 36 = .ok (.aload_n 0, 1) := by decide +kernel
theorem dX5_stalestOf_37 : decode cX5_stalestOf 37 = .ok (.getfield 15, 3) := by decide +kernel
theorem dX5_stalestOf_40 : decode cX5_stalestOf 40 = .ok (.getfield 55, 3) := by decide +kernel
theorem dX5_stalestOf_43 : decode cX5_stalestOf 43 = .ok (.getfield 59, 3) := by decide +kernel
theorem dX5_stalestOf_46 : decode cX5_stalestOf 46 = .ok (.iload_n 3, 1) := by decide +kernel
theorem dX5_stalestOf_47 : decode cX5_stalestOf 47 = .ok (.iload 7, 2) := by decide +kernel
theorem dX5_stalestOf_49 : decode cX5_stalestOf 49 = .ok (.iadd, 1) := by decide +kernel
theorem dX5_stalestOf_50 : decode cX5_stalestOf 50 = .ok (.iaload, 1) := by decide +kernel
theorem dX5_stalestOf_51 : decode cX5_stalestOf 51 = .ok (.ifCond .le 40, 3) := by decide +kernel
theorem dX5_stalestOf_54 : decode cX5_stalestOf 54 = .ok (.aload_n 0, 1) := by decide +kernel
theorem dX5_stalestOf_55 : decode cX5_stalestOf 55 = .ok (.getfield 15, 3) := by decide +kernel
theorem dX5_stalestOf_58 : decode cX5_stalestOf 58 = .ok (.getfield 27, 3) := by decide +kernel
theorem dX5_stalestOf_61 : decode cX5_stalestOf 61 = .ok (.iload 4, 2) := by decide +kernel
theorem dX5_stalestOf_63 : decode cX5_stalestOf 63 = .ok (.iload 7, 2) := by decide +kernel
theorem dX5_stalestOf_65 : decode cX5_stalestOf 65 = .ok (.iadd, 1) := by decide +kernel
theorem dX5_stalestOf_66 : decode cX5_stalestOf 66 = .ok (.iaload, 1) := by decide +kernel
theorem dX5_stalestOf_67 : decode cX5_stalestOf 67 = .ok (.istore 8, 2) := by decide +kernel
theorem dX5_stalestOf_69 : decode cX5_stalestOf 69 = .ok (.iload 5, 2) := by decide +kernel
theorem dX5_stalestOf_71 : decode cX5_stalestOf 71 = .ok (.bipush (-9), 2) := by decide +kernel
theorem dX5_stalestOf_73 : decode cX5_stalestOf 73 = .ok (.if_icmp .eq 10, 3) := by decide +kernel
theorem dX5_stalestOf_76 : decode cX5_stalestOf 76 = .ok (.iload 8, 2) := by decide +kernel
theorem dX5_stalestOf_78 : decode cX5_stalestOf 78 = .ok (.iload 6, 2) := by decide +kernel
theorem dX5_stalestOf_80 : decode cX5_stalestOf 80 = .ok (.if_icmp .ge 11, 3) := by decide +kernel
theorem dX5_stalestOf_83 : decode cX5_stalestOf 83 = .ok (.iload 7, 2) := by decide +kernel
theorem dX5_stalestOf_85 : decode cX5_stalestOf 85 = .ok (.istore 5, 2) := by decide +kernel
theorem dX5_stalestOf_87 : decode cX5_stalestOf 87 = .ok (.iload 8, 2) := by decide +kernel
theorem dX5_stalestOf_89 : decode cX5_stalestOf 89 = .ok (.istore 6, 2) := by decide +kernel
theorem dX5_stalestOf_91 : decode cX5_stalestOf 91 = .ok (.iinc 7 1, 3) := by decide +kernel
theorem dX5_stalestOf_94 : decode cX5_stalestOf 94 = .ok (.goto (-70), 3) := by decide +kernel
theorem dX5_stalestOf_97 : decode cX5_stalestOf 97 = .ok (.iload 5, 2) := by decide +kernel
theorem dX5_stalestOf_99 : decode cX5_stalestOf 99 = .ok (.ireturn, 1) := by decide +kernel
theorem dX5_chooseHop_0 : decode cX5_chooseHop 0 = .ok (.aload_n 0, 1) := by decide +kernel
theorem dX5_chooseHop_1 : decode cX5_chooseHop 1 = .ok (.getfield 15, 3) := by decide +kernel
theorem dX5_chooseHop_4 : decode cX5_chooseHop 4 = .ok (.getfield 55, 3) := by decide +kernel
theorem dX5_chooseHop_7 : decode cX5_chooseHop 7 = .ok (.iload_n 1, 1) := by decide +kernel
theorem dX5_chooseHop_8 : decode cX5_chooseHop 8 = .ok (.invokevirtual 64, 3) := by decide +kernel
theorem dX5_chooseHop_11 : decode cX5_chooseHop 11 = .ok (.ifCond .ne 6, 3) := by decide +kernel
theorem dX5_chooseHop_14 : decode cX5_chooseHop 14 = .ok (.bipush (-9), 2) := by decide +kernel
theorem dX5_chooseHop_16 : decode cX5_chooseHop 16 = .ok (.ireturn, 1) := by decide +kernel
theorem dX5_chooseHop_17 : decode cX5_chooseHop 17 = .ok (.aload_n 0, 1) := by decide +kernel
theorem dX5_chooseHop_18 : decode cX5_chooseHop 18 = .ok (.getfield 15, 3) := by decide +kernel
theorem dX5_chooseHop_21 : decode cX5_chooseHop 21 = .ok (.getfield 67, 3) := by decide +kernel
theorem dX5_chooseHop_24 : decode cX5_chooseHop 24 = .ok (.iload_n 1, 1) := by decide +kernel
theorem dX5_chooseHop_25 : decode cX5_chooseHop 25 = .ok (.dup2, 1) := by decide +kernel
theorem dX5_chooseHop_26 : decode cX5_chooseHop 26 = .ok (.iaload, 1) := by decide +kernel
theorem dX5_chooseHop_27 : decode cX5_chooseHop 27 = .ok (.iconst 1, 1) := by decide +kernel
theorem dX5_chooseHop_28 : decode cX5_chooseHop 28 = .ok (.iadd, 1) := by decide +kernel
theorem dX5_chooseHop_29 : decode cX5_chooseHop 29 = .ok (.iastore, 1) := by decide +kernel
theorem dX5_chooseHop_30 : decode cX5_chooseHop 30 = .ok (.aload_n 0, 1) := by decide +kernel
theorem dX5_chooseHop_31 : decode cX5_chooseHop 31 = .ok (.getfield 9, 3) := by decide +kernel
theorem dX5_chooseHop_34 : decode cX5_chooseHop 34 = .ok (.getfield 70, 3) := by decide +kernel
theorem dX5_chooseHop_37 : decode cX5_chooseHop 37 = .ok (.ifCond .le 43, 3) := by decide +kernel
theorem dX5_chooseHop_40 : decode cX5_chooseHop 40 = .ok (.aload_n 0, 1) := by decide +kernel
theorem dX5_chooseHop_41 : decode cX5_chooseHop 41 = .ok (.getfield 15, 3) := by decide +kernel
theorem dX5_chooseHop_44 : decode cX5_chooseHop 44 = .ok (.getfield 67, 3) := by decide +kernel
theorem dX5_chooseHop_47 : decode cX5_chooseHop 47 = .ok (.iload_n 1, 1) := by decide +kernel
theorem dX5_chooseHop_48 : decode cX5_chooseHop 48 = .ok (.iaload, 1) := by decide +kernel
theorem dX5_chooseHop_49 : decode cX5_chooseHop 49 = .ok (.aload_n 0, 1) := by decide +kernel
theorem dX5_chooseHop_50 : decode cX5_chooseHop 50 = .ok (.getfield 9, 3) := by decide +kernel
theorem dX5_chooseHop_53 : decode cX5_chooseHop 53 = .ok (.getfield 70, 3) := by decide +kernel
theorem dX5_chooseHop_56 : decode cX5_chooseHop 56 = .ok (.irem, 1) := by decide +kernel
theorem dX5_chooseHop_57 : decode cX5_chooseHop 57 = .ok (.ifCond .ne 23, 3) := by decide +kernel
theorem dX5_chooseHop_60 : decode cX5_chooseHop 60 = .ok (.aload_n 0, 1) := by decide +kernel
theorem dX5_chooseHop_61 : decode cX5_chooseHop 61 = .ok (.getfield 15, 3) := by decide +kernel
theorem dX5_chooseHop_64 : decode cX5_chooseHop 64 = .ok (.getfield 73, 3) := by decide +kernel
theorem dX5_chooseHop_67 : decode cX5_chooseHop 67 = .ok (.iload_n 1, 1) := by decide +kernel
theorem dX5_chooseHop_68 : decode cX5_chooseHop 68 = .ok (.dup2, 1) := by decide +kernel
theorem dX5_chooseHop_69 : decode cX5_chooseHop 69 = .ok (.iaload, 1) := by decide +kernel
theorem dX5_chooseHop_70 : decode cX5_chooseHop 70 = .ok (.iconst 1, 1) := by decide +kernel
theorem dX5_chooseHop_71 : decode cX5_chooseHop 71 = .ok (.iadd, 1) := by decide +kernel
theorem dX5_chooseHop_72 : decode cX5_chooseHop 72 = .ok (.iastore, 1) := by decide +kernel
theorem dX5_chooseHop_73 : decode cX5_chooseHop 73 = .ok (.aload_n 0, 1) := by decide +kernel
theorem dX5_chooseHop_74 : decode cX5_chooseHop 74 = .ok (.iload_n 1, 1) := by decide +kernel
theorem dX5_chooseHop_75 : decode cX5_chooseHop 75 = .ok (.iload_n 2, 1) := by decide +kernel
theorem dX5_chooseHop_76 : decode cX5_chooseHop 76 = .ok (.invokevirtual 76, 3) := by decide +kernel
theorem dX5_chooseHop_79 : decode cX5_chooseHop 79 = .ok (.ireturn, 1) := by decide +kernel
theorem dX5_chooseHop_80 : decode cX5_chooseHop 80 = .ok (.aload_n 0, 1) := by decide +kernel
theorem dX5_chooseHop_81 : decode cX5_chooseHop 81 = .ok (.iload_n 1, 1) := by decide +kernel
theorem dX5_chooseHop_82 : decode cX5_chooseHop 82 = .ok (.iload_n 2, 1) := by decide +kernel
theorem dX5_chooseHop_83 : decode cX5_chooseHop 83 = .ok (.invokevirtual 79, 3) := by decide +kernel
theorem dX5_chooseHop_86 : decode cX5_chooseHop 86 = .ok (.ireturn, 1) := by decide +kernel
theorem dX5_toldBy_0 : decode cX5_toldBy 0 = .ok (.iload_n 1, 1) := by decide +kernel
theorem dX5_toldBy_1 : decode cX5_toldBy 1 = .ok (.iload_n 2, 1) := by decide +kernel
theorem dX5_toldBy_2 : decode cX5_toldBy 2 = .ok (.if_icmp .ne 5, 3) := by decide +kernel
theorem dX5_toldBy_5 : decode cX5_toldBy 5 = .ok (.iconst 0, 1) := by decide +kernel
theorem dX5_toldBy_6 : decode cX5_toldBy 6 = .ok (.ireturn, 1) := by decide +kernel
theorem dX5_toldBy_7 : decode cX5_toldBy 7 = .ok (.aload_n 0, 1) := by decide +kernel
theorem dX5_toldBy_8 : decode cX5_toldBy 8 = .ok (.iload_n 1, 1) := by decide +kernel
theorem dX5_toldBy_9 : decode cX5_toldBy 9 = .ok (.iload_n 2, 1) := by decide +kernel
theorem dX5_toldBy_10 : decode cX5_toldBy 10 = .ok (.invokevirtual 79, 3) := by decide +kernel
theorem dX5_toldBy_13 : decode cX5_toldBy 13 = .ok (.istore_n 3, 1) := by decide +kernel
theorem dX5_toldBy_14 : decode cX5_toldBy 14 = .ok (.iload_n 3, 1) := by decide +kernel
theorem dX5_toldBy_15 : decode cX5_toldBy 15 = .ok (.bipush (-9), 2) := by decide +kernel
theorem dX5_toldBy_17 : decode cX5_toldBy 17 = .ok (.if_icmp .ne 7, 3) := by decide +kernel
theorem dX5_toldBy_20 : decode cX5_toldBy 20 = .ok (.iconst 0, 1) := by decide +kernel
theorem dX5_toldBy_21 : decode cX5_toldBy 21 = .ok (.goto 10, 3) := by decide +kernel
theorem dX5_toldBy_24 : decode cX5_toldBy 24 = .ok (.aload_n 0, 1) := by decide +kernel
theorem dX5_toldBy_25 : decode cX5_toldBy 25 = .ok (.iload_n 1, 1) := by decide +kernel
theorem dX5_toldBy_26 : decode cX5_toldBy 26 = .ok (.iload_n 2, 1) := by decide +kernel
theorem dX5_toldBy_27 : decode cX5_toldBy 27 = .ok (.iload_n 3, 1) := by decide +kernel
theorem dX5_toldBy_28 : decode cX5_toldBy 28 = .ok (.invokevirtual 82, 3) := by decide +kernel
theorem dX5_toldBy_31 : decode cX5_toldBy 31 = .ok (.ireturn, 1) := by decide +kernel
theorem dX5_mend_0 : decode cX5_mend 0 = .ok (.bipush 64, 2) := by decide +kernel
theorem dX5_mend_2 : decode cX5_mend 2 = .ok (.aload_n 0, 1) := by decide +kernel
theorem dX5_mend_3 : decode cX5_mend 3 = .ok (.getfield 15, 3) := by decide +kernel
theorem dX5_mend_6 : decode cX5_mend 6 = .ok (.getfield 55, 3) := by decide +kernel
theorem dX5_mend_9 : decode cX5_mend 9 = .ok (.iload_n 1, 1) := by decide +kernel
theorem dX5_mend_10 : decode cX5_mend 10 = .ok (.iload_n 3, 1) := by decide +kernel
theorem dX5_mend_11 : decode cX5_mend 11 = .ok (.invokevirtual 85, 3) := by decide +kernel
theorem dX5_mend_14 : decode cX5_mend 14 = .ok (.imul, 1) := by decide +kernel
theorem dX5_mend_15 : decode cX5_mend 15 = .ok (.aload_n 0, 1) := by decide +kernel
theorem dX5_mend_16 : decode cX5_mend 16 = .ok (.iload_n 3, 1) := by decide +kernel
theorem dX5_mend_17 : decode cX5_mend 17 = .ok (.iload_n 2, 1) := by decide +kernel
theorem dX5_mend_18 : decode cX5_mend 18 = .ok (.invokevirtual 88, 3) := by decide +kernel
theorem dX5_mend_21 : decode cX5_mend 21 = .ok (.iadd, 1) := by decide +kernel
theorem dX5_mend_22 : decode cX5_mend 22 = .ok (.istore 4, 2) := by decide +kernel
theorem dX5_mend_24 : decode cX5_mend 24 = .ok (.iload_n 1, 1) := by decide +kernel
theorem dX5_mend_25 : decode cX5_mend 25 = .ok (.iload_n 2, 1) := by decide +kernel
theorem dX5_mend_26 : decode cX5_mend 26 = .ok (.iload_n 3, 1) := by decide +kernel
theorem dX5_mend_27 : decode cX5_mend 27 = .ok (.invokestatic 19, 3) := by decide +kernel
theorem dX5_mend_30 : decode cX5_mend 30 = .ok (.istore 5, 2) := by decide +kernel
theorem dX5_mend_32 : decode cX5_mend 32 = .ok (.aload_n 0, 1) := by decide +kernel
theorem dX5_mend_33 : decode cX5_mend 33 = .ok (.iload 5, 2) := by decide +kernel
theorem dX5_mend_35 : decode cX5_mend 35 = .ok (.invokevirtual 23, 3) := by decide +kernel
theorem dX5_mend_38 : decode cX5_mend 38 = .ok (.istore 6, 2) := by decide +kernel
theorem dX5_mend_40 : decode cX5_mend 40 = .ok (.aload_n 0, 1) := by decide +kernel
theorem dX5_mend_41 : decode cX5_mend 41 = .ok (.getfield 15, 3) := by decide +kernel
theorem dX5_mend_44 : decode cX5_mend 44 = .ok (.getfield 45, 3) := by decide +kernel
theorem dX5_mend_47 : decode cX5_mend 47 = .ok (.iload 5, 2) := by decide +kernel
theorem dX5_mend_49 : decode cX5_mend 49 = .ok (.iload 6, 2) := by decide +kernel
theorem dX5_mend_51 : decode cX5_mend 51 = .ok (.iload 4, 2) := by decide +kernel
theorem dX5_mend_53 : decode cX5_mend 53 = .ok (.iload 6, 2) := by decide +kernel
theorem dX5_mend_55 : decode cX5_mend 55 = .ok (.isub, 1) := by decide +kernel
theorem dX5_mend_56 : decode cX5_mend 56 = .ok (.aload_n 0, 1) := by decide +kernel
theorem dX5_mend_57 : decode cX5_mend 57 = .ok (.getfield 9, 3) := by decide +kernel
theorem dX5_mend_60 : decode cX5_mend 60 = .ok (.getfield 91, 3) := by decide +kernel
theorem dX5_mend_63 : decode cX5_mend 63 = .ok (.ishr, 1) := by decide +kernel
theorem dX5_mend_64 : decode cX5_mend 64 = .ok (.iadd, 1) := by decide +kernel
theorem dX5_mend_65 : decode cX5_mend 65 = .ok (.ldc 94, 2) := by decide +kernel
theorem dX5_mend_67 : decode cX5_mend 67 = .ok (.invokestatic 95, 3) := by decide +kernel
theorem dX5_mend_70 : decode cX5_mend 70 = .ok (.iastore, 1) := by decide +kernel
theorem dX5_mend_71 : decode cX5_mend 71 = .ok (.aload_n 0, 1) := by decide +kernel
theorem dX5_mend_72 : decode cX5_mend 72 = .ok (.getfield 15, 3) := by decide +kernel
theorem dX5_mend_75 : decode cX5_mend 75 = .ok (.getfield 27, 3) := by decide +kernel
theorem dX5_mend_78 : decode cX5_mend 78 = .ok (.iload 5, 2) := by decide +kernel
theorem dX5_mend_80 : decode cX5_mend 80 = .ok (.aload_n 0, 1) := by decide +kernel
theorem dX5_mend_81 : decode cX5_mend 81 = .ok (.getfield 15, 3) := by decide +kernel
theorem dX5_mend_84 : decode cX5_mend 84 = .ok (.getfield 33, 3) := by decide +kernel
theorem dX5_mend_87 : decode cX5_mend 87 = .ok (.iastore, 1) := by decide +kernel
theorem dX5_mend_88 : decode cX5_mend 88 = .ok (.return_, 1) := by decide +kernel
theorem dX5_deliver_0 : decode cX5_deliver 0 = .ok (.aload_n 0, 1) := by decide +kernel
theorem dX5_deliver_1 : decode cX5_deliver 1 = .ok (.getfield 15, 3) := by decide +kernel
theorem dX5_deliver_4 : decode cX5_deliver 4 = .ok (.iconst 0, 1) := by decide +kernel
theorem dX5_deliver_5 : decode cX5_deliver 5 = .ok (.putfield 100, 3) := by decide +kernel
theorem dX5_deliver_8 : decode cX5_deliver 8 = .ok (.aload_n 0, 1) := by decide +kernel
theorem dX5_deliver_9 : decode cX5_deliver 9 = .ok (.getfield 15, 3) := by decide +kernel
theorem dX5_deliver_12 : decode cX5_deliver 12 = .ok (.iload_n 1, 1) := by decide +kernel
theorem dX5_deliver_13 : decode cX5_deliver 13 = .ok (.invokevirtual 103, 3) := by decide +kernel
theorem dX5_deliver_16 : decode cX5_deliver 16 = .ok (.iload_n 1, 1) := by decide +kernel
theorem dX5_deliver_17 : decode cX5_deliver 17 = .ok (.istore_n 3, 1) := by decide +kernel
theorem dX5_deliver_18 : decode cX5_deliver 18 = .ok (.iconst 0, 1) := by decide +kernel
theorem dX5_deliver_19 : decode cX5_deliver 19 = .ok (.istore 4, 2) := by decide +kernel
theorem dX5_deliver_21 : decode cX5_deliver 21 = .ok (.iconst 0, 1) := by decide +kernel
theorem dX5_deliver_22 : decode cX5_deliver 22 = .ok (.istore 5, 2) := by decide +kernel
theorem dX5_deliver_24 : decode cX5_deliver 24 = .ok (.iload 5, 2) := by decide +kernel
theorem dX5_deliver_26 : decode cX5_deliver 26 = .ok (.bipush 100, 2) := by decide +kernel
theorem dX5_deliver_28 : decode cX5_deliver 28 = .ok (.if_icmp .ge 103, 3) := by decide +kernel
theorem dX5_deliver_31 : decode cX5_deliver 31 = .ok (.aload_n 0, 1) := by decide +kernel
theorem dX5_deliver_32 : decode cX5_deliver 32 = .ok (.iload_n 3, 1) := by decide +kernel
theorem dX5_deliver_33 : decode cX5_deliver 33 = .ok (.iload_n 2, 1) := by decide +kernel
theorem dX5_deliver_34 : decode cX5_deliver 34 = .ok (.invokevirtual 107, 3) := by decide +kernel
theorem dX5_deliver_37 : decode cX5_deliver 37 = .ok (.istore 6, 2) := by decide +kernel
theorem dX5_deliver_39 : decode cX5_deliver 39 = .ok (.iload 6, 2) := by decide +kernel
theorem dX5_deliver_41 : decode cX5_deliver 41 = .ok (.bipush (-9), 2) := by decide +kernel
theorem dX5_deliver_43 : decode cX5_deliver 43 = .ok (.if_icmp .ne 6, 3) := by decide +kernel
theorem dX5_deliver_46 : decode cX5_deliver 46 = .ok (.bipush (-9), 2) := by decide +kernel
theorem dX5_deliver_48 : decode cX5_deliver 48 = .ok (.ireturn, 1) := by decide +kernel
theorem dX5_deliver_49 : decode cX5_deliver 49 = .ok (.aload_n 0, 1) := by decide +kernel
theorem dX5_deliver_50 : decode cX5_deliver 50 = .ok (.getfield 15, 3) := by decide +kernel
theorem dX5_deliver_53 : decode cX5_deliver 53 = .ok (.dup, 1) := by decide +kernel
theorem dX5_deliver_54 : decode cX5_deliver 54 = .ok (.getfield 33, 3) := by decide +kernel
theorem dX5_deliver_57 : decode cX5_deliver 57 = .ok (.iconst 1, 1) := by decide +kernel
theorem dX5_deliver_58 : decode cX5_deliver 58 = .ok (.iadd, 1) := by decide +kernel
theorem dX5_deliver_59 : decode cX5_deliver 59 = .ok (.putfield 33, 3) := by decide +kernel
theorem dX5_deliver_62 : decode cX5_deliver 62 = .ok (.iload 4, 2) := by decide +kernel
theorem dX5_deliver_64 : decode cX5_deliver 64 = .ok (.aload_n 0, 1) := by decide +kernel
theorem dX5_deliver_65 : decode cX5_deliver 65 = .ok (.getfield 15, 3) := by decide +kernel
theorem dX5_deliver_68 : decode cX5_deliver 68 = .ok (.getfield 55, 3) := by decide +kernel
theorem dX5_deliver_71 : decode cX5_deliver 71 = .ok (.iload_n 3, 1) := by decide +kernel
theorem dX5_deliver_72 : decode cX5_deliver 72 = .ok (.iload 6, 2) := by decide +kernel
theorem dX5_deliver_74 : decode cX5_deliver 74 = .ok (.invokevirtual 85, 3) := by decide +kernel
theorem dX5_deliver_77 : decode cX5_deliver 77 = .ok (.iadd, 1) := by decide +kernel
theorem dX5_deliver_78 : decode cX5_deliver 78 = .ok (.istore 4, 2) := by decide +kernel
theorem dX5_deliver_80 : decode cX5_deliver 80 = .ok (.aload_n 0, 1) := by decide +kernel
theorem dX5_deliver_81 : decode cX5_deliver 81 = .ok (.iload_n 3, 1) := by decide +kernel
theorem dX5_deliver_82 : decode cX5_deliver 82 = .ok (.iload_n 2, 1) := by decide +kernel
theorem dX5_deliver_83 : decode cX5_deliver 83 = .ok (.iload 6, 2) := by decide +kernel
theorem dX5_deliver_85 : decode cX5_deliver 85 = .ok (.invokevirtual 110, 3) := by decide +kernel
theorem dX5_deliver_88 : decode cX5_deliver 88 = .ok (.aload_n 0, 1) := by decide +kernel
theorem dX5_deliver_89 : decode cX5_deliver 89 = .ok (.getfield 15, 3) := by decide +kernel
theorem dX5_deliver_92 : decode cX5_deliver 92 = .ok (.iload_n 3, 1) := by decide +kernel
theorem dX5_deliver_93 : decode cX5_deliver 93 = .ok (.iload 6, 2) := by decide +kernel
theorem dX5_deliver_95 : decode cX5_deliver 95 = .ok (.invokevirtual 114, 3) := by decide +kernel
theorem dX5_deliver_98 : decode cX5_deliver 98 = .ok (.iload 6, 2) := by decide +kernel
theorem dX5_deliver_100 : decode cX5_deliver 100 = .ok (.iload_n 2, 1) := by decide +kernel
theorem dX5_deliver_101 : decode cX5_deliver 101 = .ok (.if_icmp .ne 6, 3) := by decide +kernel
theorem dX5_deliver_104 : decode cX5_deliver 104 = .ok (.iload 4, 2) := by decide +kernel
theorem dX5_deliver_106 : decode cX5_deliver 106 = .ok (.ireturn, 1) := by decide +kernel
theorem dX5_deliver_107 : decode cX5_deliver 107 = .ok (.iload 4, 2) := by decide +kernel
theorem dX5_deliver_109 : decode cX5_deliver 109 = .ok (.aload_n 0, 1) := by decide +kernel
theorem dX5_deliver_110 : decode cX5_deliver 110 = .ok (.getfield 9, 3) := by decide +kernel
theorem dX5_deliver_113 : decode cX5_deliver 113 = .ok (.getfield 118, 3) := by decide +kernel
theorem dX5_deliver_116 : decode cX5_deliver 116 = .ok (.if_icmp .le 6, 3) := by decide +kernel
theorem dX5_deliver_119 : decode cX5_deliver 119 = .ok (.bipush (-9), 2) := by decide +kernel
theorem dX5_deliver_121 : decode cX5_deliver 121 = .ok (.ireturn, 1) := by decide +kernel
theorem dX5_deliver_122 : decode cX5_deliver 122 = .ok (.iload 6, 2) := by decide +kernel
theorem dX5_deliver_124 : decode cX5_deliver 124 = .ok (.istore_n 3, 1) := by decide +kernel
theorem dX5_deliver_125 : decode cX5_deliver 125 = .ok (.iinc 5 1, 3) := by decide +kernel
theorem dX5_deliver_128 : decode cX5_deliver 128 = .ok (.goto (-104), 3) := by decide +kernel
theorem dX5_deliver_131 : decode cX5_deliver 131 = .ok (.bipush (-9), 2) := by decide +kernel
theorem dX5_deliver_133 : decode cX5_deliver 133 = .ok (.ireturn, 1) := by decide +kernel
theorem dX5_deliverRound_0 : decode cX5_deliverRound 0 = .ok (.iconst 0, 1) := by decide +kernel
theorem dX5_deliverRound_1 : decode cX5_deliverRound 1 = .ok (.istore_n 1, 1) := by decide +kernel
theorem dX5_deliverRound_2 : decode cX5_deliverRound 2 = .ok (.iconst 0, 1) := by decide +kernel
theorem dX5_deliverRound_3 : decode cX5_deliverRound 3 = .ok (.istore_n 2, 1) := by decide +kernel
theorem dX5_deliverRound_4 : decode cX5_deliverRound 4 = .ok (.iload_n 2, 1) := by decide +kernel
theorem dX5_deliverRound_5 : decode cX5_deliverRound 5 = .ok (.aload_n 0, 1) := by decide +kernel
theorem dX5_deliverRound_6 : decode cX5_deliverRound 6 = .ok (.getfield 9, 3) := by decide +kernel
theorem dX5_deliverRound_9 : decode cX5_deliverRound 9 = .ok (.getfield 52, 3) := by decide +kernel
theorem dX5_deliverRound_12 : decode cX5_deliverRound 12 = .ok (.if_icmp .ge 47, 3) := by decide +kernel
theorem dX5_deliverRound_15 : decode cX5_deliverRound 15 = .ok (.iconst 0, 1) := by decide +kernel
theorem dX5_deliverRound_16 : decode cX5_deliverRound 16 = .ok (.istore_n 3, 1) := by decide +kernel
theorem dX5_deliverRound_17 : decode cX5_deliverRound 17 = .ok (.iload_n 3, 1) := by decide +kernel
theorem dX5_deliverRound_18 : decode cX5_deliverRound 18 = .ok (.aload_n 0, 1) := by decide +kernel
theorem dX5_deliverRound_19 : decode cX5_deliverRound 19 = .ok (.getfield 9, 3) := by decide +kernel
theorem dX5_deliverRound_22 : decode cX5_deliverRound 22 = .ok (.getfield 52, 3) := by decide +kernel
theorem dX5_deliverRound_25 : decode cX5_deliverRound 25 = .ok (.if_icmp .ge 28, 3) := by decide +kernel
theorem dX5_deliverRound_28 : decode cX5_deliverRound 28 = .ok (.iload_n 2, 1) := by decide +kernel
theorem dX5_deliverRound_29 : decode cX5_deliverRound 29 = .ok (.iload_n 3, 1) := by decide +kernel
theorem dX5_deliverRound_30 : decode cX5_deliverRound 30 = .ok (.if_icmp .eq 17, 3) := by decide +kernel
theorem dX5_deliverRound_33 : decode cX5_deliverRound 33 = .ok (.aload_n 0, 1) := by decide +kernel
theorem dX5_deliverRound_34 : decode cX5_deliverRound 34 = .ok (.iload_n 2, 1) := by decide +kernel
theorem dX5_deliverRound_35 : decode cX5_deliverRound 35 = .ok (.iload_n 3, 1) := by decide +kernel
theorem dX5_deliverRound_36 : decode cX5_deliverRound 36 = .ok (.invokevirtual 121, 3) := by decide +kernel
theorem dX5_deliverRound_39 : decode cX5_deliverRound 39 = .ok (.bipush (-9), 2) := by decide +kernel
theorem dX5_deliverRound_41 : decode cX5_deliverRound 41 = .ok (.if_icmp .eq 6, 3) := by decide +kernel
theorem dX5_deliverRound_44 : decode cX5_deliverRound 44 = .ok (.iinc 1 1, 3) := by decide +kernel
theorem dX5_deliverRound_47 : decode cX5_deliverRound 47 = .ok (.iinc 3 1, 3) := by decide +kernel
theorem dX5_deliverRound_50 : decode cX5_deliverRound 50 = .ok (.goto (-33), 3) := by decide +kernel
theorem dX5_deliverRound_53 : decode cX5_deliverRound 53 = .ok (.iinc 2 1, 3) := by decide +kernel
theorem dX5_deliverRound_56 : decode cX5_deliverRound 56 = .ok (.goto (-52), 3) := by decide +kernel
theorem dX5_deliverRound_59 : decode cX5_deliverRound 59 = .ok (.iload_n 1, 1) := by decide +kernel
theorem dX5_deliverRound_60 : decode cX5_deliverRound 60 = .ok (.ireturn, 1) := by decide +kernel
theorem dX6_init_0 : decode cX6_init 0 = .ok (.aload_n 0, 1) := by decide +kernel
theorem dX6_init_1 : decode cX6_init 1 = .ok (.invokespecial 3, 3) := by decide +kernel
theorem dX6_init_4 : decode cX6_init 4 = .ok (.aload_n 0, 1) := by decide +kernel
theorem dX6_init_5 : decode cX6_init 5 = .ok (.new 9, 3) := by decide +kernel
theorem dX6_init_8 : decode cX6_init 8 = .ok (.dup, 1) := by decide +kernel
theorem dX6_init_9 : decode cX6_init 9 = .ok (.invokespecial 11, 3) := by decide +kernel
theorem dX6_init_12 : decode cX6_init 12 = .ok (.putfield 12, 3) := by decide +kernel
theorem dX6_init_15 : decode cX6_init 15 = .ok (.aload_n 0, 1) := by decide +kernel
theorem dX6_init_16 : decode cX6_init 16 = .ok (.new 18, 3) := by decide +kernel
theorem dX6_init_19 : decode cX6_init 19 = .ok (.dup, 1) := by decide +kernel
theorem dX6_init_20 : decode cX6_init 20 = .ok (.invokespecial 20, 3) := by decide +kernel
theorem dX6_init_23 : decode cX6_init 23 = .ok (.putfield 21, 3) := by decide +kernel
theorem dX6_init_26 : decode cX6_init 26 = .ok (.aload_n 0, 1) := by decide +kernel
theorem dX6_init_27 : decode cX6_init 27 = .ok (.aload_n 1, 1) := by decide +kernel
theorem dX6_init_28 : decode cX6_init 28 = .ok (.putfield 25, 3) := by decide +kernel
theorem dX6_init_31 : decode cX6_init 31 = .ok (.return_, 1) := by decide +kernel
theorem dX6_readText_0 : decode cX6_readText 0 = .ok (.aload_n 0, 1) := by decide +kernel
theorem dX6_readText_1 : decode cX6_readText 1 = .ok (.getfield 12, 3) := by decide +kernel
theorem dX6_readText_4 : decode cX6_readText 4 = .ok (.invokevirtual 29, 3) := by decide +kernel
theorem dX6_readText_7 : decode cX6_readText 7 = .ok (.aload_n 0, 1) := by decide +kernel
theorem dX6_readText_8 : decode cX6_readText 8 = .ok (.getfield 21, 3) := by decide +kernel
theorem dX6_readText_11 : decode cX6_readText 11 = .ok (.invokevirtual 32, 3) := by decide +kernel
theorem dX6_readText_14 : decode cX6_readText 14 = .ok (.aload_n 0, 1) := by decide +kernel
theorem dX6_readText_15 : decode cX6_readText 15 = .ok (.iconst 0, 1) := by decide +kernel
theorem dX6_readText_16 : decode cX6_readText 16 = .ok (.putfield 33, 3) := by decide +kernel
theorem dX6_readText_19 : decode cX6_readText 19 = .ok (.aload_n 0, 1) := by decide +kernel
theorem dX6_readText_20 : decode cX6_readText 20 = .ok (.iconst 0, 1) := by decide +kernel
theorem dX6_readText_21 : decode cX6_readText 21 = .ok (.putfield 37, 3) := by decide +kernel
theorem dX6_readText_24 : decode cX6_readText 24 = .ok (.iconst 0, 1) := by decide +kernel
theorem dX6_readText_25 : decode cX6_readText 25 = .ok (.istore_n 1, 1) := by decide +kernel
theorem dX6_readText_26 : decode cX6_readText 26 = .ok (.iload_n 1, 1) := by decide +kernel
theorem dX6_readText_27 : decode cX6_readText 27 = .ok (.bipush 120, 2) := by decide +kernel
theorem dX6_readText_29 : decode cX6_readText 29 = .ok (.if_icmp .gt 53, 3) := by decide +kernel
theorem dX6_readText_32 : decode cX6_readText 32 = .ok (.aload_n 0, 1) := by decide +kernel
theorem dX6_readText_33 : decode cX6_readText 33 = .ok (.invokevirtual 40, 3) := by decide +kernel
theorem dX6_readText_36 : decode cX6_readText 36 = .ok (.aload_n 0, 1) := by decide +kernel
theorem dX6_readText_37 : decode cX6_readText 37 = .ok (.getfield 43, 3) := by decide +kernel
theorem dX6_readText_40 : decode cX6_readText 40 = .ok (.bipush (-3), 2) := by decide +kernel
theorem dX6_readText_42 : decode cX6_readText 42 = .ok (.if_icmp .ne 5, 3) := by decide +kernel
theorem dX6_readText_45 : decode cX6_readText 45 = .ok (.iconst (-1), 1) := by decide +kernel
theorem dX6_readText_46 : decode cX6_readText 46 = .ok (.ireturn, 1) := by decide +kernel
theorem dX6_readText_47 : decode cX6_readText 47 = .ok (.aload_n 0, 1) := by decide +kernel
theorem dX6_readText_48 : decode cX6_readText 48 = .ok (.invokevirtual 46, 3) := by decide +kernel
theorem dX6_readText_51 : decode cX6_readText 51 = .ok (.ifCond .eq 10, 3) := by decide +kernel
theorem dX6_readText_54 : decode cX6_readText 54 = .ok (.aload_n 0, 1) := by decide +kernel
theorem dX6_readText_55 : decode cX6_readText 55 = .ok (.invokevirtual 50, 3) := by decide +kernel
theorem dX6_readText_58 : decode cX6_readText 58 = .ok (.ifCond .ne 8, 3) := by decide +kernel
theorem dX6_readText_61 : decode cX6_readText 61 = .ok (.aload_n 0, 1) := by decide +kernel
theorem dX6_readText_62 : decode cX6_readText 62 = .ok (.getfield 53, 3) := by decide +kernel
theorem dX6_readText_65 : decode cX6_readText 65 = .ok (.ireturn, 1) := by decide +kernel
theorem dX6_readText_66 : decode cX6_readText 66 = .ok (.aload_n 0, 1) := by decide +kernel
theorem dX6_readText_67 : decode cX6_readText 67 = .ok (.dup, 1) := by decide +kernel
theorem dX6_readText_68 : decode cX6_readText 68 = .ok (.getfield 33, 3) := by decide +kernel
theorem dX6_readText_71 : decode cX6_readText 71 = .ok (.iconst 1, 1) := by decide +kernel
theorem dX6_readText_72 : decode cX6_readText 72 = .ok (.iadd, 1) := by decide +kernel
theorem dX6_readText_73 : decode cX6_readText 73 = .ok (.putfield 33, 3) := by decide +kernel
theorem dX6_readText_76 : decode cX6_readText 76 = .ok (.iinc 1 1, 3) := by decide +kernel
theorem dX6_readText_79 : decode cX6_readText 79 = .ok (.goto (-53), 3) := by decide +kernel
theorem dX6_readText_82 : decode cX6_readText 82 = .ok (.aload_n 0, 1) := by decide +kernel
theorem dX6_readText_83 : decode cX6_readText 83 = .ok (.getfield 53, 3) := by decide +kernel
theorem dX6_readText_86 : decode cX6_readText 86 = .ok (.ireturn, 1) := by decide +kernel
theorem dX6_readEnd_0 : decode cX6_readEnd 0 = .ok (.aload_n 0, 1) := by decide +kernel
theorem dX6_readEnd_1 : decode cX6_readEnd 1 = .ok (.invokevirtual 40, 3) := by decide +kernel
theorem dX6_readEnd_4 : decode cX6_readEnd 4 = .ok (.aload_n 0, 1) := by decide +kernel
theorem dX6_readEnd_5 : decode cX6_readEnd 5 = .ok (.getfield 43, 3) := by decide +kernel
theorem dX6_readEnd_8 : decode cX6_readEnd 8 = .ok (.bipush 59, 2) := by decide +kernel
theorem dX6_readEnd_10 : decode cX6_readEnd 10 = .ok (.if_icmp .ne 7, 3) := by decide +kernel
theorem dX6_readEnd_13 : decode cX6_readEnd 13 = .ok (.iconst 1, 1) := by decide +kernel
theorem dX6_readEnd_14 : decode cX6_readEnd 14 = .ok (.goto 4, 3) := by decide +kernel
theorem dX6_readEnd_17 : decode cX6_readEnd 17 = .ok (.iconst 0, 1) := by decide +kernel
theorem dX6_readEnd_18 : decode cX6_readEnd 18 = .ok (.ireturn, 1) := by decide +kernel
theorem dX6_readItem_0 : decode cX6_readItem 0 = .ok (.aload_n 0, 1) := by decide +kernel
theorem dX6_readItem_1 : decode cX6_readItem 1 = .ok (.getfield 43, 3) := by decide +kernel
theorem dX6_readItem_4 : decode cX6_readItem 4 = .ok (.tableswitch 166 97 120 #[157, 166, 166, 166, 132, 157, 166, 157, 166, 166, 166, 157, 166, 112, 166, 166, 166, 166, 166, 166, 166, 166, 166, 157], 112) := by decide +kernel
theorem dX6_readItem_116 : decode cX6_readItem 116 = .ok (.aload_n 0, 1) := by decide +kernel
theorem dX6_readItem_117 : decode cX6_readItem 117 = .ok (.getfield 33, 3) := by decide +kernel
theorem dX6_readItem_120 : decode cX6_readItem 120 = .ok (.ifCond .ne 14, 3) := by decide +kernel
theorem dX6_readItem_123 : decode cX6_readItem 123 = .ok (.aload_n 0, 1) := by decide +kernel
theorem dX6_readItem_124 : decode cX6_readItem 124 = .ok (.invokevirtual 56, 3) := by decide +kernel
theorem dX6_readItem_127 : decode cX6_readItem 127 = .ok (.ifCond .eq 7, 3) := by decide +kernel
theorem dX6_readItem_130 : decode cX6_readItem 130 = .ok (.iconst 1, 1) := by decide +kernel
theorem dX6_readItem_131 : decode cX6_readItem 131 = .ok (.goto 4, 3) := by decide +kernel
theorem dX6_readItem_134 : decode cX6_readItem 134 = .ok (.iconst 0, 1) := by decide +kernel
theorem dX6_readItem_135 : decode cX6_readItem 135 = .ok (.ireturn, 1) := by decide +kernel
theorem dX6_readItem_136 : decode cX6_readItem 136 = .ok (.aload_n 0, 1) := by decide +kernel
theorem dX6_readItem_137 : decode cX6_readItem 137 = .ok (.getfield 21, 3) := by decide +kernel
theorem dX6_readItem_140 : decode cX6_readItem 140 = .ok (.getfield 59, 3) := by decide +kernel
theorem dX6_readItem_143 : decode cX6_readItem 143 = .ok (.bipush 10, 2) := by decide +kernel
theorem dX6_readItem_145 : decode cX6_readItem 145 = .ok (.if_icmp .ge 14, 3) := by decide +kernel
theorem dX6_readItem_148 : decode cX6_readItem 148 = .ok (.aload_n 0, 1) := by decide +kernel
theorem dX6_readItem_149 : decode cX6_readItem 149 = .ok (.invokevirtual 62, 3) := by decide +kernel
theorem dX6_readItem_152 : decode cX6_readItem 152 = .ok (.ifCond .eq 7, 3) := by decide +kernel
theorem dX6_readItem_155 : decode cX6_readItem 155 = .ok (.iconst 1, 1) := by decide +kernel
theorem dX6_readItem_156 : decode cX6_readItem 156 = .ok (.goto 4, 3) := by decide +kernel
theorem dX6_readItem_159 : decode cX6_readItem 159 = .ok (.iconst 0, 1) := by decide +kernel
theorem dX6_readItem_160 : decode cX6_readItem 160 = .ok (.ireturn, 1) := by decide +kernel
theorem dX6_readItem_161 : decode cX6_readItem 161 = .ok (.aload_n 0, 1) := by decide +kernel
theorem dX6_readItem_162 : decode cX6_readItem 162 = .ok (.aload_n 0, 1) := by decide +kernel
theorem dX6_readItem_163 : decode cX6_readItem 163 = .ok (.getfield 43, 3) := by decide +kernel
theorem dX6_readItem_166 : decode cX6_readItem 166 = .ok (.invokevirtual 65, 3) := by decide +kernel
theorem dX6_readItem_169 : decode cX6_readItem 169 = .ok (.ireturn, 1) := by decide +kernel
theorem dX6_readItem_170 : decode cX6_readItem 170 = .ok (.iconst 0, 1) := by decide +kernel
theorem dX6_readItem_171 : decode cX6_readItem 171 = .ok (.ireturn, 1) := by decide +kernel
theorem dX6_readNodes_0 : decode cX6_readNodes 0 = .ok (.aload_n 0, 1) := by decide +kernel
theorem dX6_readNodes_1 : decode cX6_readNodes 1 = .ok (.iconst 2, 1) := by decide +kernel
theorem dX6_readNodes_2 : decode cX6_readNodes 2 = .ok (.bipush 6, 2) := by decide +kernel
theorem dX6_readNodes_4 : decode cX6_readNodes 4 = .ok (.invokevirtual 69, 3) := by decide +kernel
theorem dX6_readNodes_7 : decode cX6_readNodes 7 = .ok (.ifCond .ne 5, 3) := by decide +kernel
theorem dX6_readNodes_10 : decode cX6_readNodes 10 = .ok (.iconst 0, 1) := by decide +kernel
theorem dX6_readNodes_11 : decode cX6_readNodes 11 = .ok (.ireturn, 1) := by decide +kernel
theorem dX6_readNodes_12 : decode cX6_readNodes 12 = .ok (.aload_n 0, 1) := by decide +kernel
theorem dX6_readNodes_13 : decode cX6_readNodes 13 = .ok (.getfield 12, 3) := by decide +kernel
theorem dX6_readNodes_16 : decode cX6_readNodes 16 = .ok (.aload_n 0, 1) := by decide +kernel
theorem dX6_readNodes_17 : decode cX6_readNodes 17 = .ok (.getfield 73, 3) := by decide +kernel
theorem dX6_readNodes_20 : decode cX6_readNodes 20 = .ok (.putfield 76, 3) := by decide +kernel
theorem dX6_readNodes_23 : decode cX6_readNodes 23 = .ok (.iconst 1, 1) := by decide +kernel
theorem dX6_readNodes_24 : decode cX6_readNodes 24 = .ok (.ireturn, 1) := by decide +kernel
theorem dX6_readLink_0 : decode cX6_readLink 0 = .ok (.aload_n 0, 1) := by decide +kernel
theorem dX6_readLink_1 : decode cX6_readLink 1 = .ok (.iconst 0, 1) := by decide +kernel
theorem dX6_readLink_2 : decode cX6_readLink 2 = .ok (.aload_n 0, 1) := by decide +kernel
theorem dX6_readLink_3 : decode cX6_readLink 3 = .ok (.getfield 12, 3) := by decide +kernel
theorem dX6_readLink_6 : decode cX6_readLink 6 = .ok (.getfield 76, 3) := by decide +kernel
theorem dX6_readLink_9 : decode cX6_readLink 9 = .ok (.iconst 1, 1) := by decide +kernel
theorem dX6_readLink_10 : decode cX6_readLink 10 = .ok (.isub, 1) := by decide +kernel
theorem dX6_readLink_11 : decode cX6_readLink 11 = .ok (.invokevirtual 69, 3) := by decide +kernel
theorem dX6_readLink_14 : decode cX6_readLink 14 = .ok (.ifCond .ne 5, 3) := by decide +kernel
theorem dX6_readLink_17 : decode cX6_readLink 17 = .ok (.iconst 0, 1) := by decide +kernel
theorem dX6_readLink_18 : decode cX6_readLink 18 = .ok (.ireturn, 1) := by decide +kernel
theorem dX6_readLink_19 : decode cX6_readLink 19 = .ok (.aload_n 0, 1) := by decide +kernel
theorem dX6_readLink_20 : decode cX6_readLink 20 = .ok (.getfield 73, 3) := by decide +kernel
theorem dX6_readLink_23 : decode cX6_readLink 23 = .ok (.istore_n 1, 1) := by decide +kernel
theorem dX6_readLink_24 : decode cX6_readLink 24 = .ok (.aload_n 0, 1) := by decide +kernel
theorem dX6_readLink_25 : decode cX6_readLink 25 = .ok (.iconst 0, 1) := by decide +kernel
theorem dX6_readLink_26 : decode cX6_readLink 26 = .ok (.aload_n 0, 1) := by decide +kernel
theorem dX6_readLink_27 : decode cX6_readLink 27 = .ok (.getfield 12, 3) := by decide +kernel
theorem dX6_readLink_30 : decode cX6_readLink 30 = .ok (.getfield 76, 3) := by decide +kernel
theorem dX6_readLink_33 : decode cX6_readLink 33 = .ok (.iconst 1, 1) := by decide +kernel
theorem dX6_readLink_34 : decode cX6_readLink 34 = .ok (.isub, 1) := by decide +kernel
theorem dX6_readLink_35 : decode cX6_readLink 35 = .ok (.invokevirtual 69, 3) := by decide +kernel
theorem dX6_readLink_38 : decode cX6_readLink 38 = .ok (.ifCond .ne 5, 3) := by decide +kernel
theorem dX6_readLink_41 : decode cX6_readLink 41 = .ok (.iconst 0, 1) := by decide +kernel
theorem dX6_readLink_42 : decode cX6_readLink 42 = .ok (.ireturn, 1) := by decide +kernel
theorem dX6_readLink_43 : decode cX6_readLink 43 = .ok (.aload_n 0, 1) := by decide +kernel
theorem dX6_readLink_44 : decode cX6_readLink 44 = .ok (.getfield 73, 3) := by decide +kernel
theorem dX6_readLink_47 : decode cX6_readLink 47 = .ok (.istore_n 2, 1) := by decide +kernel
theorem dX6_readLink_48 : decode cX6_readLink 48 = .ok (.iload_n 2, 1) := by decide +kernel
theorem dX6_readLink_49 : decode cX6_readLink 49 = .ok (.iload_n 1, 1) := by decide +kernel
theorem dX6_readLink_50 : decode cX6_readLink 50 = .ok (.if_icmp .eq 25, 3) := by decide +kernel
theorem dX6_readLink_53 : decode cX6_readLink 53 = .ok (.aload_n 0, 1) := by decide +kernel
theorem dX6_readLink_54 : decode cX6_readLink 54 = .ok (.getfield 21, 3) := by decide +kernel
theorem dX6_readLink_57 : decode cX6_readLink 57 = .ok (.iload_n 1, 1) := by decide +kernel
theorem dX6_readLink_58 : decode cX6_readLink 58 = .ok (.iload_n 2, 1) := by decide +kernel
theorem dX6_readLink_59 : decode cX6_readLink 59 = .ok (.invokevirtual 79, 3) := by decide +kernel
theorem dX6_readLink_62 : decode cX6_readLink 62 = .ok (.ifCond .gt 13, 3) := by decide +kernel
theorem dX6_readLink_65 : decode cX6_readLink 65 = .ok (.aload_n 0, 1) := by decide +kernel
theorem dX6_readLink_66 : decode cX6_readLink 66 = .ok (.iconst 1, 1) := by decide +kernel
theorem dX6_readLink_67 : decode cX6_readLink 67 = .ok (.bipush 9, 2) := by decide +kernel
theorem dX6_readLink_69 : decode cX6_readLink 69 = .ok (.invokevirtual 69, 3) := by decide +kernel
theorem dX6_readLink_72 : decode cX6_readLink 72 = .ok (.ifCond .ne 5, 3) := by decide +kernel
theorem dX6_readLink_75 : decode cX6_readLink 75 = .ok (.iconst 0, 1) := by decide +kernel
theorem dX6_readLink_76 : decode cX6_readLink 76 = .ok (.ireturn, 1) := by decide +kernel
theorem dX6_readLink_77 : decode cX6_readLink 77 = .ok (.aload_n 0, 1) := by decide +kernel
theorem dX6_readLink_78 : decode cX6_readLink 78 = .ok (.getfield 21, 3) := by decide +kernel
theorem dX6_readLink_81 : decode cX6_readLink 81 = .ok (.iload_n 1, 1) := by decide +kernel
theorem dX6_readLink_82 : decode cX6_readLink 82 = .ok (.iload_n 2, 1) := by decide +kernel
theorem dX6_readLink_83 : decode cX6_readLink 83 = .ok (.aload_n 0, 1) := by decide +kernel
theorem dX6_readLink_84 : decode cX6_readLink 84 = .ok (.getfield 73, 3) := by decide +kernel
theorem dX6_readLink_87 : decode cX6_readLink 87 = .ok (.invokevirtual 83, 3) := by decide +kernel
theorem dX6_readLink_90 : decode cX6_readLink 90 = .ok (.iconst 1, 1) := by decide +kernel
theorem dX6_readLink_91 : decode cX6_readLink 91 = .ok (.ireturn, 1) := by decide +kernel
theorem dX6_readRule_0 : decode cX6_readRule 0 = .ok (.aload_n 0, 1) := by decide +kernel
theorem dX6_readRule_1 : decode cX6_readRule 1 = .ok (.iload_n 1, 1) := by decide +kernel
theorem dX6_readRule_2 : decode cX6_readRule 2 = .ok (.invokestatic 87, 3) := by decide +kernel
theorem dX6_readRule_5 : decode cX6_readRule 5 = .ok (.iload_n 1, 1) := by decide +kernel
theorem dX6_readRule_6 : decode cX6_readRule 6 = .ok (.invokestatic 91, 3) := by decide +kernel
theorem dX6_readRule_9 : decode cX6_readRule 9 = .ok (.invokevirtual 69, 3) := by decide +kernel
theorem dX6_readRule_12 : decode cX6_readRule 12 = .ok (.ifCond .ne 5, 3) := by decide +kernel
theorem dX6_readRule_15 : decode cX6_readRule 15 = .ok (.iconst 0, 1) := by decide +kernel
theorem dX6_readRule_16 : decode cX6_readRule 16 = .ok (.ireturn, 1) := by decide +kernel
theorem dX6_readRule_17 : decode cX6_readRule 17 = .ok (.iload_n 1, 1) := by decide +kernel
theorem dX6_readRule_18 : decode cX6_readRule 18 = .ok (.bipush 120, 2) := by decide +kernel
theorem dX6_readRule_20 : decode cX6_readRule 20 = .ok (.if_icmp .ne 17, 3) := by decide +kernel
theorem dX6_readRule_23 : decode cX6_readRule 23 = .ok (.aload_n 0, 1) := by decide +kernel
theorem dX6_readRule_24 : decode cX6_readRule 24 = .ok (.getfield 12, 3) := by decide +kernel
theorem dX6_readRule_27 : decode cX6_readRule 27 = .ok (.aload_n 0, 1) := by decide +kernel
theorem dX6_readRule_28 : decode cX6_readRule 28 = .ok (.getfield 73, 3) := by decide +kernel
theorem dX6_readRule_31 : decode cX6_readRule 31 = .ok (.putfield 94, 3) := by decide +kernel
theorem dX6_readRule_34 : decode cX6_readRule 34 = .ok (.goto 74, 3) := by decide +kernel
theorem dX6_readRule_37 : decode cX6_readRule 37 = .ok (.iload_n 1, 1) := by decide +kernel
theorem dX6_readRule_38 : decode cX6_readRule 38 = .ok (.bipush 104, 2) := by decide +kernel
theorem dX6_readRule_40 : decode cX6_readRule 40 = .ok (.if_icmp .ne 17, 3) := by decide +kernel
theorem dX6_readRule_43 : decode cX6_readRule 43 = .ok (.aload_n 0, 1) := by decide +kernel
theorem dX6_readRule_44 : decode cX6_readRule 44 = .ok (.getfield 12, 3) := by decide +kernel
theorem dX6_readRule_47 : decode cX6_readRule 47 = .ok (.aload_n 0, 1) := by decide +kernel
theorem dX6_readRule_48 : decode cX6_readRule 48 = .ok (.getfield 73, 3) := by decide +kernel
theorem dX6_readRule_51 : decode cX6_readRule 51 = .ok (.putfield 97, 3) := by decide +kernel
theorem dX6_readRule_54 : decode cX6_readRule 54 = .ok (.goto 54, 3) := by decide +kernel
theorem dX6_readRule_57 : decode cX6_readRule 57 = .ok (.iload_n 1, 1) := by decide +kernel
theorem dX6_readRule_58 : decode cX6_readRule 58 = .ok (.bipush 97, 2) := by decide +kernel
theorem dX6_readRule_60 : decode cX6_readRule 60 = .ok (.if_icmp .ne 17, 3) := by decide +kernel
theorem dX6_readRule_63 : decode cX6_readRule 63 = .ok (.aload_n 0, 1) := by decide +kernel
theorem dX6_readRule_64 : decode cX6_readRule 64 = .ok (.getfield 12, 3) := by decide +kernel
theorem dX6_readRule_67 : decode cX6_readRule 67 = .ok (.aload_n 0, 1) := by decide +kernel
theorem dX6_readRule_68 : decode cX6_readRule 68 = .ok (.getfield 73, 3) := by decide +kernel
theorem dX6_readRule_71 : decode cX6_readRule 71 = .ok (.putfield 100, 3) := by decide +kernel
theorem dX6_readRule_74 : decode cX6_readRule 74 = .ok (.goto 34, 3) := by decide +kernel
theorem dX6_readRule_77 : decode cX6_readRule 77 = .ok (.iload_n 1, 1) := by decide +kernel
theorem dX6_readRule_78 : decode cX6_readRule 78 = .ok (.bipush 108, 2) := by decide +kernel
theorem dX6_readRule_80 : decode cX6_readRule 80 = .ok (.if_icmp .ne 17, 3) := by decide +kernel
theorem dX6_readRule_83 : decode cX6_readRule 83 = .ok (.aload_n 0, 1) := by decide +kernel
theorem dX6_readRule_84 : decode cX6_readRule 84 = .ok (.getfield 12, 3) := by decide +kernel
theorem dX6_readRule_87 : decode cX6_readRule 87 = .ok (.aload_n 0, 1) := by decide +kernel
theorem dX6_readRule_88 : decode cX6_readRule 88 = .ok (.getfield 73, 3) := by decide +kernel
theorem dX6_readRule_91 : decode cX6_readRule 91 = .ok (.putfield 103, 3) := by decide +kernel
theorem dX6_readRule_94 : decode cX6_readRule 94 = .ok (.goto 14, 3) := by decide +kernel
theorem dX6_readRule_97 : decode cX6_readRule 97 = .ok (.aload_n 0, 1) := by decide +kernel
theorem dX6_readRule_98 : decode cX6_readRule 98 = .ok (.getfield 12, 3) := by decide +kernel
theorem dX6_readRule_101 : decode cX6_readRule 101 = .ok (.aload_n 0, 1) := by decide +kernel
theorem dX6_readRule_102 : decode cX6_readRule 102 = .ok (.getfield 73, 3) := by decide +kernel
theorem dX6_readRule_105 : decode cX6_readRule 105 = .ok (.putfield 106, 3) := by decide +kernel
theorem dX6_readRule_108 : decode cX6_readRule 108 = .ok (.iconst 1, 1) := by decide +kernel
theorem dX6_readRule_109 : decode cX6_readRule 109 = .ok (.ireturn, 1) := by decide +kernel
theorem dX6_lowestOf_0 : decode cX6_lowestOf 0 = .ok (.iload_n 0, 1) := by decide +kernel
theorem dX6_lowestOf_1 : decode cX6_lowestOf 1 = .ok (.bipush 97, 2) := by decide +kernel
theorem dX6_lowestOf_3 : decode cX6_lowestOf 3 = .ok (.if_icmp .eq 9, 3) := by decide +kernel
theorem dX6_lowestOf_6 : decode cX6_lowestOf 6 = .ok (.iload_n 0, 1) := by decide +kernel
theorem dX6_lowestOf_7 : decode cX6_lowestOf 7 = .ok (.bipush 108, 2) := by decide +kernel
theorem dX6_lowestOf_9 : decode cX6_lowestOf 9 = .ok (.if_icmp .ne 7, 3) := by decide +kernel
theorem dX6_lowestOf_12 : decode cX6_lowestOf 12 = .ok (.iconst 1, 1) := by decide +kernel
theorem dX6_lowestOf_13 : decode cX6_lowestOf 13 = .ok (.goto 4, 3) := by decide +kernel
theorem dX6_lowestOf_16 : decode cX6_lowestOf 16 = .ok (.iconst 0, 1) := by decide +kernel
theorem dX6_lowestOf_17 : decode cX6_lowestOf 17 = .ok (.ireturn, 1) := by decide +kernel
theorem dX6_highestOf_0 : decode cX6_highestOf 0 = .ok (.iload_n 0, 1) := by decide +kernel
theorem dX6_highestOf_1 : decode cX6_highestOf 1 = .ok (.bipush 120, 2) := by decide +kernel
theorem dX6_highestOf_3 : decode cX6_highestOf 3 = .ok (.if_icmp .ne 6, 3) := by decide +kernel
theorem dX6_highestOf_6 : decode cX6_highestOf 6 = .ok (.bipush 9, 2) := by decide +kernel
theorem dX6_highestOf_8 : decode cX6_highestOf 8 = .ok (.ireturn, 1) := by decide +kernel
theorem dX6_highestOf_9 : decode cX6_highestOf 9 = .ok (.iload_n 0, 1) := by decide +kernel
theorem dX6_highestOf_10 : decode cX6_highestOf 10 = .ok (.bipush 104, 2) := by decide +kernel
theorem dX6_highestOf_12 : decode cX6_highestOf 12 = .ok (.if_icmp .ne 7, 3) := by decide +kernel
theorem dX6_highestOf_15 : decode cX6_highestOf 15 = .ok (.iconst 3, 1) := by decide +kernel
theorem dX6_highestOf_16 : decode cX6_highestOf 16 = .ok (.goto 5, 3) := by decide +kernel
theorem dX6_highestOf_19 : decode cX6_highestOf 19 = .ok (.bipush 99, 2) := by decide +kernel
theorem dX6_highestOf_21 : decode cX6_highestOf 21 = .ok (.ireturn, 1) := by decide +kernel
theorem dX6_readNumber_0 : decode cX6_readNumber 0 = .ok (.aload_n 0, 1) := by decide +kernel
theorem dX6_readNumber_1 : decode cX6_readNumber 1 = .ok (.invokevirtual 40, 3) := by decide +kernel
theorem dX6_readNumber_4 : decode cX6_readNumber 4 = .ok (.aload_n 0, 1) := by decide +kernel
theorem dX6_readNumber_5 : decode cX6_readNumber 5 = .ok (.getfield 43, 3) := by decide +kernel
theorem dX6_readNumber_8 : decode cX6_readNumber 8 = .ok (.iconst (-1), 1) := by decide +kernel
theorem dX6_readNumber_9 : decode cX6_readNumber 9 = .ok (.if_icmp .ne 23, 3) := by decide +kernel
theorem dX6_readNumber_12 : decode cX6_readNumber 12 = .ok (.aload_n 0, 1) := by decide +kernel
theorem dX6_readNumber_13 : decode cX6_readNumber 13 = .ok (.getfield 73, 3) := by decide +kernel
theorem dX6_readNumber_16 : decode cX6_readNumber 16 = .ok (.iload_n 1, 1) := by decide +kernel
theorem dX6_readNumber_17 : decode cX6_readNumber 17 = .ok (.if_icmp .lt 15, 3) := by decide +kernel
theorem dX6_readNumber_20 : decode cX6_readNumber 20 = .ok (.aload_n 0, 1) := by decide +kernel
theorem dX6_readNumber_21 : decode cX6_readNumber 21 = .ok (.getfield 73, 3) := by decide +kernel
theorem dX6_readNumber_24 : decode cX6_readNumber 24 = .ok (.iload_n 2, 1) := by decide +kernel
theorem dX6_readNumber_25 : decode cX6_readNumber 25 = .ok (.if_icmp .gt 7, 3) := by decide +kernel
theorem dX6_readNumber_28 : decode cX6_readNumber 28 = .ok (.iconst 1, 1) := by decide +kernel
theorem dX6_readNumber_29 : decode cX6_readNumber 29 = .ok (.goto 4, 3) := by decide +kernel
theorem dX6_readNumber_32 : decode cX6_readNumber 32 = .ok (.iconst 0, 1) := by decide +kernel
theorem dX6_readNumber_33 : decode cX6_readNumber 33 = .ok (.ireturn, 1) := by decide +kernel
theorem dX6_step_0 : decode cX6_step 0 = .ok (.aload_n 0, 1) := by decide +kernel
theorem dX6_step_1 : decode cX6_step 1 = .ok (.getfield 37, 3) := by decide +kernel
theorem dX6_step_4 : decode cX6_step 4 = .ok (.aload_n 0, 1) := by decide +kernel
theorem dX6_step_5 : decode cX6_step 5 = .ok (.getfield 25, 3) := by decide +kernel
theorem dX6_step_8 : decode cX6_step 8 = .ok (.getfield 109, 3) := by decide +kernel
theorem dX6_step_11 : decode cX6_step 11 = .ok (.if_icmp .ge 33, 3) := by decide +kernel
theorem dX6_step_14 : decode cX6_step 14 = .ok (.aload_n 0, 1) := by decide +kernel
theorem dX6_step_15 : decode cX6_step 15 = .ok (.getfield 25, 3) := by decide +kernel
theorem dX6_step_18 : decode cX6_step 18 = .ok (.getfield 114, 3) := by decide +kernel
theorem dX6_step_21 : decode cX6_step 21 = .ok (.aload_n 0, 1) := by decide +kernel
theorem dX6_step_22 : decode cX6_step 22 = .ok (.getfield 37, 3) := by decide +kernel
theorem dX6_step_25 : decode cX6_step 25 = .ok (.iaload, 1) := by decide +kernel
theorem dX6_step_26 : decode cX6_step 26 = .ok (.bipush 32, 2) := by decide +kernel
theorem dX6_step_28 : decode cX6_step 28 = .ok (.if_icmp .ne 16, 3) := by decide +kernel
theorem dX6_step_31 : decode cX6_step 31 = .ok (.aload_n 0, 1) := by decide +kernel
theorem dX6_step_32 : decode cX6_step 32 = .ok (.dup, 1) := by decide +kernel
theorem dX6_step_33 : decode cX6_step 33 = .ok (.getfield 37, 3) := by decide +kernel
theorem dX6_step_36 : decode cX6_step 36 = .ok (.iconst 1, 1) := by decide +kernel
theorem dX6_step_37 : decode cX6_step 37 = .ok (.iadd, 1) := by decide +kernel
theorem dX6_step_38 : decode cX6_step 38 = .ok (.putfield 37, 3) := by decide +kernel
theorem dX6_step_41 : decode cX6_step 41 = .ok (.goto (-41), 3) := by decide +kernel
theorem dX6_step_44 : decode cX6_step 44 = .ok (.aload_n 0, 1) := by decide +kernel
theorem dX6_step_45 : decode cX6_step 45 = .ok (.aload_n 0, 1) := by decide +kernel
theorem dX6_step_46 : decode cX6_step 46 = .ok (.getfield 37, 3) := by decide +kernel
theorem dX6_step_49 : decode cX6_step 49 = .ok (.putfield 53, 3) := by decide +kernel
theorem dX6_step_52 : decode cX6_step 52 = .ok (.aload_n 0, 1) := by decide +kernel
theorem dX6_step_53 : decode cX6_step 53 = .ok (.getfield 37, 3) := by decide +kernel
theorem dX6_step_56 : decode cX6_step 56 = .ok (.aload_n 0, 1) := by decide +kernel
theorem dX6_step_57 : decode cX6_step 57 = .ok (.getfield 25, 3) := by decide +kernel
theorem dX6_step_60 : decode cX6_step 60 = .ok (.getfield 109, 3) := by decide +kernel
theorem dX6_step_63 : decode cX6_step 63 = .ok (.if_icmp .lt 12, 3) := by decide +kernel
theorem dX6_step_66 : decode cX6_step 66 = .ok (.aload_n 0, 1) := by decide +kernel
theorem dX6_step_67 : decode cX6_step 67 = .ok (.bipush (-3), 2) := by decide +kernel
theorem dX6_step_69 : decode cX6_step 69 = .ok (.putfield 43, 3) := by decide +kernel
theorem dX6_step_72 : decode cX6_step 72 = .ok (.goto 54, 3) := by decide +kernel
theorem dX6_step_75 : decode cX6_step 75 = .ok (.aload_n 0, 1) := by decide +kernel
theorem dX6_step_76 : decode cX6_step 76 = .ok (.getfield 25, 3) := by decide +kernel
theorem dX6_step_79 : decode cX6_step 79 = .ok (.getfield 114, 3) := by decide +kernel
theorem dX6_step_82 : decode cX6_step 82 = .ok (.aload_n 0, 1) := by decide +kernel
theorem dX6_step_83 : decode cX6_step 83 = .ok (.getfield 37, 3) := by decide +kernel
theorem dX6_step_86 : decode cX6_step 86 = .ok (.iaload, 1) := by decide +kernel
theorem dX6_step_87 : decode cX6_step 87 = .ok (.invokestatic 118, 3) := by decide +kernel
theorem dX6_step_90 : decode cX6_step 90 = .ok (.ifCond .eq 10, 3) := by decide +kernel
theorem dX6_step_93 : decode cX6_step 93 = .ok (.aload_n 0, 1) := by decide +kernel
theorem dX6_step_94 : decode cX6_step 94 = .ok (.invokevirtual 121, 3) := by decide +kernel
theorem dX6_step_97 : decode cX6_step 97 = .ok (.goto 29, 3) := by decide +kernel
theorem dX6_step_100 : decode cX6_step 100 = .ok (.aload_n 0, 1) := by decide +kernel
theorem dX6_step_101 : decode cX6_step 101 = .ok (.aload_n 0, 1) := by decide +kernel
theorem dX6_step_102 : decode cX6_step 102 = .ok (.getfield 25, 3) := by decide +kernel
theorem dX6_step_105 : decode cX6_step 105 = .ok (.getfield 114, 3) := by decide +kernel
theorem dX6_step_108 : decode cX6_step 108 = .ok (.aload_n 0, 1) := by decide +kernel
theorem dX6_step_109 : decode cX6_step 109 = .ok (.getfield 37, 3) := by decide +kernel
theorem dX6_step_112 : decode cX6_step 112 = .ok (.iaload, 1) := by decide +kernel
theorem dX6_step_113 : decode cX6_step 113 = .ok (.putfield 43, 3) := by decide +kernel
theorem dX6_step_116 : decode cX6_step 116 = .ok (.aload_n 0, 1) := by decide +kernel
theorem dX6_step_117 : decode cX6_step 117 = .ok (.dup, 1) := by decide +kernel
theorem dX6_step_118 : decode cX6_step 118 = .ok (.getfield 37, 3) := by decide +kernel
theorem dX6_step_121 : decode cX6_step 121 = .ok (.iconst 1, 1) := by decide +kernel
theorem dX6_step_122 : decode cX6_step 122 = .ok (.iadd, 1) := by decide +kernel
theorem dX6_step_123 : decode cX6_step 123 = .ok (.putfield 37, 3) := by decide +kernel
theorem dX6_step_126 : decode cX6_step 126 = .ok (.return_, 1) := by decide +kernel
theorem dX6_stepOverNumber_0 : decode cX6_stepOverNumber 0 = .ok (.aload_n 0, 1) := by decide +kernel
theorem dX6_stepOverNumber_1 : decode cX6_stepOverNumber 1 = .ok (.iconst 0, 1) := by decide +kernel
theorem dX6_stepOverNumber_2 : decode cX6_stepOverNumber 2 = .ok (.putfield 73, 3) := by decide +kernel
theorem dX6_stepOverNumber_5 : decode cX6_stepOverNumber 5 = .ok (.aload_n 0, 1) := by decide +kernel
theorem dX6_stepOverNumber_6 : decode cX6_stepOverNumber 6 = .ok (.getfield 37, 3) := by decide +kernel
theorem dX6_stepOverNumber_9 : decode cX6_stepOverNumber 9 = .ok (.aload_n 0, 1) := by decide +kernel
theorem dX6_stepOverNumber_10 : decode cX6_stepOverNumber 10 = .ok (.getfield 25, 3) := by decide +kernel
theorem dX6_stepOverNumber_13 : decode cX6_stepOverNumber 13 = .ok (.getfield 109, 3) := by decide +kernel
theorem dX6_stepOverNumber_16 : decode cX6_stepOverNumber 16 = .ok (.if_icmp .ge 66, 3) := by decide +kernel
theorem dX6_stepOverNumber_19 : decode cX6_stepOverNumber 19 = .ok (.aload_n 0, 1) := by decide +kernel
theorem dX6_stepOverNumber_20 : decode cX6_stepOverNumber 20 = .ok (.getfield 25, 3) := by decide +kernel
theorem dX6_stepOverNumber_23 : decode cX6_stepOverNumber 23 = .ok (.getfield 114, 3) := by decide +kernel
theorem dX6_stepOverNumber_26 : decode cX6_stepOverNumber 26 = .ok (.aload_n 0, 1) := by decide +kernel
theorem dX6_stepOverNumber_27 : decode cX6_stepOverNumber 27 = .ok (.getfield 37, 3) := by decide +kernel
theorem dX6_stepOverNumber_30 : decode cX6_stepOverNumber 30 = .ok (.iaload, 1) := by decide +kernel
theorem dX6_stepOverNumber_31 : decode cX6_stepOverNumber 31 = .ok (.invokestatic 118, 3) := by decide +kernel
theorem dX6_stepOverNumber_34 : decode cX6_stepOverNumber 34 = .ok (.ifCond .eq 48, 3) := by decide +kernel
theorem dX6_stepOverNumber_37 : decode cX6_stepOverNumber 37 = .ok (.aload_n 0, 1) := by decide +kernel
theorem dX6_stepOverNumber_38 : decode cX6_stepOverNumber 38 = .ok (.aload_n 0, 1) := by decide +kernel
theorem dX6_stepOverNumber_39 : decode cX6_stepOverNumber 39 = .ok (.getfield 73, 3) := by decide +kernel
theorem dX6_stepOverNumber_42 : decode cX6_stepOverNumber 42 = .ok (.bipush 10, 2) := by decide +kernel
theorem dX6_stepOverNumber_44 : decode cX6_stepOverNumber 44 = .ok (.imul, 1) := by decide +kernel
theorem dX6_stepOverNumber_45 : decode cX6_stepOverNumber 45 = .ok (.aload_n 0, 1) := by decide +kernel
theorem dX6_stepOverNumber_46 : decode cX6_stepOverNumber 46 = .ok (.getfield 25, 3) := by decide +kernel
theorem dX6_stepOverNumber_49 : decode cX6_stepOverNumber 49 = .ok (.getfield 114, 3) := by decide +kernel
theorem dX6_stepOverNumber_52 : decode cX6_stepOverNumber 52 = .ok (.aload_n 0, 1) := by decide +kernel
theorem dX6_stepOverNumber_53 : decode cX6_stepOverNumber 53 = .ok (.getfield 37, 3) := by decide +kernel
theorem dX6_stepOverNumber_56 : decode cX6_stepOverNumber 56 = .ok (.iaload, 1) := by decide +kernel
theorem dX6_stepOverNumber_57 : decode cX6_stepOverNumber 57 = .ok (.iadd, 1) := by decide +kernel
theorem dX6_stepOverNumber_58 : decode cX6_stepOverNumber 58 = .ok (.bipush 48, 2) := by decide +kernel
theorem dX6_stepOverNumber_60 : decode cX6_stepOverNumber 60 = .ok (.isub, 1) := by decide +kernel
theorem dX6_stepOverNumber_61 : decode cX6_stepOverNumber 61 = .ok (.bipush 100, 2) := by decide +kernel
theorem dX6_stepOverNumber_63 : decode cX6_stepOverNumber 63 = .ok (.invokestatic 124, 3) := by decide +kernel
theorem dX6_stepOverNumber_66 : decode cX6_stepOverNumber 66 = .ok (.putfield 73, 3) := by decide +kernel
theorem dX6_stepOverNumber_69 : decode cX6_stepOverNumber 69 = .ok (.aload_n 0, 1) := by decide +kernel
theorem dX6_stepOverNumber_70 : decode cX6_stepOverNumber 70 = .ok (.dup, 1) := by decide +kernel
theorem dX6_stepOverNumber_71 : decode cX6_stepOverNumber 71 = .ok (.getfield 37, 3) := by decide +kernel
theorem dX6_stepOverNumber_74 : decode cX6_stepOverNumber 74 = .ok (.iconst 1, 1) := by decide +kernel
theorem dX6_stepOverNumber_75 : decode cX6_stepOverNumber 75 = .ok (.iadd, 1) := by decide +kernel
theorem dX6_stepOverNumber_76 : decode cX6_stepOverNumber 76 = .ok (.putfield 37, 3) := by decide +kernel
theorem dX6_stepOverNumber_79 : decode cX6_stepOverNumber 79 = .ok (.goto (-74), 3) := by decide +kernel
theorem dX6_stepOverNumber_82 : decode cX6_stepOverNumber 82 = .ok (.aload_n 0, 1) := by decide +kernel
theorem dX6_stepOverNumber_83 : decode cX6_stepOverNumber 83 = .ok (.getfield 25, 3) := by decide +kernel
theorem dX6_stepOverNumber_86 : decode cX6_stepOverNumber 86 = .ok (.getfield 114, 3) := by decide +kernel
theorem dX6_stepOverNumber_89 : decode cX6_stepOverNumber 89 = .ok (.aload_n 0, 1) := by decide +kernel
theorem dX6_stepOverNumber_90 : decode cX6_stepOverNumber 90 = .ok (.getfield 53, 3) := by decide +kernel
theorem dX6_stepOverNumber_93 : decode cX6_stepOverNumber 93 = .ok (.iaload, 1) := by decide +kernel
theorem dX6_stepOverNumber_94 : decode cX6_stepOverNumber 94 = .ok (.bipush 48, 2) := by decide +kernel
theorem dX6_stepOverNumber_96 : decode cX6_stepOverNumber 96 = .ok (.if_icmp .ne 20, 3) := by decide +kernel
theorem dX6_stepOverNumber_99 : decode cX6_stepOverNumber 99 = .ok (.aload_n 0, 1) := by decide +kernel
theorem dX6_stepOverNumber_100 : decode cX6_stepOverNumber 100 = .ok (.getfield 37, 3) := by decide +kernel
theorem dX6_stepOverNumber_103 : decode cX6_stepOverNumber 103 = .ok (.aload_n 0, 1) := by decide +kernel
theorem dX6_stepOverNumber_104 : decode cX6_stepOverNumber 104 = .ok (.getfield 53, 3) := by decide +kernel
theorem dX6_stepOverNumber_107 : decode cX6_stepOverNumber 107 = .ok (.iconst 1, 1) := by decide +kernel
theorem dX6_stepOverNumber_108 : decode cX6_stepOverNumber 108 = .ok (.iadd, 1) := by decide +kernel
theorem dX6_stepOverNumber_109 : decode cX6_stepOverNumber 109 = .ok (.if_icmp .le 7, 3) := by decide +kernel
theorem dX6_stepOverNumber_112 : decode cX6_stepOverNumber 112 = .ok (.iconst 1, 1) := by decide +kernel
theorem dX6_stepOverNumber_113 : decode cX6_stepOverNumber 113 = .ok (.goto 4, 3) := by decide +kernel
theorem dX6_stepOverNumber_116 : decode cX6_stepOverNumber 116 = .ok (.iconst 0, 1) := by decide +kernel
theorem dX6_stepOverNumber_117 : decode cX6_stepOverNumber 117 = .ok (.istore_n 1, 1) := by decide +kernel
theorem dX6_stepOverNumber_118 : decode cX6_stepOverNumber 118 = .ok (.aload_n 0, 1) := by decide +kernel
theorem dX6_stepOverNumber_119 : decode cX6_stepOverNumber 119 = .ok (.iload_n 1, 1) := by decide +kernel
theorem dX6_stepOverNumber_120 : decode cX6_stepOverNumber 120 = .ok (.ifCond .ne 12, 3) := by decide +kernel
theorem dX6_stepOverNumber_123 : decode cX6_stepOverNumber 123 = .ok (.aload_n 0, 1) := by decide +kernel
theorem dX6_stepOverNumber_124 : decode cX6_stepOverNumber 124 = .ok (.getfield 73, 3) := by decide +kernel
theorem dX6_stepOverNumber_127 : decode cX6_stepOverNumber 127 = .ok (.bipush 99, 2) := by decide +kernel
theorem dX6_stepOverNumber_129 : decode cX6_stepOverNumber 129 = .ok (.if_icmp .le 8, 3) := by decide +kernel
theorem dX6_stepOverNumber_132 : decode cX6_stepOverNumber 132 = .ok (.bipush (-2), 2) := by decide +kernel
theorem dX6_stepOverNumber_134 : decode cX6_stepOverNumber 134 = .ok (.goto 4, 3) := by decide +kernel
theorem dX6_stepOverNumber_137 : decode cX6_stepOverNumber 137 = .ok (.iconst (-1), 1) := by decide +kernel
theorem dX6_stepOverNumber_138 : decode cX6_stepOverNumber 138 = .ok (.putfield 43, 3) := by decide +kernel
theorem dX6_stepOverNumber_141 : decode cX6_stepOverNumber 141 = .ok (.return_, 1) := by decide +kernel
theorem dX6_isDigit_0 : decode cX6_isDigit 0 = .ok (.iload_n 0, 1) := by decide +kernel
theorem dX6_isDigit_1 : decode cX6_isDigit 1 = .ok (.bipush 48, 2) := by decide +kernel
theorem dX6_isDigit_3 : decode cX6_isDigit 3 = .ok (.if_icmp .lt 13, 3) := by decide +kernel
theorem dX6_isDigit_6 : decode cX6_isDigit 6 = .ok (.iload_n 0, 1) := by decide +kernel
theorem dX6_isDigit_7 : decode cX6_isDigit 7 = .ok (.bipush 57, 2) := by decide +kernel
theorem dX6_isDigit_9 : decode cX6_isDigit 9 = .ok (.if_icmp .gt 7, 3) := by decide +kernel
theorem dX6_isDigit_12 : decode cX6_isDigit 12 = .ok (.iconst 1, 1) := by decide +kernel
theorem dX6_isDigit_13 : decode cX6_isDigit 13 = .ok (.goto 4, 3) := by decide +kernel
theorem dX6_isDigit_16 : decode cX6_isDigit 16 = .ok (.iconst 0, 1) := by decide +kernel
theorem dX6_isDigit_17 : decode cX6_isDigit 17 = .ok (.ireturn, 1) := by decide +kernel
theorem dX7_init_0 : decode cX7_init 0 = .ok (.aload_n 0, 1) := by decide +kernel
theorem dX7_init_1 : decode cX7_init 1 = .ok (.invokespecial 1, 3) := by decide +kernel
theorem dX7_init_4 : decode cX7_init 4 = .ok (.aload_n 0, 1) := by decide +kernel
theorem dX7_init_5 : decode cX7_init 5 = .ok (.invokevirtual 7, 3) := by decide +kernel
theorem dX7_init_8 : decode cX7_init 8 = .ok (.return_, 1) := by decide +kernel
theorem dX7_restart_0 : decode cX7_restart 0 = .ok (.aload_n 0, 1) := by decide +kernel
theorem dX7_restart_1 : decode cX7_restart 1 = .ok (.iconst 2, 1) := by decide +kernel
theorem dX7_restart_2 : decode cX7_restart 2 = .ok (.putfield 12, 3) := by decide +kernel
theorem dX7_restart_5 : decode cX7_restart 5 = .ok (.aload_n 0, 1) := by decide +kernel
theorem dX7_restart_6 : decode cX7_restart 6 = .ok (.iconst 0, 1) := by decide +kernel
theorem dX7_restart_7 : decode cX7_restart 7 = .ok (.putfield 16, 3) := by decide +kernel
theorem dX7_restart_10 : decode cX7_restart 10 = .ok (.aload_n 0, 1) := by decide +kernel
theorem dX7_restart_11 : decode cX7_restart 11 = .ok (.iconst 0, 1) := by decide +kernel
theorem dX7_restart_12 : decode cX7_restart 12 = .ok (.putfield 19, 3) := by decide +kernel
theorem dX7_restart_15 : decode cX7_restart 15 = .ok (.aload_n 0, 1) := by decide +kernel
theorem dX7_restart_16 : decode cX7_restart 16 = .ok (.bipush 99, 2) := by decide +kernel
theorem dX7_restart_18 : decode cX7_restart 18 = .ok (.putfield 22, 3) := by decide +kernel
theorem dX7_restart_21 : decode cX7_restart 21 = .ok (.aload_n 0, 1) := by decide +kernel
theorem dX7_restart_22 : decode cX7_restart 22 = .ok (.bipush 60, 2) := by decide +kernel
theorem dX7_restart_24 : decode cX7_restart 24 = .ok (.putfield 25, 3) := by decide +kernel
theorem dX7_restart_27 : decode cX7_restart 27 = .ok (.aload_n 0, 1) := by decide +kernel
theorem dX7_restart_28 : decode cX7_restart 28 = .ok (.iconst 0, 1) := by decide +kernel
theorem dX7_restart_29 : decode cX7_restart 29 = .ok (.putfield 28, 3) := by decide +kernel
theorem dX7_restart_32 : decode cX7_restart 32 = .ok (.return_, 1) := by decide +kernel
theorem dX7_copyFrom_0 : decode cX7_copyFrom 0 = .ok (.aload_n 0, 1) := by decide +kernel
theorem dX7_copyFrom_1 : decode cX7_copyFrom 1 = .ok (.aload_n 1, 1) := by decide +kernel
theorem dX7_copyFrom_2 : decode cX7_copyFrom 2 = .ok (.getfield 12, 3) := by decide +kernel
theorem dX7_copyFrom_5 : decode cX7_copyFrom 5 = .ok (.putfield 12, 3) := by decide +kernel
theorem dX7_copyFrom_8 : decode cX7_copyFrom 8 = .ok (.aload_n 0, 1) := by decide +kernel
theorem dX7_copyFrom_9 : decode cX7_copyFrom 9 = .ok (.aload_n 1, 1) := by decide +kernel
theorem dX7_copyFrom_10 : decode cX7_copyFrom 10 = .ok (.getfield 16, 3) := by decide +kernel
theorem dX7_copyFrom_13 : decode cX7_copyFrom 13 = .ok (.putfield 16, 3) := by decide +kernel
theorem dX7_copyFrom_16 : decode cX7_copyFrom 16 = .ok (.aload_n 0, 1) := by decide +kernel
theorem dX7_copyFrom_17 : decode cX7_copyFrom 17 = .ok (.aload_n 1, 1) := by decide +kernel
theorem dX7_copyFrom_18 : decode cX7_copyFrom 18 = .ok (.getfield 19, 3) := by decide +kernel
theorem dX7_copyFrom_21 : decode cX7_copyFrom 21 = .ok (.putfield 19, 3) := by decide +kernel
theorem dX7_copyFrom_24 : decode cX7_copyFrom 24 = .ok (.aload_n 0, 1) := by decide +kernel
theorem dX7_copyFrom_25 : decode cX7_copyFrom 25 = .ok (.aload_n 1, 1) := by decide +kernel
theorem dX7_copyFrom_26 : decode cX7_copyFrom 26 = .ok (.getfield 22, 3) := by decide +kernel
theorem dX7_copyFrom_29 : decode cX7_copyFrom 29 = .ok (.putfield 22, 3) := by decide +kernel
theorem dX7_copyFrom_32 : decode cX7_copyFrom 32 = .ok (.aload_n 0, 1) := by decide +kernel
theorem dX7_copyFrom_33 : decode cX7_copyFrom 33 = .ok (.aload_n 1, 1) := by decide +kernel
theorem dX7_copyFrom_34 : decode cX7_copyFrom 34 = .ok (.getfield 25, 3) := by decide +kernel
theorem dX7_copyFrom_37 : decode cX7_copyFrom 37 = .ok (.putfield 25, 3) := by decide +kernel
theorem dX7_copyFrom_40 : decode cX7_copyFrom 40 = .ok (.aload_n 0, 1) := by decide +kernel
theorem dX7_copyFrom_41 : decode cX7_copyFrom 41 = .ok (.aload_n 1, 1) := by decide +kernel
theorem dX7_copyFrom_42 : decode cX7_copyFrom 42 = .ok (.getfield 28, 3) := by decide +kernel
theorem dX7_copyFrom_45 : decode cX7_copyFrom 45 = .ok (.putfield 28, 3) := by decide +kernel
theorem dX7_copyFrom_48 : decode cX7_copyFrom 48 = .ok (.return_, 1) := by decide +kernel
theorem dX8_init_0 : decode cX8_init 0 = .ok (.aload_n 0, 1) := by decide +kernel
theorem dX8_init_1 : decode cX8_init 1 = .ok (.invokespecial 3, 3) := by decide +kernel
theorem dX8_init_4 : decode cX8_init 4 = .ok (.aload_n 0, 1) := by decide +kernel
theorem dX8_init_5 : decode cX8_init 5 = .ok (.bipush 6, 2) := by decide +kernel
theorem dX8_init_7 : decode cX8_init 7 = .ok (.newarray .int, 2) := by decide +kernel
theorem dX8_init_9 : decode cX8_init 9 = .ok (.putfield 9, 3) := by decide +kernel
theorem dX8_init_12 : decode cX8_init 12 = .ok (.aload_n 0, 1) := by decide +kernel
theorem dX8_init_13 : decode cX8_init 13 = .ok (.bipush 6, 2) := by decide +kernel
theorem dX8_init_15 : decode cX8_init 15 = .ok (.newarray .int, 2) := by decide +kernel
theorem dX8_init_17 : decode cX8_init 17 = .ok (.putfield 15, 3) := by decide +kernel
theorem dX8_init_20 : decode cX8_init 20 = .ok (.aload_n 0, 1) := by decide +kernel
theorem dX8_init_21 : decode cX8_init 21 = .ok (.bipush 6, 2) := by decide +kernel
theorem dX8_init_23 : decode cX8_init 23 = .ok (.newarray .int, 2) := by decide +kernel
theorem dX8_init_25 : decode cX8_init 25 = .ok (.putfield 18, 3) := by decide +kernel
theorem dX8_init_28 : decode cX8_init 28 = .ok (.return_, 1) := by decide +kernel
theorem dX8_append_0 : decode cX8_append 0 = .ok (.aload_n 0, 1) := by decide +kernel
theorem dX8_append_1 : decode cX8_append 1 = .ok (.getfield 21, 3) := by decide +kernel
theorem dX8_append_4 : decode cX8_append 4 = .ok (.bipush 6, 2) := by decide +kernel
theorem dX8_append_6 : decode cX8_append 6 = .ok (.if_icmp .lt 5, 3) := by decide +kernel
theorem dX8_append_9 : decode cX8_append 9 = .ok (.iconst 0, 1) := by decide +kernel
theorem dX8_append_10 : decode cX8_append 10 = .ok (.ireturn, 1) := by decide +kernel
theorem dX8_append_11 : decode cX8_append 11 = .ok (.aload_n 0, 1) := by decide +kernel
theorem dX8_append_12 : decode cX8_append 12 = .ok (.getfield 9, 3) := by decide +kernel
theorem dX8_append_15 : decode cX8_append 15 = .ok (.aload_n 0, 1) := by decide +kernel
theorem dX8_append_16 : decode cX8_append 16 = .ok (.getfield 21, 3) := by decide +kernel
theorem dX8_append_19 : decode cX8_append 19 = .ok (.iload_n 1, 1) := by decide +kernel
theorem dX8_append_20 : decode cX8_append 20 = .ok (.iastore, 1) := by decide +kernel
theorem dX8_append_21 : decode cX8_append 21 = .ok (.aload_n 0, 1) := by decide +kernel
theorem dX8_append_22 : decode cX8_append 22 = .ok (.getfield 15, 3) := by decide +kernel
theorem dX8_append_25 : decode cX8_append 25 = .ok (.aload_n 0, 1) := by decide +kernel
theorem dX8_append_26 : decode cX8_append 26 = .ok (.getfield 21, 3) := by decide +kernel
theorem dX8_append_29 : decode cX8_append 29 = .ok (.iload_n 2, 1) := by decide +kernel
theorem dX8_append_30 : decode cX8_append 30 = .ok (.iastore, 1) := by decide +kernel
theorem dX8_append_31 : decode cX8_append 31 = .ok (.aload_n 0, 1) := by decide +kernel
theorem dX8_append_32 : decode cX8_append 32 = .ok (.getfield 18, 3) := by decide +kernel
theorem dX8_append_35 : decode cX8_append 35 = .ok (.aload_n 0, 1) := by decide +kernel
theorem dX8_append_36 : decode cX8_append 36 = .ok (.getfield 21, 3) := by decide +kernel
theorem dX8_append_39 : decode cX8_append 39 = .ok (.iload_n 3, 1) := by decide +kernel
theorem dX8_append_40 : decode cX8_append 40 = .ok (.iastore, 1) := by decide +kernel
theorem dX8_append_41 : decode cX8_append 41 = .ok (.aload_n 0, 1) := by decide +kernel
theorem dX8_append_42 : decode cX8_append 42 = .ok (.dup, 1) := by decide +kernel
theorem dX8_append_43 : decode cX8_append 43 = .ok (.getfield 21, 3) := by decide +kernel
theorem dX8_append_46 : decode cX8_append 46 = .ok (.iconst 1, 1) := by decide +kernel
theorem dX8_append_47 : decode cX8_append 47 = .ok (.iadd, 1) := by decide +kernel
theorem dX8_append_48 : decode cX8_append 48 = .ok (.putfield 21, 3) := by decide +kernel
theorem dX8_append_51 : decode cX8_append 51 = .ok (.iconst 1, 1) := by decide +kernel
theorem dX8_append_52 : decode cX8_append 52 = .ok (.ireturn, 1) := by decide +kernel
theorem dX8_agree_0 : decode cX8_agree 0 = .ok (.iconst 0, 1) := by decide +kernel
theorem dX8_agree_1 : decode cX8_agree 1 = .ok (.istore_n 2, 1) := by decide +kernel
theorem dX8_agree_2 : decode cX8_agree 2 = .ok (.iload_n 2, 1) := by decide +kernel
theorem dX8_agree_3 : decode cX8_agree 3 = .ok (.aload_n 0, 1) := by decide +kernel
theorem dX8_agree_4 : decode cX8_agree 4 = .ok (.getfield 21, 3) := by decide +kernel
theorem dX8_agree_7 : decode cX8_agree 7 = .ok (.if_icmp .ge 48, 3) := by decide +kernel
theorem dX8_agree_10 : decode cX8_agree 10 = .ok (.aload_n 1, 1) := by decide +kernel
theorem dX8_agree_11 : decode cX8_agree 11 = .ok (.aload_n 0, 1) := by decide +kernel
theorem dX8_agree_12 : decode cX8_agree 12 = .ok (.getfield 9, 3) := by decide +kernel
theorem dX8_agree_15 : decode cX8_agree 15 = .ok (.iload_n 2, 1) := by decide +kernel
theorem dX8_agree_16 : decode cX8_agree 16 = .ok (.iaload, 1) := by decide +kernel
theorem dX8_agree_17 : decode cX8_agree 17 = .ok (.aload_n 0, 1) := by decide +kernel
theorem dX8_agree_18 : decode cX8_agree 18 = .ok (.getfield 15, 3) := by decide +kernel
theorem dX8_agree_21 : decode cX8_agree 21 = .ok (.iload_n 2, 1) := by decide +kernel
theorem dX8_agree_22 : decode cX8_agree 22 = .ok (.iaload, 1) := by decide +kernel
theorem dX8_agree_23 : decode cX8_agree 23 = .ok (.invokevirtual 25, 3) := by decide +kernel
theorem dX8_agree_26 : decode cX8_agree 26 = .ok (.istore_n 3, 1) := by decide +kernel
theorem dX8_agree_27 : decode cX8_agree 27 = .ok (.iload_n 3, 1) := by decide +kernel
theorem dX8_agree_28 : decode cX8_agree 28 = .ok (.bipush (-9), 2) := by decide +kernel
theorem dX8_agree_30 : decode cX8_agree 30 = .ok (.if_icmp .ne 7, 3) := by decide +kernel
theorem dX8_agree_33 : decode cX8_agree 33 = .ok (.iconst 0, 1) := by decide +kernel
theorem dX8_agree_34 : decode cX8_agree 34 = .ok (.goto 4, 3) := by decide +kernel
theorem dX8_agree_37 : decode cX8_agree 37 = .ok (.iload_n 3, 1) := by decide +kernel
theorem dX8_agree_38 : decode cX8_agree 38 = .ok (.aload_n 0, 1) := by decide +kernel
theorem dX8_agree_39 : decode cX8_agree 39 = .ok (.getfield 18, 3) := by decide +kernel
theorem dX8_agree_42 : decode cX8_agree 42 = .ok (.iload_n 2, 1) := by decide +kernel
theorem dX8_agree_43 : decode cX8_agree 43 = .ok (.iaload, 1) := by decide +kernel
theorem dX8_agree_44 : decode cX8_agree 44 = .ok (.if_icmp .eq 5, 3) := by decide +kernel
theorem dX8_agree_47 : decode cX8_agree 47 = .ok (.iconst 0, 1) := by decide +kernel
theorem dX8_agree_48 : decode cX8_agree 48 = .ok (.ireturn, 1) := by decide +kernel
theorem dX8_agree_49 : decode cX8_agree 49 = .ok (.iinc 2 1, 3) := by decide +kernel
theorem dX8_agree_52 : decode cX8_agree 52 = .ok (.goto (-50), 3) := by decide +kernel
theorem dX8_agree_55 : decode cX8_agree 55 = .ok (.iconst 1, 1) := by decide +kernel
theorem dX8_agree_56 : decode cX8_agree 56 = .ok (.ireturn, 1) := by decide +kernel
theorem dX9_init_0 : decode cX9_init 0 = .ok (.aload_n 0, 1) := by decide +kernel
theorem dX9_init_1 : decode cX9_init 1 = .ok (.invokespecial 3, 3) := by decide +kernel
theorem dX9_init_4 : decode cX9_init 4 = .ok (.aload_n 0, 1) := by decide +kernel
theorem dX9_init_5 : decode cX9_init 5 = .ok (.bipush 120, 2) := by decide +kernel
theorem dX9_init_7 : decode cX9_init 7 = .ok (.newarray .int, 2) := by decide +kernel
theorem dX9_init_9 : decode cX9_init 9 = .ok (.putfield 9, 3) := by decide +kernel
theorem dX9_init_12 : decode cX9_init 12 = .ok (.return_, 1) := by decide +kernel
theorem dX9_append_0 : decode cX9_append 0 = .ok (.aload_n 0, 1) := by decide +kernel
theorem dX9_append_1 : decode cX9_append 1 = .ok (.getfield 15, 3) := by decide +kernel
theorem dX9_append_4 : decode cX9_append 4 = .ok (.bipush 120, 2) := by decide +kernel
theorem dX9_append_6 : decode cX9_append 6 = .ok (.if_icmp .lt 5, 3) := by decide +kernel
theorem dX9_append_9 : decode cX9_append 9 = .ok (.iconst 0, 1) := by decide +kernel
theorem dX9_append_10 : decode cX9_append 10 = .ok (.ireturn, 1) := by decide +kernel
theorem dX9_append_11 : decode cX9_append 11 = .ok (.aload_n 0, 1) := by decide +kernel
theorem dX9_append_12 : decode cX9_append 12 = .ok (.getfield 9, 3) := by decide +kernel
theorem dX9_append_15 : decode cX9_append 15 = .ok (.aload_n 0, 1) := by decide +kernel
theorem dX9_append_16 : decode cX9_append 16 = .ok (.getfield 15, 3) := by decide +kernel
theorem dX9_append_19 : decode cX9_append 19 = .ok (.iload_n 1, 1) := by decide +kernel
theorem dX9_append_20 : decode cX9_append 20 = .ok (.iastore, 1) := by decide +kernel
theorem dX9_append_21 : decode cX9_append 21 = .ok (.aload_n 0, 1) := by decide +kernel
theorem dX9_append_22 : decode cX9_append 22 = .ok (.dup, 1) := by decide +kernel
theorem dX9_append_23 : decode cX9_append 23 = .ok (.getfield 15, 3) := by decide +kernel
theorem dX9_append_26 : decode cX9_append 26 = .ok (.iconst 1, 1) := by decide +kernel
theorem dX9_append_27 : decode cX9_append 27 = .ok (.iadd, 1) := by decide +kernel
theorem dX9_append_28 : decode cX9_append 28 = .ok (.putfield 15, 3) := by decide +kernel
theorem dX9_append_31 : decode cX9_append 31 = .ok (.iconst 1, 1) := by decide +kernel
theorem dX9_append_32 : decode cX9_append 32 = .ok (.ireturn, 1) := by decide +kernel
theorem dX10_init_0 : decode cX10_init 0 = .ok (.aload_n 0, 1) := by decide +kernel
theorem dX10_init_1 : decode cX10_init 1 = .ok (.invokespecial 3, 3) := by decide +kernel
theorem dX10_init_4 : decode cX10_init 4 = .ok (.aload_n 0, 1) := by decide +kernel
theorem dX10_init_5 : decode cX10_init 5 = .ok (.bipush 6, 2) := by decide +kernel
theorem dX10_init_7 : decode cX10_init 7 = .ok (.newarray .int, 2) := by decide +kernel
theorem dX10_init_9 : decode cX10_init 9 = .ok (.putfield 9, 3) := by decide +kernel
theorem dX10_init_12 : decode cX10_init 12 = .ok (.aload_n 0, 1) := by decide +kernel
theorem dX10_init_13 : decode cX10_init 13 = .ok (.aload_n 1, 1) := by decide +kernel
theorem dX10_init_14 : decode cX10_init 14 = .ok (.putfield 15, 3) := by decide +kernel
theorem dX10_init_17 : decode cX10_init 17 = .ok (.return_, 1) := by decide +kernel
theorem dX10_follow_0 : decode cX10_follow 0 = .ok (.aload_n 0, 1) := by decide +kernel
theorem dX10_follow_1 : decode cX10_follow 1 = .ok (.iconst 0, 1) := by decide +kernel
theorem dX10_follow_2 : decode cX10_follow 2 = .ok (.putfield 19, 3) := by decide +kernel
theorem dX10_follow_5 : decode cX10_follow 5 = .ok (.iconst 0, 1) := by decide +kernel
theorem dX10_follow_6 : decode cX10_follow 6 = .ok (.istore_n 3, 1) := by decide +kernel
theorem dX10_follow_7 : decode cX10_follow 7 = .ok (.iload_n 1, 1) := by decide +kernel
theorem dX10_follow_8 : decode cX10_follow 8 = .ok (.istore 4, 2) := by decide +kernel
theorem dX10_follow_10 : decode cX10_follow 10 = .ok (.iconst 0, 1) := by decide +kernel
theorem dX10_follow_11 : decode cX10_follow 11 = .ok (.istore 5, 2) := by decide +kernel
theorem dX10_follow_13 : decode cX10_follow 13 = .ok (.iload 5, 2) := by decide +kernel
theorem dX10_follow_15 : decode cX10_follow 15 = .ok (.bipush 6, 2) := by decide +kernel
theorem dX10_follow_17 : decode cX10_follow 17 = .ok (.if_icmp .ge 101, 3) := by decide +kernel
theorem dX10_follow_20 : decode cX10_follow 20 = .ok (.aload_n 0, 1) := by decide +kernel
theorem dX10_follow_21 : decode cX10_follow 21 = .ok (.getfield 9, 3) := by decide +kernel
theorem dX10_follow_24 : decode cX10_follow 24 = .ok (.iload 5, 2) := by decide +kernel
theorem dX10_follow_26 : decode cX10_follow 26 = .ok (.iload 4, 2) := by decide +kernel
theorem dX10_follow_28 : decode cX10_follow 28 = .ok (.iastore, 1) := by decide +kernel
theorem dX10_follow_29 : decode cX10_follow 29 = .ok (.aload_n 0, 1) := by decide +kernel
theorem dX10_follow_30 : decode cX10_follow 30 = .ok (.iload 5, 2) := by decide +kernel
theorem dX10_follow_32 : decode cX10_follow 32 = .ok (.iconst 1, 1) := by decide +kernel
theorem dX10_follow_33 : decode cX10_follow 33 = .ok (.iadd, 1) := by decide +kernel
theorem dX10_follow_34 : decode cX10_follow 34 = .ok (.putfield 23, 3) := by decide +kernel
theorem dX10_follow_37 : decode cX10_follow 37 = .ok (.iload_n 3, 1) := by decide +kernel
theorem dX10_follow_38 : decode cX10_follow 38 = .ok (.iconst 1, 1) := by decide +kernel
theorem dX10_follow_39 : decode cX10_follow 39 = .ok (.iload 4, 2) := by decide +kernel
theorem dX10_follow_41 : decode cX10_follow 41 = .ok (.ishl, 1) := by decide +kernel
theorem dX10_follow_42 : decode cX10_follow 42 = .ok (.ior, 1) := by decide +kernel
theorem dX10_follow_43 : decode cX10_follow 43 = .ok (.istore_n 3, 1) := by decide +kernel
theorem dX10_follow_44 : decode cX10_follow 44 = .ok (.iload 4, 2) := by decide +kernel
theorem dX10_follow_46 : decode cX10_follow 46 = .ok (.iload_n 2, 1) := by decide +kernel
theorem dX10_follow_47 : decode cX10_follow 47 = .ok (.if_icmp .ne 5, 3) := by decide +kernel
theorem dX10_follow_50 : decode cX10_follow 50 = .ok (.iconst 1, 1) := by decide +kernel
theorem dX10_follow_51 : decode cX10_follow 51 = .ok (.ireturn, 1) := by decide +kernel
theorem dX10_follow_52 : decode cX10_follow 52 = .ok (.aload_n 0, 1) := by decide +kernel
theorem dX10_follow_53 : decode cX10_follow 53 = .ok (.getfield 15, 3) := by decide +kernel
theorem dX10_follow_56 : decode cX10_follow 56 = .ok (.iload 4, 2) := by decide +kernel
theorem dX10_follow_58 : decode cX10_follow 58 = .ok (.iload_n 2, 1) := by decide +kernel
theorem dX10_follow_59 : decode cX10_follow 59 = .ok (.invokevirtual 26, 3) := by decide +kernel
theorem dX10_follow_62 : decode cX10_follow 62 = .ok (.istore 6, 2) := by decide +kernel
theorem dX10_follow_64 : decode cX10_follow 64 = .ok (.iload 6, 2) := by decide +kernel
theorem dX10_follow_66 : decode cX10_follow 66 = .ok (.bipush (-9), 2) := by decide +kernel
theorem dX10_follow_68 : decode cX10_follow 68 = .ok (.if_icmp .eq 12, 3) := by decide +kernel
theorem dX10_follow_71 : decode cX10_follow 71 = .ok (.iload_n 3, 1) := by decide +kernel
theorem dX10_follow_72 : decode cX10_follow 72 = .ok (.iconst 1, 1) := by decide +kernel
theorem dX10_follow_73 : decode cX10_follow 73 = .ok (.iload 6, 2) := by decide +kernel
theorem dX10_follow_75 : decode cX10_follow 75 = .ok (.ishl, 1) := by decide +kernel
theorem dX10_follow_76 : decode cX10_follow 76 = .ok (.iand, 1) := by decide +kernel
theorem dX10_follow_77 : decode cX10_follow 77 = .ok (.ifCond .eq 5, 3) := by decide +kernel
theorem dX10_follow_80 : decode cX10_follow 80 = .ok (.iconst 0, 1) := by decide +kernel
theorem dX10_follow_81 : decode cX10_follow 81 = .ok (.ireturn, 1) := by decide +kernel
theorem dX10_follow_82 : decode cX10_follow 82 = .ok (.aload_n 0, 1) := by decide +kernel
theorem dX10_follow_83 : decode cX10_follow 83 = .ok (.dup, 1) := by decide +kernel
theorem dX10_follow_84 : decode cX10_follow 84 = .ok (.getfield 19, 3) := by decide +kernel
theorem dX10_follow_87 : decode cX10_follow 87 = .ok (.aload_n 0, 1) := by decide +kernel
theorem dX10_follow_88 : decode cX10_follow 88 = .ok (.getfield 15, 3) := by decide +kernel
theorem dX10_follow_91 : decode cX10_follow 91 = .ok (.getfield 32, 3) := by decide +kernel
theorem dX10_follow_94 : decode cX10_follow 94 = .ok (.getfield 36, 3) := by decide +kernel
theorem dX10_follow_97 : decode cX10_follow 97 = .ok (.iload 4, 2) := by decide +kernel
theorem dX10_follow_99 : decode cX10_follow 99 = .ok (.iload 6, 2) := by decide +kernel
theorem dX10_follow_101 : decode cX10_follow 101 = .ok (.invokevirtual 42, 3) := by decide +kernel
theorem dX10_follow_104 : decode cX10_follow 104 = .ok (.iadd, 1) := by decide +kernel
theorem dX10_follow_105 : decode cX10_follow 105 = .ok (.putfield 19, 3) := by decide +kernel
theorem dX10_follow_108 : decode cX10_follow 108 = .ok (.iload 6, 2) := by decide +kernel
theorem dX10_follow_110 : decode cX10_follow 110 = .ok (.istore 4, 2) := by decide +kernel
theorem dX10_follow_112 : decode cX10_follow 112 = .ok (.iinc 5 1, 3) := by decide +kernel
theorem dX10_follow_115 : decode cX10_follow 115 = .ok (.goto (-102), 3) := by decide +kernel
theorem dX10_follow_118 : decode cX10_follow 118 = .ok (.iconst 0, 1) := by decide +kernel
theorem dX10_follow_119 : decode cX10_follow 119 = .ok (.ireturn, 1) := by decide +kernel
end
section
theorem dX11_init_0 : decode cX11_init 0 = .ok (.aload_n 0, 1) := by decide +kernel
theorem dX11_init_1 : decode cX11_init 1 = .ok (.invokespecial 3, 3) := by decide +kernel
theorem dX11_init_4 : decode cX11_init 4 = .ok (.aload_n 0, 1) := by decide +kernel
theorem dX11_init_5 : decode cX11_init 5 = .ok (.new 9, 3) := by decide +kernel
theorem dX11_init_8 : decode cX11_init 8 = .ok (.dup, 1) := by decide +kernel
theorem dX11_init_9 : decode cX11_init 9 = .ok (.invokespecial 11, 3) := by decide +kernel
theorem dX11_init_12 : decode cX11_init 12 = .ok (.putfield 12, 3) := by decide +kernel
theorem dX11_init_15 : decode cX11_init 15 = .ok (.aload_n 0, 1) := by decide +kernel
theorem dX11_init_16 : decode cX11_init 16 = .ok (.new 16, 3) := by decide +kernel
theorem dX11_init_19 : decode cX11_init 19 = .ok (.dup, 1) := by decide +kernel
theorem dX11_init_20 : decode cX11_init 20 = .ok (.aload_n 0, 1) := by decide +kernel
theorem dX11_init_21 : decode cX11_init 21 = .ok (.getfield 12, 3) := by decide +kernel
theorem dX11_init_24 : decode cX11_init 24 = .ok (.invokespecial 18, 3) := by decide +kernel
theorem dX11_init_27 : decode cX11_init 27 = .ok (.putfield 21, 3) := by decide +kernel
theorem dX11_init_30 : decode cX11_init 30 = .ok (.aload_n 0, 1) := by decide +kernel
theorem dX11_init_31 : decode cX11_init 31 = .ok (.new 25, 3) := by decide +kernel
theorem dX11_init_34 : decode cX11_init 34 = .ok (.dup, 1) := by decide +kernel
theorem dX11_init_35 : decode cX11_init 35 = .ok (.invokespecial 27, 3) := by decide +kernel
theorem dX11_init_38 : decode cX11_init 38 = .ok (.putfield 28, 3) := by decide +kernel
theorem dX11_init_41 : decode cX11_init 41 = .ok (.aload_n 0, 1) := by decide +kernel
theorem dX11_init_42 : decode cX11_init 42 = .ok (.new 32, 3) := by decide +kernel
theorem dX11_init_45 : decode cX11_init 45 = .ok (.dup, 1) := by decide +kernel
theorem dX11_init_46 : decode cX11_init 46 = .ok (.invokespecial 34, 3) := by decide +kernel
theorem dX11_init_49 : decode cX11_init 49 = .ok (.putfield 35, 3) := by decide +kernel
theorem dX11_init_52 : decode cX11_init 52 = .ok (.aload_n 0, 1) := by decide +kernel
theorem dX11_init_53 : decode cX11_init 53 = .ok (.new 39, 3) := by decide +kernel
theorem dX11_init_56 : decode cX11_init 56 = .ok (.dup, 1) := by decide +kernel
theorem dX11_init_57 : decode cX11_init 57 = .ok (.aload_n 0, 1) := by decide +kernel
theorem dX11_init_58 : decode cX11_init 58 = .ok (.getfield 28, 3) := by decide +kernel
theorem dX11_init_61 : decode cX11_init 61 = .ok (.aload_n 0, 1) := by decide +kernel
theorem dX11_init_62 : decode cX11_init 62 = .ok (.getfield 35, 3) := by decide +kernel
theorem dX11_init_65 : decode cX11_init 65 = .ok (.invokespecial 41, 3) := by decide +kernel
theorem dX11_init_68 : decode cX11_init 68 = .ok (.putfield 44, 3) := by decide +kernel
theorem dX11_init_71 : decode cX11_init 71 = .ok (.aload_n 0, 1) := by decide +kernel
theorem dX11_init_72 : decode cX11_init 72 = .ok (.new 48, 3) := by decide +kernel
theorem dX11_init_75 : decode cX11_init 75 = .ok (.dup, 1) := by decide +kernel
theorem dX11_init_76 : decode cX11_init 76 = .ok (.invokespecial 50, 3) := by decide +kernel
theorem dX11_init_79 : decode cX11_init 79 = .ok (.putfield 51, 3) := by decide +kernel
theorem dX11_init_82 : decode cX11_init 82 = .ok (.aload_n 0, 1) := by decide +kernel
theorem dX11_init_83 : decode cX11_init 83 = .ok (.new 55, 3) := by decide +kernel
theorem dX11_init_86 : decode cX11_init 86 = .ok (.dup, 1) := by decide +kernel
theorem dX11_init_87 : decode cX11_init 87 = .ok (.invokespecial 57, 3) := by decide +kernel
theorem dX11_init_90 : decode cX11_init 90 = .ok (.putfield 58, 3) := by decide +kernel
theorem dX11_init_93 : decode cX11_init 93 = .ok (.aload_n 0, 1) := by decide +kernel
theorem dX11_init_94 : decode cX11_init 94 = .ok (.new 62, 3) := by decide +kernel
theorem dX11_init_97 : decode cX11_init 97 = .ok (.dup, 1) := by decide +kernel
theorem dX11_init_98 : decode cX11_init 98 = .ok (.aload_n 0, 1) := by decide +kernel
theorem dX11_init_99 : decode cX11_init 99 = .ok (.getfield 44, 3) := by decide +kernel
theorem dX11_init_102 : decode cX11_init 102 = .ok (.invokespecial 64, 3) := by decide +kernel
theorem dX11_init_105 : decode cX11_init 105 = .ok (.putfield 67, 3) := by decide +kernel
theorem dX11_init_108 : decode cX11_init 108 = .ok (.aload_n 0, 1) := by decide +kernel
theorem dX11_init_109 : decode cX11_init 109 = .ok (.new 71, 3) := by decide +kernel
theorem dX11_init_112 : decode cX11_init 112 = .ok (.dup, 1) := by decide +kernel
theorem dX11_init_113 : decode cX11_init 113 = .ok (.invokespecial 73, 3) := by decide +kernel
theorem dX11_init_116 : decode cX11_init 116 = .ok (.putfield 74, 3) := by decide +kernel
theorem dX11_init_119 : decode cX11_init 119 = .ok (.aload_n 0, 1) := by decide +kernel
theorem dX11_init_120 : decode cX11_init 120 = .ok (.new 78, 3) := by decide +kernel
theorem dX11_init_123 : decode cX11_init 123 = .ok (.dup, 1) := by decide +kernel
theorem dX11_init_124 : decode cX11_init 124 = .ok (.invokespecial 80, 3) := by decide +kernel
theorem dX11_init_127 : decode cX11_init 127 = .ok (.putfield 81, 3) := by decide +kernel
theorem dX11_init_130 : decode cX11_init 130 = .ok (.return_, 1) := by decide +kernel
theorem dX11_type_0 : decode cX11_type 0 = .ok (.iload_n 1, 1) := by decide +kernel
theorem dX11_type_1 : decode cX11_type 1 = .ok (.ifCond .lt 10, 3) := by decide +kernel
theorem dX11_type_4 : decode cX11_type 4 = .ok (.iload_n 1, 1) := by decide +kernel
theorem dX11_type_5 : decode cX11_type 5 = .ok (.sipush 255, 3) := by decide +kernel
theorem dX11_type_8 : decode cX11_type 8 = .ok (.if_icmp .le 5, 3) := by decide +kernel
theorem dX11_type_11 : decode cX11_type 11 = .ok (.iconst (-1), 1) := by decide +kernel
theorem dX11_type_12 : decode cX11_type 12 = .ok (.ireturn, 1) := by decide +kernel
theorem dX11_type_13 : decode cX11_type 13 = .ok (.aload_n 0, 1) := by decide +kernel
theorem dX11_type_14 : decode cX11_type 14 = .ok (.getfield 12, 3) := by decide +kernel
theorem dX11_type_17 : decode cX11_type 17 = .ok (.iload_n 1, 1) := by decide +kernel
theorem dX11_type_18 : decode cX11_type 18 = .ok (.invokevirtual 85, 3) := by decide +kernel
theorem dX11_type_21 : decode cX11_type 21 = .ok (.ifCond .eq 13, 3) := by decide +kernel
theorem dX11_type_24 : decode cX11_type 24 = .ok (.aload_n 0, 1) := by decide +kernel
theorem dX11_type_25 : decode cX11_type 25 = .ok (.getfield 12, 3) := by decide +kernel
theorem dX11_type_28 : decode cX11_type 28 = .ok (.getfield 89, 3) := by decide +kernel
theorem dX11_type_31 : decode cX11_type 31 = .ok (.goto 5, 3) := by decide +kernel
theorem dX11_type_34 : decode cX11_type 34 = .ok (.bipush (-3), 2) := by decide +kernel
theorem dX11_type_36 : decode cX11_type 36 = .ok (.ireturn, 1) := by decide +kernel
theorem dX11_clear_0 : decode cX11_clear 0 = .ok (.aload_n 0, 1) := by decide +kernel
theorem dX11_clear_1 : decode cX11_clear 1 = .ok (.getfield 12, 3) := by decide +kernel
theorem dX11_clear_4 : decode cX11_clear 4 = .ok (.getfield 89, 3) := by decide +kernel
theorem dX11_clear_7 : decode cX11_clear 7 = .ok (.istore_n 1, 1) := by decide +kernel
theorem dX11_clear_8 : decode cX11_clear 8 = .ok (.aload_n 0, 1) := by decide +kernel
theorem dX11_clear_9 : decode cX11_clear 9 = .ok (.getfield 12, 3) := by decide +kernel
theorem dX11_clear_12 : decode cX11_clear 12 = .ok (.iconst 0, 1) := by decide +kernel
theorem dX11_clear_13 : decode cX11_clear 13 = .ok (.putfield 89, 3) := by decide +kernel
theorem dX11_clear_16 : decode cX11_clear 16 = .ok (.iload_n 1, 1) := by decide +kernel
theorem dX11_clear_17 : decode cX11_clear 17 = .ok (.ireturn, 1) := by decide +kernel
theorem dX11_net_0 : decode cX11_net 0 = .ok (.aload_n 0, 1) := by decide +kernel
theorem dX11_net_1 : decode cX11_net 1 = .ok (.getfield 21, 3) := by decide +kernel
theorem dX11_net_4 : decode cX11_net 4 = .ok (.invokevirtual 93, 3) := by decide +kernel
theorem dX11_net_7 : decode cX11_net 7 = .ok (.istore_n 1, 1) := by decide +kernel
theorem dX11_net_8 : decode cX11_net 8 = .ok (.iload_n 1, 1) := by decide +kernel
theorem dX11_net_9 : decode cX11_net 9 = .ok (.iconst (-1), 1) := by decide +kernel
theorem dX11_net_10 : decode cX11_net 10 = .ok (.if_icmp .eq 8, 3) := by decide +kernel
theorem dX11_net_13 : decode cX11_net 13 = .ok (.bipush (-10), 2) := by decide +kernel
theorem dX11_net_15 : decode cX11_net 15 = .ok (.iload_n 1, 1) := by decide +kernel
theorem dX11_net_16 : decode cX11_net 16 = .ok (.isub, 1) := by decide +kernel
theorem dX11_net_17 : decode cX11_net 17 = .ok (.ireturn, 1) := by decide +kernel
theorem dX11_net_18 : decode cX11_net 18 = .ok (.aload_n 0, 1) := by decide +kernel
theorem dX11_net_19 : decode cX11_net 19 = .ok (.getfield 28, 3) := by decide +kernel
theorem dX11_net_22 : decode cX11_net 22 = .ok (.aload_n 0, 1) := by decide +kernel
theorem dX11_net_23 : decode cX11_net 23 = .ok (.getfield 21, 3) := by decide +kernel
theorem dX11_net_26 : decode cX11_net 26 = .ok (.getfield 97, 3) := by decide +kernel
theorem dX11_net_29 : decode cX11_net 29 = .ok (.invokevirtual 98, 3) := by decide +kernel
theorem dX11_net_32 : decode cX11_net 32 = .ok (.aload_n 0, 1) := by decide +kernel
theorem dX11_net_33 : decode cX11_net 33 = .ok (.getfield 35, 3) := by decide +kernel
theorem dX11_net_36 : decode cX11_net 36 = .ok (.aload_n 0, 1) := by decide +kernel
theorem dX11_net_37 : decode cX11_net 37 = .ok (.getfield 21, 3) := by decide +kernel
theorem dX11_net_40 : decode cX11_net 40 = .ok (.getfield 102, 3) := by decide +kernel
theorem dX11_net_43 : decode cX11_net 43 = .ok (.invokevirtual 106, 3) := by decide +kernel
theorem dX11_net_46 : decode cX11_net 46 = .ok (.aload_n 0, 1) := by decide +kernel
theorem dX11_net_47 : decode cX11_net 47 = .ok (.getfield 51, 3) := by decide +kernel
theorem dX11_net_50 : decode cX11_net 50 = .ok (.iconst 0, 1) := by decide +kernel
theorem dX11_net_51 : decode cX11_net 51 = .ok (.putfield 110, 3) := by decide +kernel
theorem dX11_net_54 : decode cX11_net 54 = .ok (.aload_n 0, 1) := by decide +kernel
theorem dX11_net_55 : decode cX11_net 55 = .ok (.getfield 58, 3) := by decide +kernel
theorem dX11_net_58 : decode cX11_net 58 = .ok (.invokevirtual 111, 3) := by decide +kernel
theorem dX11_net_61 : decode cX11_net 61 = .ok (.aload_n 0, 1) := by decide +kernel
theorem dX11_net_62 : decode cX11_net 62 = .ok (.getfield 81, 3) := by decide +kernel
theorem dX11_net_65 : decode cX11_net 65 = .ok (.iconst 0, 1) := by decide +kernel
theorem dX11_net_66 : decode cX11_net 66 = .ok (.putfield 114, 3) := by decide +kernel
theorem dX11_net_69 : decode cX11_net 69 = .ok (.aload_n 0, 1) := by decide +kernel
theorem dX11_net_70 : decode cX11_net 70 = .ok (.getfield 12, 3) := by decide +kernel
theorem dX11_net_73 : decode cX11_net 73 = .ok (.iconst 0, 1) := by decide +kernel
theorem dX11_net_74 : decode cX11_net 74 = .ok (.putfield 89, 3) := by decide +kernel
theorem dX11_net_77 : decode cX11_net 77 = .ok (.aload_n 0, 1) := by decide +kernel
theorem dX11_net_78 : decode cX11_net 78 = .ok (.getfield 21, 3) := by decide +kernel
theorem dX11_net_81 : decode cX11_net 81 = .ok (.getfield 115, 3) := by decide +kernel
theorem dX11_net_84 : decode cX11_net 84 = .ok (.ireturn, 1) := by decide +kernel
theorem dX11_link_0 : decode cX11_link 0 = .ok (.aload_n 0, 1) := by decide +kernel
theorem dX11_link_1 : decode cX11_link 1 = .ok (.getfield 35, 3) := by decide +kernel
theorem dX11_link_4 : decode cX11_link 4 = .ok (.getfield 118, 3) := by decide +kernel
theorem dX11_link_7 : decode cX11_link 7 = .ok (.iload_n 1, 1) := by decide +kernel
theorem dX11_link_8 : decode cX11_link 8 = .ok (.invokevirtual 119, 3) := by decide +kernel
theorem dX11_link_11 : decode cX11_link 11 = .ok (.istore_n 3, 1) := by decide +kernel
theorem dX11_link_12 : decode cX11_link 12 = .ok (.iload_n 3, 1) := by decide +kernel
theorem dX11_link_13 : decode cX11_link 13 = .ok (.iconst (-1), 1) := by decide +kernel
theorem dX11_link_14 : decode cX11_link 14 = .ok (.if_icmp .ne 5, 3) := by decide +kernel
theorem dX11_link_17 : decode cX11_link 17 = .ok (.iconst (-1), 1) := by decide +kernel
theorem dX11_link_18 : decode cX11_link 18 = .ok (.ireturn, 1) := by decide +kernel
theorem dX11_link_19 : decode cX11_link 19 = .ok (.iload_n 2, 1) := by decide +kernel
theorem dX11_link_20 : decode cX11_link 20 = .ok (.tableswitch 51 0 2 #[28, 33, 38], 28) := by decide +kernel
theorem dX11_link_48 : decode cX11_link 48 = .ok (.iload_n 3, 1) := by decide +kernel
theorem dX11_link_49 : decode cX11_link 49 = .ok (.bipush 6, 2) := by decide +kernel
theorem dX11_link_51 : decode cX11_link 51 = .ok (.idiv, 1) := by decide +kernel
theorem dX11_link_52 : decode cX11_link 52 = .ok (.ireturn, 1) := by decide +kernel
theorem dX11_link_53 : decode cX11_link 53 = .ok (.iload_n 3, 1) := by decide +kernel
theorem dX11_link_54 : decode cX11_link 54 = .ok (.bipush 6, 2) := by decide +kernel
theorem dX11_link_56 : decode cX11_link 56 = .ok (.irem, 1) := by decide +kernel
theorem dX11_link_57 : decode cX11_link 57 = .ok (.ireturn, 1) := by decide +kernel
theorem dX11_link_58 : decode cX11_link 58 = .ok (.aload_n 0, 1) := by decide +kernel
theorem dX11_link_59 : decode cX11_link 59 = .ok (.getfield 35, 3) := by decide +kernel
theorem dX11_link_62 : decode cX11_link 62 = .ok (.getfield 118, 3) := by decide +kernel
theorem dX11_link_65 : decode cX11_link 65 = .ok (.getfield 125, 3) := by decide +kernel
theorem dX11_link_68 : decode cX11_link 68 = .ok (.iload_n 3, 1) := by decide +kernel
theorem dX11_link_69 : decode cX11_link 69 = .ok (.iaload, 1) := by decide +kernel
theorem dX11_link_70 : decode cX11_link 70 = .ok (.ireturn, 1) := by decide +kernel
theorem dX11_link_71 : decode cX11_link 71 = .ok (.iconst (-1), 1) := by decide +kernel
theorem dX11_link_72 : decode cX11_link 72 = .ok (.ireturn, 1) := by decide +kernel
theorem dX11_sends_0 : decode cX11_sends 0 = .ok (.aload_n 0, 1) := by decide +kernel
theorem dX11_sends_1 : decode cX11_sends 1 = .ok (.iload_n 1, 1) := by decide +kernel
theorem dX11_sends_2 : decode cX11_sends 2 = .ok (.iload_n 2, 1) := by decide +kernel
theorem dX11_sends_3 : decode cX11_sends 3 = .ok (.invokevirtual 129, 3) := by decide +kernel
theorem dX11_sends_6 : decode cX11_sends 6 = .ok (.ifCond .ne 5, 3) := by decide +kernel
theorem dX11_sends_9 : decode cX11_sends 9 = .ok (.iconst (-1), 1) := by decide +kernel
theorem dX11_sends_10 : decode cX11_sends 10 = .ok (.ireturn, 1) := by decide +kernel
theorem dX11_sends_11 : decode cX11_sends 11 = .ok (.aload_n 0, 1) := by decide +kernel
theorem dX11_sends_12 : decode cX11_sends 12 = .ok (.getfield 51, 3) := by decide +kernel
theorem dX11_sends_15 : decode cX11_sends 15 = .ok (.aload_n 0, 1) := by decide +kernel
theorem dX11_sends_16 : decode cX11_sends 16 = .ok (.getfield 35, 3) := by decide +kernel
theorem dX11_sends_19 : decode cX11_sends 19 = .ok (.invokevirtual 133, 3) := by decide +kernel
theorem dX11_sends_22 : decode cX11_sends 22 = .ok (.aload_n 0, 1) := by decide +kernel
theorem dX11_sends_23 : decode cX11_sends 23 = .ok (.getfield 44, 3) := by decide +kernel
theorem dX11_sends_26 : decode cX11_sends 26 = .ok (.iload_n 1, 1) := by decide +kernel
theorem dX11_sends_27 : decode cX11_sends 27 = .ok (.iload_n 2, 1) := by decide +kernel
theorem dX11_sends_28 : decode cX11_sends 28 = .ok (.invokevirtual 137, 3) := by decide +kernel
theorem dX11_sends_31 : decode cX11_sends 31 = .ok (.ireturn, 1) := by decide +kernel
theorem dX11_rounds_0 : decode cX11_rounds 0 = .ok (.iload_n 1, 1) := by decide +kernel
theorem dX11_rounds_1 : decode cX11_rounds 1 = .ok (.iconst 1, 1) := by decide +kernel
theorem dX11_rounds_2 : decode cX11_rounds 2 = .ok (.if_icmp .lt 8, 3) := by decide +kernel
theorem dX11_rounds_5 : decode cX11_rounds 5 = .ok (.iload_n 1, 1) := by decide +kernel
theorem dX11_rounds_6 : decode cX11_rounds 6 = .ok (.iconst 4, 1) := by decide +kernel
theorem dX11_rounds_7 : decode cX11_rounds 7 = .ok (.if_icmp .le 5, 3) := by decide +kernel
theorem dX11_rounds_10 : decode cX11_rounds 10 = .ok (.iconst (-1), 1) := by decide +kernel
theorem dX11_rounds_11 : decode cX11_rounds 11 = .ok (.ireturn, 1) := by decide +kernel
theorem dX11_rounds_12 : decode cX11_rounds 12 = .ok (.aload_n 0, 1) := by decide +kernel
theorem dX11_rounds_13 : decode cX11_rounds 13 = .ok (.getfield 51, 3) := by decide +kernel
theorem dX11_rounds_16 : decode cX11_rounds 16 = .ok (.aload_n 0, 1) := by decide +kernel
theorem dX11_rounds_17 : decode cX11_rounds 17 = .ok (.getfield 35, 3) := by decide +kernel
theorem dX11_rounds_20 : decode cX11_rounds 20 = .ok (.invokevirtual 133, 3) := by decide +kernel
theorem dX11_rounds_23 : decode cX11_rounds 23 = .ok (.iconst 0, 1) := by decide +kernel
theorem dX11_rounds_24 : decode cX11_rounds 24 = .ok (.istore_n 2, 1) := by decide +kernel
theorem dX11_rounds_25 : decode cX11_rounds 25 = .ok (.iconst 0, 1) := by decide +kernel
theorem dX11_rounds_26 : decode cX11_rounds 26 = .ok (.istore_n 3, 1) := by decide +kernel
theorem dX11_rounds_27 : decode cX11_rounds 27 = .ok (.iload_n 3, 1) := by decide +kernel
theorem dX11_rounds_28 : decode cX11_rounds 28 = .ok (.iload_n 1, 1) := by decide +kernel
theorem dX11_rounds_29 : decode cX11_rounds 29 = .ok (.if_icmp .ge 19, 3) := by decide +kernel
theorem dX11_rounds_32 : decode cX11_rounds 32 = .ok (.iload_n 2, 1) := by decide +kernel
theorem dX11_rounds_33 : decode cX11_rounds 33 = .ok (.aload_n 0, 1) := by decide +kernel
theorem dX11_rounds_34 : decode cX11_rounds 34 = .ok (.getfield 44, 3) := by decide +kernel
theorem dX11_rounds_37 : decode cX11_rounds 37 = .ok (.invokevirtual 141, 3) := by decide +kernel
theorem dX11_rounds_40 : decode cX11_rounds 40 = .ok (.iadd, 1) := by decide +kernel
theorem dX11_rounds_41 : decode cX11_rounds 41 = .ok (.istore_n 2, 1) := by decide +kernel
theorem dX11_rounds_42 : decode cX11_rounds 42 = .ok (.iinc 3 1, 3) := by decide +kernel
theorem dX11_rounds_45 : decode cX11_rounds 45 = .ok (.goto (-18), 3) := by decide +kernel
theorem dX11_rounds_48 : decode cX11_rounds 48 = .ok (.iload_n 2, 1) := by decide +kernel
theorem dX11_rounds_49 : decode cX11_rounds 49 = .ok (.ireturn, 1) := by decide +kernel
theorem dX11_cuts_0 : decode cX11_cuts 0 = .ok (.aload_n 0, 1) := by decide +kernel
theorem dX11_cuts_1 : decode cX11_cuts 1 = .ok (.getfield 35, 3) := by decide +kernel
theorem dX11_cuts_4 : decode cX11_cuts 4 = .ok (.getfield 118, 3) := by decide +kernel
theorem dX11_cuts_7 : decode cX11_cuts 7 = .ok (.iload_n 1, 1) := by decide +kernel
theorem dX11_cuts_8 : decode cX11_cuts 8 = .ok (.invokevirtual 119, 3) := by decide +kernel
theorem dX11_cuts_11 : decode cX11_cuts 11 = .ok (.istore_n 2, 1) := by decide +kernel
theorem dX11_cuts_12 : decode cX11_cuts 12 = .ok (.iload_n 2, 1) := by decide +kernel
theorem dX11_cuts_13 : decode cX11_cuts 13 = .ok (.iconst (-1), 1) := by decide +kernel
theorem dX11_cuts_14 : decode cX11_cuts 14 = .ok (.if_icmp .ne 5, 3) := by decide +kernel
theorem dX11_cuts_17 : decode cX11_cuts 17 = .ok (.iconst (-1), 1) := by decide +kernel
theorem dX11_cuts_18 : decode cX11_cuts 18 = .ok (.ireturn, 1) := by decide +kernel
theorem dX11_cuts_19 : decode cX11_cuts 19 = .ok (.aload_n 0, 1) := by decide +kernel
theorem dX11_cuts_20 : decode cX11_cuts 20 = .ok (.getfield 51, 3) := by decide +kernel
theorem dX11_cuts_23 : decode cX11_cuts 23 = .ok (.aload_n 0, 1) := by decide +kernel
theorem dX11_cuts_24 : decode cX11_cuts 24 = .ok (.getfield 35, 3) := by decide +kernel
theorem dX11_cuts_27 : decode cX11_cuts 27 = .ok (.invokevirtual 133, 3) := by decide +kernel
theorem dX11_cuts_30 : decode cX11_cuts 30 = .ok (.aload_n 0, 1) := by decide +kernel
theorem dX11_cuts_31 : decode cX11_cuts 31 = .ok (.getfield 35, 3) := by decide +kernel
theorem dX11_cuts_34 : decode cX11_cuts 34 = .ok (.iload_n 2, 1) := by decide +kernel
theorem dX11_cuts_35 : decode cX11_cuts 35 = .ok (.bipush 6, 2) := by decide +kernel
theorem dX11_cuts_37 : decode cX11_cuts 37 = .ok (.idiv, 1) := by decide +kernel
theorem dX11_cuts_38 : decode cX11_cuts 38 = .ok (.iload_n 2, 1) := by decide +kernel
theorem dX11_cuts_39 : decode cX11_cuts 39 = .ok (.bipush 6, 2) := by decide +kernel
theorem dX11_cuts_41 : decode cX11_cuts 41 = .ok (.irem, 1) := by decide +kernel
theorem dX11_cuts_42 : decode cX11_cuts 42 = .ok (.invokevirtual 144, 3) := by decide +kernel
theorem dX11_cuts_45 : decode cX11_cuts 45 = .ok (.aload_n 0, 1) := by decide +kernel
theorem dX11_cuts_46 : decode cX11_cuts 46 = .ok (.getfield 35, 3) := by decide +kernel
theorem dX11_cuts_49 : decode cX11_cuts 49 = .ok (.getfield 118, 3) := by decide +kernel
theorem dX11_cuts_52 : decode cX11_cuts 52 = .ok (.getfield 148, 3) := by decide +kernel
theorem dX11_cuts_55 : decode cX11_cuts 55 = .ok (.ireturn, 1) := by decide +kernel
theorem dX11_lays_0 : decode cX11_lays 0 = .ok (.aload_n 0, 1) := by decide +kernel
theorem dX11_lays_1 : decode cX11_lays 1 = .ok (.iload_n 1, 1) := by decide +kernel
theorem dX11_lays_2 : decode cX11_lays 2 = .ok (.iload_n 2, 1) := by decide +kernel
theorem dX11_lays_3 : decode cX11_lays 3 = .ok (.invokevirtual 129, 3) := by decide +kernel
theorem dX11_lays_6 : decode cX11_lays 6 = .ok (.ifCond .eq 10, 3) := by decide +kernel
theorem dX11_lays_9 : decode cX11_lays 9 = .ok (.iload_n 3, 1) := by decide +kernel
theorem dX11_lays_10 : decode cX11_lays 10 = .ok (.invokestatic 151, 3) := by decide +kernel
theorem dX11_lays_13 : decode cX11_lays 13 = .ok (.ifCond .ne 5, 3) := by decide +kernel
theorem dX11_lays_16 : decode cX11_lays 16 = .ok (.iconst (-1), 1) := by decide +kernel
theorem dX11_lays_17 : decode cX11_lays 17 = .ok (.ireturn, 1) := by decide +kernel
theorem dX11_lays_18 : decode cX11_lays 18 = .ok (.aload_n 0, 1) := by decide +kernel
theorem dX11_lays_19 : decode cX11_lays 19 = .ok (.getfield 35, 3) := by decide +kernel
theorem dX11_lays_22 : decode cX11_lays 22 = .ok (.getfield 118, 3) := by decide +kernel
theorem dX11_lays_25 : decode cX11_lays 25 = .ok (.iload_n 1, 1) := by decide +kernel
theorem dX11_lays_26 : decode cX11_lays 26 = .ok (.iload_n 2, 1) := by decide +kernel
theorem dX11_lays_27 : decode cX11_lays 27 = .ok (.invokevirtual 154, 3) := by decide +kernel
theorem dX11_lays_30 : decode cX11_lays 30 = .ok (.ifCond .le 6, 3) := by decide +kernel
theorem dX11_lays_33 : decode cX11_lays 33 = .ok (.bipush (-2), 2) := by decide +kernel
theorem dX11_lays_35 : decode cX11_lays 35 = .ok (.ireturn, 1) := by decide +kernel
theorem dX11_lays_36 : decode cX11_lays 36 = .ok (.aload_n 0, 1) := by decide +kernel
theorem dX11_lays_37 : decode cX11_lays 37 = .ok (.getfield 35, 3) := by decide +kernel
theorem dX11_lays_40 : decode cX11_lays 40 = .ok (.getfield 118, 3) := by decide +kernel
theorem dX11_lays_43 : decode cX11_lays 43 = .ok (.getfield 148, 3) := by decide +kernel
theorem dX11_lays_46 : decode cX11_lays 46 = .ok (.bipush 10, 2) := by decide +kernel
theorem dX11_lays_48 : decode cX11_lays 48 = .ok (.if_icmp .lt 6, 3) := by decide +kernel
theorem dX11_lays_51 : decode cX11_lays 51 = .ok (.bipush (-3), 2) := by decide +kernel
theorem dX11_lays_53 : decode cX11_lays 53 = .ok (.ireturn, 1) := by decide +kernel
theorem dX11_lays_54 : decode cX11_lays 54 = .ok (.aload_n 0, 1) := by decide +kernel
theorem dX11_lays_55 : decode cX11_lays 55 = .ok (.getfield 51, 3) := by decide +kernel
theorem dX11_lays_58 : decode cX11_lays 58 = .ok (.aload_n 0, 1) := by decide +kernel
theorem dX11_lays_59 : decode cX11_lays 59 = .ok (.getfield 35, 3) := by decide +kernel
theorem dX11_lays_62 : decode cX11_lays 62 = .ok (.invokevirtual 133, 3) := by decide +kernel
theorem dX11_lays_65 : decode cX11_lays 65 = .ok (.aload_n 0, 1) := by decide +kernel
theorem dX11_lays_66 : decode cX11_lays 66 = .ok (.getfield 35, 3) := by decide +kernel
theorem dX11_lays_69 : decode cX11_lays 69 = .ok (.getfield 118, 3) := by decide +kernel
theorem dX11_lays_72 : decode cX11_lays 72 = .ok (.iload_n 1, 1) := by decide +kernel
theorem dX11_lays_73 : decode cX11_lays 73 = .ok (.iload_n 2, 1) := by decide +kernel
theorem dX11_lays_74 : decode cX11_lays 74 = .ok (.iload_n 3, 1) := by decide +kernel
theorem dX11_lays_75 : decode cX11_lays 75 = .ok (.invokevirtual 157, 3) := by decide +kernel
theorem dX11_lays_78 : decode cX11_lays 78 = .ok (.aload_n 0, 1) := by decide +kernel
theorem dX11_lays_79 : decode cX11_lays 79 = .ok (.getfield 35, 3) := by decide +kernel
theorem dX11_lays_82 : decode cX11_lays 82 = .ok (.getfield 118, 3) := by decide +kernel
theorem dX11_lays_85 : decode cX11_lays 85 = .ok (.getfield 148, 3) := by decide +kernel
theorem dX11_lays_88 : decode cX11_lays 88 = .ok (.ireturn, 1) := by decide +kernel
theorem dX11_changes_0 : decode cX11_changes 0 = .ok (.aload_n 0, 1) := by decide +kernel
theorem dX11_changes_1 : decode cX11_changes 1 = .ok (.getfield 35, 3) := by decide +kernel
theorem dX11_changes_4 : decode cX11_changes 4 = .ok (.getfield 118, 3) := by decide +kernel
theorem dX11_changes_7 : decode cX11_changes 7 = .ok (.iload_n 1, 1) := by decide +kernel
theorem dX11_changes_8 : decode cX11_changes 8 = .ok (.invokevirtual 119, 3) := by decide +kernel
theorem dX11_changes_11 : decode cX11_changes 11 = .ok (.istore_n 3, 1) := by decide +kernel
theorem dX11_changes_12 : decode cX11_changes 12 = .ok (.iload_n 3, 1) := by decide +kernel
theorem dX11_changes_13 : decode cX11_changes 13 = .ok (.iconst (-1), 1) := by decide +kernel
theorem dX11_changes_14 : decode cX11_changes 14 = .ok (.if_icmp .eq 10, 3) := by decide +kernel
theorem dX11_changes_17 : decode cX11_changes 17 = .ok (.iload_n 2, 1) := by decide +kernel
theorem dX11_changes_18 : decode cX11_changes 18 = .ok (.invokestatic 151, 3) := by decide +kernel
theorem dX11_changes_21 : decode cX11_changes 21 = .ok (.ifCond .ne 5, 3) := by decide +kernel
theorem dX11_changes_24 : decode cX11_changes 24 = .ok (.iconst (-1), 1) := by decide +kernel
theorem dX11_changes_25 : decode cX11_changes 25 = .ok (.ireturn, 1) := by decide +kernel
theorem dX11_changes_26 : decode cX11_changes 26 = .ok (.aload_n 0, 1) := by decide +kernel
theorem dX11_changes_27 : decode cX11_changes 27 = .ok (.getfield 35, 3) := by decide +kernel
theorem dX11_changes_30 : decode cX11_changes 30 = .ok (.getfield 118, 3) := by decide +kernel
theorem dX11_changes_33 : decode cX11_changes 33 = .ok (.getfield 125, 3) := by decide +kernel
theorem dX11_changes_36 : decode cX11_changes 36 = .ok (.iload_n 3, 1) := by decide +kernel
theorem dX11_changes_37 : decode cX11_changes 37 = .ok (.iaload, 1) := by decide +kernel
theorem dX11_changes_38 : decode cX11_changes 38 = .ok (.istore 4, 2) := by decide +kernel
theorem dX11_changes_40 : decode cX11_changes 40 = .ok (.iload 4, 2) := by decide +kernel
theorem dX11_changes_42 : decode cX11_changes 42 = .ok (.iload_n 2, 1) := by decide +kernel
theorem dX11_changes_43 : decode cX11_changes 43 = .ok (.if_icmp .ne 6, 3) := by decide +kernel
theorem dX11_changes_46 : decode cX11_changes 46 = .ok (.bipush (-2), 2) := by decide +kernel
theorem dX11_changes_48 : decode cX11_changes 48 = .ok (.ireturn, 1) := by decide +kernel
theorem dX11_changes_49 : decode cX11_changes 49 = .ok (.aload_n 0, 1) := by decide +kernel
theorem dX11_changes_50 : decode cX11_changes 50 = .ok (.getfield 51, 3) := by decide +kernel
theorem dX11_changes_53 : decode cX11_changes 53 = .ok (.aload_n 0, 1) := by decide +kernel
theorem dX11_changes_54 : decode cX11_changes 54 = .ok (.getfield 35, 3) := by decide +kernel
theorem dX11_changes_57 : decode cX11_changes 57 = .ok (.invokevirtual 133, 3) := by decide +kernel
theorem dX11_changes_60 : decode cX11_changes 60 = .ok (.aload_n 0, 1) := by decide +kernel
theorem dX11_changes_61 : decode cX11_changes 61 = .ok (.getfield 35, 3) := by decide +kernel
theorem dX11_changes_64 : decode cX11_changes 64 = .ok (.getfield 118, 3) := by decide +kernel
theorem dX11_changes_67 : decode cX11_changes 67 = .ok (.iload_n 3, 1) := by decide +kernel
theorem dX11_changes_68 : decode cX11_changes 68 = .ok (.bipush 6, 2) := by decide +kernel
theorem dX11_changes_70 : decode cX11_changes 70 = .ok (.idiv, 1) := by decide +kernel
theorem dX11_changes_71 : decode cX11_changes 71 = .ok (.iload_n 3, 1) := by decide +kernel
theorem dX11_changes_72 : decode cX11_changes 72 = .ok (.bipush 6, 2) := by decide +kernel
theorem dX11_changes_74 : decode cX11_changes 74 = .ok (.irem, 1) := by decide +kernel
theorem dX11_changes_75 : decode cX11_changes 75 = .ok (.iload_n 2, 1) := by decide +kernel
theorem dX11_changes_76 : decode cX11_changes 76 = .ok (.invokevirtual 157, 3) := by decide +kernel
theorem dX11_changes_79 : decode cX11_changes 79 = .ok (.iload 4, 2) := by decide +kernel
theorem dX11_changes_81 : decode cX11_changes 81 = .ok (.ireturn, 1) := by decide +kernel
theorem dX11_undo_0 : decode cX11_undo 0 = .ok (.aload_n 0, 1) := by decide +kernel
theorem dX11_undo_1 : decode cX11_undo 1 = .ok (.getfield 51, 3) := by decide +kernel
theorem dX11_undo_4 : decode cX11_undo 4 = .ok (.aload_n 0, 1) := by decide +kernel
theorem dX11_undo_5 : decode cX11_undo 5 = .ok (.getfield 35, 3) := by decide +kernel
theorem dX11_undo_8 : decode cX11_undo 8 = .ok (.invokevirtual 161, 3) := by decide +kernel
theorem dX11_undo_11 : decode cX11_undo 11 = .ok (.ifCond .eq 13, 3) := by decide +kernel
theorem dX11_undo_14 : decode cX11_undo 14 = .ok (.aload_n 0, 1) := by decide +kernel
theorem dX11_undo_15 : decode cX11_undo 15 = .ok (.getfield 51, 3) := by decide +kernel
theorem dX11_undo_18 : decode cX11_undo 18 = .ok (.getfield 110, 3) := by decide +kernel
theorem dX11_undo_21 : decode cX11_undo 21 = .ok (.goto 5, 3) := by decide +kernel
theorem dX11_undo_24 : decode cX11_undo 24 = .ok (.bipush (-2), 2) := by decide +kernel
theorem dX11_undo_26 : decode cX11_undo 26 = .ok (.ireturn, 1) := by decide +kernel
theorem dX11_guess_0 : decode cX11_guess 0 = .ok (.aload_n 0, 1) := by decide +kernel
theorem dX11_guess_1 : decode cX11_guess 1 = .ok (.iload_n 1, 1) := by decide +kernel
theorem dX11_guess_2 : decode cX11_guess 2 = .ok (.iload_n 2, 1) := by decide +kernel
theorem dX11_guess_3 : decode cX11_guess 3 = .ok (.iload_n 3, 1) := by decide +kernel
theorem dX11_guess_4 : decode cX11_guess 4 = .ok (.invokevirtual 165, 3) := by decide +kernel
theorem dX11_guess_7 : decode cX11_guess 7 = .ok (.istore 4, 2) := by decide +kernel
theorem dX11_guess_9 : decode cX11_guess 9 = .ok (.iload 4, 2) := by decide +kernel
theorem dX11_guess_11 : decode cX11_guess 11 = .ok (.ifCond .ne 16, 3) := by decide +kernel
theorem dX11_guess_14 : decode cX11_guess 14 = .ok (.aload_n 0, 1) := by decide +kernel
theorem dX11_guess_15 : decode cX11_guess 15 = .ok (.getfield 44, 3) := by decide +kernel
theorem dX11_guess_18 : decode cX11_guess 18 = .ok (.iload_n 1, 1) := by decide +kernel
theorem dX11_guess_19 : decode cX11_guess 19 = .ok (.iload_n 2, 1) := by decide +kernel
theorem dX11_guess_20 : decode cX11_guess 20 = .ok (.iload_n 3, 1) := by decide +kernel
theorem dX11_guess_21 : decode cX11_guess 21 = .ok (.invokevirtual 169, 3) := by decide +kernel
theorem dX11_guess_24 : decode cX11_guess 24 = .ok (.goto 5, 3) := by decide +kernel
theorem dX11_guess_27 : decode cX11_guess 27 = .ok (.iload 4, 2) := by decide +kernel
theorem dX11_guess_29 : decode cX11_guess 29 = .ok (.ireturn, 1) := by decide +kernel
theorem dX11_mended_0 : decode cX11_mended 0 = .ok (.aload_n 0, 1) := by decide +kernel
theorem dX11_mended_1 : decode cX11_mended 1 = .ok (.iload_n 1, 1) := by decide +kernel
theorem dX11_mended_2 : decode cX11_mended 2 = .ok (.iload_n 2, 1) := by decide +kernel
theorem dX11_mended_3 : decode cX11_mended 3 = .ok (.iload_n 3, 1) := by decide +kernel
theorem dX11_mended_4 : decode cX11_mended 4 = .ok (.invokevirtual 165, 3) := by decide +kernel
theorem dX11_mended_7 : decode cX11_mended 7 = .ok (.istore 4, 2) := by decide +kernel
theorem dX11_mended_9 : decode cX11_mended 9 = .ok (.iload 4, 2) := by decide +kernel
theorem dX11_mended_11 : decode cX11_mended 11 = .ok (.ifCond .eq 6, 3) := by decide +kernel
theorem dX11_mended_14 : decode cX11_mended 14 = .ok (.iload 4, 2) := by decide +kernel
theorem dX11_mended_16 : decode cX11_mended 16 = .ok (.ireturn, 1) := by decide +kernel
theorem dX11_mended_17 : decode cX11_mended 17 = .ok (.aload_n 0, 1) := by decide +kernel
theorem dX11_mended_18 : decode cX11_mended 18 = .ok (.getfield 35, 3) := by decide +kernel
theorem dX11_mended_21 : decode cX11_mended 21 = .ok (.getfield 172, 3) := by decide +kernel
theorem dX11_mended_24 : decode cX11_mended 24 = .ok (.iload_n 1, 1) := by decide +kernel
theorem dX11_mended_25 : decode cX11_mended 25 = .ok (.iload_n 2, 1) := by decide +kernel
theorem dX11_mended_26 : decode cX11_mended 26 = .ok (.iload_n 3, 1) := by decide +kernel
theorem dX11_mended_27 : decode cX11_mended 27 = .ok (.invokestatic 175, 3) := by decide +kernel
theorem dX11_mended_30 : decode cX11_mended 30 = .ok (.iaload, 1) := by decide +kernel
theorem dX11_mended_31 : decode cX11_mended 31 = .ok (.istore 5, 2) := by decide +kernel
theorem dX11_mended_33 : decode cX11_mended 33 = .ok (.iload 5, 2) := by decide +kernel
theorem dX11_mended_35 : decode cX11_mended 35 = .ok (.ifCond .ne 8, 3) := by decide +kernel
theorem dX11_mended_38 : decode cX11_mended 38 = .ok (.bipush (-9), 2) := by decide +kernel
theorem dX11_mended_40 : decode cX11_mended 40 = .ok (.goto 5, 3) := by decide +kernel
theorem dX11_mended_43 : decode cX11_mended 43 = .ok (.iload 5, 2) := by decide +kernel
theorem dX11_mended_45 : decode cX11_mended 45 = .ok (.ireturn, 1) := by decide +kernel
theorem dX11_best_0 : decode cX11_best 0 = .ok (.aload_n 0, 1) := by decide +kernel
theorem dX11_best_1 : decode cX11_best 1 = .ok (.iload_n 1, 1) := by decide +kernel
theorem dX11_best_2 : decode cX11_best 2 = .ok (.iload_n 2, 1) := by decide +kernel
theorem dX11_best_3 : decode cX11_best 3 = .ok (.invokevirtual 129, 3) := by decide +kernel
theorem dX11_best_6 : decode cX11_best 6 = .ok (.ifCond .eq 15, 3) := by decide +kernel
theorem dX11_best_9 : decode cX11_best 9 = .ok (.aload_n 0, 1) := by decide +kernel
theorem dX11_best_10 : decode cX11_best 10 = .ok (.getfield 44, 3) := by decide +kernel
theorem dX11_best_13 : decode cX11_best 13 = .ok (.iload_n 1, 1) := by decide +kernel
theorem dX11_best_14 : decode cX11_best 14 = .ok (.iload_n 2, 1) := by decide +kernel
theorem dX11_best_15 : decode cX11_best 15 = .ok (.invokevirtual 178, 3) := by decide +kernel
theorem dX11_best_18 : decode cX11_best 18 = .ok (.goto 4, 3) := by decide +kernel
theorem dX11_best_21 : decode cX11_best 21 = .ok (.iconst (-1), 1) := by decide +kernel
theorem dX11_best_22 : decode cX11_best 22 = .ok (.ireturn, 1) := by decide +kernel
theorem dX11_node_0 : decode cX11_node 0 = .ok (.aload_n 0, 1) := by decide +kernel
theorem dX11_node_1 : decode cX11_node 1 = .ok (.iload_n 1, 1) := by decide +kernel
theorem dX11_node_2 : decode cX11_node 2 = .ok (.invokevirtual 181, 3) := by decide +kernel
theorem dX11_node_5 : decode cX11_node 5 = .ok (.ifCond .ne 5, 3) := by decide +kernel
theorem dX11_node_8 : decode cX11_node 8 = .ok (.iconst (-1), 1) := by decide +kernel
theorem dX11_node_9 : decode cX11_node 9 = .ok (.ireturn, 1) := by decide +kernel
theorem dX11_node_10 : decode cX11_node 10 = .ok (.iload_n 2, 1) := by decide +kernel
theorem dX11_node_11 : decode cX11_node 11 = .ok (.tableswitch 57 0 2 #[25, 35, 45], 25) := by decide +kernel
theorem dX11_node_36 : decode cX11_node 36 = .ok (.aload_n 0, 1) := by decide +kernel
theorem dX11_node_37 : decode cX11_node 37 = .ok (.getfield 35, 3) := by decide +kernel
theorem dX11_node_40 : decode cX11_node 40 = .ok (.getfield 184, 3) := by decide +kernel
theorem dX11_node_43 : decode cX11_node 43 = .ok (.iload_n 1, 1) := by decide +kernel
theorem dX11_node_44 : decode cX11_node 44 = .ok (.iaload, 1) := by decide +kernel
theorem dX11_node_45 : decode cX11_node 45 = .ok (.ireturn, 1) := by decide +kernel
theorem dX11_node_46 : decode cX11_node 46 = .ok (.aload_n 0, 1) := by decide +kernel
theorem dX11_node_47 : decode cX11_node 47 = .ok (.getfield 35, 3) := by decide +kernel
theorem dX11_node_50 : decode cX11_node 50 = .ok (.getfield 187, 3) := by decide +kernel
theorem dX11_node_53 : decode cX11_node 53 = .ok (.iload_n 1, 1) := by decide +kernel
theorem dX11_node_54 : decode cX11_node 54 = .ok (.iaload, 1) := by decide +kernel
theorem dX11_node_55 : decode cX11_node 55 = .ok (.ireturn, 1) := by decide +kernel
theorem dX11_node_56 : decode cX11_node 56 = .ok (.aload_n 0, 1) := by decide +kernel
theorem dX11_node_57 : decode cX11_node 57 = .ok (.getfield 35, 3) := by decide +kernel
theorem dX11_node_60 : decode cX11_node 60 = .ok (.getfield 118, 3) := by decide +kernel
theorem dX11_node_63 : decode cX11_node 63 = .ok (.iload_n 1, 1) := by decide +kernel
theorem dX11_node_64 : decode cX11_node 64 = .ok (.invokevirtual 190, 3) := by decide +kernel
theorem dX11_node_67 : decode cX11_node 67 = .ok (.ireturn, 1) := by decide +kernel
theorem dX11_node_68 : decode cX11_node 68 = .ok (.iconst (-1), 1) := by decide +kernel
theorem dX11_node_69 : decode cX11_node 69 = .ok (.ireturn, 1) := by decide +kernel
theorem dX11_used_0 : decode cX11_used 0 = .ok (.aload_n 0, 1) := by decide +kernel
theorem dX11_used_1 : decode cX11_used 1 = .ok (.getfield 35, 3) := by decide +kernel
theorem dX11_used_4 : decode cX11_used 4 = .ok (.getfield 118, 3) := by decide +kernel
theorem dX11_used_7 : decode cX11_used 7 = .ok (.iload_n 1, 1) := by decide +kernel
theorem dX11_used_8 : decode cX11_used 8 = .ok (.invokevirtual 119, 3) := by decide +kernel
theorem dX11_used_11 : decode cX11_used 11 = .ok (.istore_n 2, 1) := by decide +kernel
theorem dX11_used_12 : decode cX11_used 12 = .ok (.iload_n 2, 1) := by decide +kernel
theorem dX11_used_13 : decode cX11_used 13 = .ok (.iconst (-1), 1) := by decide +kernel
theorem dX11_used_14 : decode cX11_used 14 = .ok (.if_icmp .ne 7, 3) := by decide +kernel
theorem dX11_used_17 : decode cX11_used 17 = .ok (.iconst (-1), 1) := by decide +kernel
theorem dX11_used_18 : decode cX11_used 18 = .ok (.goto 12, 3) := by decide +kernel
theorem dX11_used_21 : decode cX11_used 21 = .ok (.aload_n 0, 1) := by decide +kernel
theorem dX11_used_22 : decode cX11_used 22 = .ok (.getfield 35, 3) := by decide +kernel
theorem dX11_used_25 : decode cX11_used 25 = .ok (.getfield 193, 3) := by decide +kernel
theorem dX11_used_28 : decode cX11_used 28 = .ok (.iload_n 2, 1) := by decide +kernel
theorem dX11_used_29 : decode cX11_used 29 = .ok (.iaload, 1) := by decide +kernel
theorem dX11_used_30 : decode cX11_used 30 = .ok (.ireturn, 1) := by decide +kernel
theorem dX11_way_0 : decode cX11_way 0 = .ok (.iload_n 1, 1) := by decide +kernel
theorem dX11_way_1 : decode cX11_way 1 = .ok (.iconst (-1), 1) := by decide +kernel
theorem dX11_way_2 : decode cX11_way 2 = .ok (.if_icmp .ge 5, 3) := by decide +kernel
theorem dX11_way_5 : decode cX11_way 5 = .ok (.iconst (-1), 1) := by decide +kernel
theorem dX11_way_6 : decode cX11_way 6 = .ok (.ireturn, 1) := by decide +kernel
theorem dX11_way_7 : decode cX11_way 7 = .ok (.iload_n 1, 1) := by decide +kernel
theorem dX11_way_8 : decode cX11_way 8 = .ok (.aload_n 0, 1) := by decide +kernel
theorem dX11_way_9 : decode cX11_way 9 = .ok (.getfield 35, 3) := by decide +kernel
theorem dX11_way_12 : decode cX11_way 12 = .ok (.getfield 196, 3) := by decide +kernel
theorem dX11_way_15 : decode cX11_way 15 = .ok (.if_icmp .ge 13, 3) := by decide +kernel
theorem dX11_way_18 : decode cX11_way 18 = .ok (.aload_n 0, 1) := by decide +kernel
theorem dX11_way_19 : decode cX11_way 19 = .ok (.getfield 35, 3) := by decide +kernel
theorem dX11_way_22 : decode cX11_way 22 = .ok (.getfield 196, 3) := by decide +kernel
theorem dX11_way_25 : decode cX11_way 25 = .ok (.ifCond .ne 6, 3) := by decide +kernel
theorem dX11_way_28 : decode cX11_way 28 = .ok (.bipush (-9), 2) := by decide +kernel
theorem dX11_way_30 : decode cX11_way 30 = .ok (.ireturn, 1) := by decide +kernel
theorem dX11_way_31 : decode cX11_way 31 = .ok (.iload_n 1, 1) := by decide +kernel
theorem dX11_way_32 : decode cX11_way 32 = .ok (.iconst (-1), 1) := by decide +kernel
theorem dX11_way_33 : decode cX11_way 33 = .ok (.if_icmp .ne 15, 3) := by decide +kernel
theorem dX11_way_36 : decode cX11_way 36 = .ok (.aload_n 0, 1) := by decide +kernel
theorem dX11_way_37 : decode cX11_way 37 = .ok (.getfield 35, 3) := by decide +kernel
theorem dX11_way_40 : decode cX11_way 40 = .ok (.getfield 196, 3) := by decide +kernel
theorem dX11_way_43 : decode cX11_way 43 = .ok (.iconst 1, 1) := by decide +kernel
theorem dX11_way_44 : decode cX11_way 44 = .ok (.isub, 1) := by decide +kernel
theorem dX11_way_45 : decode cX11_way 45 = .ok (.goto 12, 3) := by decide +kernel
theorem dX11_way_48 : decode cX11_way 48 = .ok (.aload_n 0, 1) := by decide +kernel
theorem dX11_way_49 : decode cX11_way 49 = .ok (.getfield 35, 3) := by decide +kernel
theorem dX11_way_52 : decode cX11_way 52 = .ok (.getfield 199, 3) := by decide +kernel
theorem dX11_way_55 : decode cX11_way 55 = .ok (.iload_n 1, 1) := by decide +kernel
theorem dX11_way_56 : decode cX11_way 56 = .ok (.iaload, 1) := by decide +kernel
theorem dX11_way_57 : decode cX11_way 57 = .ok (.ireturn, 1) := by decide +kernel
theorem dX11_path_0 : decode cX11_path 0 = .ok (.aload_n 0, 1) := by decide +kernel
theorem dX11_path_1 : decode cX11_path 1 = .ok (.iload_n 1, 1) := by decide +kernel
theorem dX11_path_2 : decode cX11_path 2 = .ok (.iload_n 2, 1) := by decide +kernel
theorem dX11_path_3 : decode cX11_path 3 = .ok (.invokevirtual 129, 3) := by decide +kernel
theorem dX11_path_6 : decode cX11_path 6 = .ok (.ifCond .eq 8, 3) := by decide +kernel
theorem dX11_path_9 : decode cX11_path 9 = .ok (.iload_n 3, 1) := by decide +kernel
theorem dX11_path_10 : decode cX11_path 10 = .ok (.iconst (-1), 1) := by decide +kernel
theorem dX11_path_11 : decode cX11_path 11 = .ok (.if_icmp .ge 5, 3) := by decide +kernel
theorem dX11_path_14 : decode cX11_path 14 = .ok (.iconst (-1), 1) := by decide +kernel
theorem dX11_path_15 : decode cX11_path 15 = .ok (.ireturn, 1) := by decide +kernel
theorem dX11_path_16 : decode cX11_path 16 = .ok (.aload_n 0, 1) := by decide +kernel
theorem dX11_path_17 : decode cX11_path 17 = .ok (.getfield 67, 3) := by decide +kernel
theorem dX11_path_20 : decode cX11_path 20 = .ok (.iload_n 1, 1) := by decide +kernel
theorem dX11_path_21 : decode cX11_path 21 = .ok (.iload_n 2, 1) := by decide +kernel
theorem dX11_path_22 : decode cX11_path 22 = .ok (.invokevirtual 202, 3) := by decide +kernel
theorem dX11_path_25 : decode cX11_path 25 = .ok (.pop, 1) := by decide +kernel
theorem dX11_path_26 : decode cX11_path 26 = .ok (.iload_n 3, 1) := by decide +kernel
theorem dX11_path_27 : decode cX11_path 27 = .ok (.iconst (-1), 1) := by decide +kernel
theorem dX11_path_28 : decode cX11_path 28 = .ok (.if_icmp .ne 11, 3) := by decide +kernel
theorem dX11_path_31 : decode cX11_path 31 = .ok (.aload_n 0, 1) := by decide +kernel
theorem dX11_path_32 : decode cX11_path 32 = .ok (.getfield 67, 3) := by decide +kernel
theorem dX11_path_35 : decode cX11_path 35 = .ok (.getfield 205, 3) := by decide +kernel
theorem dX11_path_38 : decode cX11_path 38 = .ok (.ireturn, 1) := by decide +kernel
theorem dX11_path_39 : decode cX11_path 39 = .ok (.iload_n 3, 1) := by decide +kernel
theorem dX11_path_40 : decode cX11_path 40 = .ok (.aload_n 0, 1) := by decide +kernel
theorem dX11_path_41 : decode cX11_path 41 = .ok (.getfield 67, 3) := by decide +kernel
theorem dX11_path_44 : decode cX11_path 44 = .ok (.getfield 205, 3) := by decide +kernel
theorem dX11_path_47 : decode cX11_path 47 = .ok (.if_icmp .ge 15, 3) := by decide +kernel
theorem dX11_path_50 : decode cX11_path 50 = .ok (.aload_n 0, 1) := by decide +kernel
theorem dX11_path_51 : decode cX11_path 51 = .ok (.getfield 67, 3) := by decide +kernel
theorem dX11_path_54 : decode cX11_path 54 = .ok (.getfield 206, 3) := by decide +kernel
theorem dX11_path_57 : decode cX11_path 57 = .ok (.iload_n 3, 1) := by decide +kernel
theorem dX11_path_58 : decode cX11_path 58 = .ok (.iaload, 1) := by decide +kernel
theorem dX11_path_59 : decode cX11_path 59 = .ok (.goto 5, 3) := by decide +kernel
theorem dX11_path_62 : decode cX11_path 62 = .ok (.bipush (-9), 2) := by decide +kernel
theorem dX11_path_64 : decode cX11_path 64 = .ok (.ireturn, 1) := by decide +kernel
theorem dX11_astray_0 : decode cX11_astray 0 = .ok (.aload_n 0, 1) := by decide +kernel
theorem dX11_astray_1 : decode cX11_astray 1 = .ok (.iload_n 1, 1) := by decide +kernel
theorem dX11_astray_2 : decode cX11_astray 2 = .ok (.invokevirtual 181, 3) := by decide +kernel
theorem dX11_astray_5 : decode cX11_astray 5 = .ok (.ifCond .ne 5, 3) := by decide +kernel
theorem dX11_astray_8 : decode cX11_astray 8 = .ok (.iconst (-1), 1) := by decide +kernel
theorem dX11_astray_9 : decode cX11_astray 9 = .ok (.ireturn, 1) := by decide +kernel
theorem dX11_astray_10 : decode cX11_astray 10 = .ok (.iconst 0, 1) := by decide +kernel
theorem dX11_astray_11 : decode cX11_astray 11 = .ok (.istore_n 2, 1) := by decide +kernel
theorem dX11_astray_12 : decode cX11_astray 12 = .ok (.iconst 0, 1) := by decide +kernel
theorem dX11_astray_13 : decode cX11_astray 13 = .ok (.istore_n 3, 1) := by decide +kernel
theorem dX11_astray_14 : decode cX11_astray 14 = .ok (.iload_n 3, 1) := by decide +kernel
theorem dX11_astray_15 : decode cX11_astray 15 = .ok (.aload_n 0, 1) := by decide +kernel
theorem dX11_astray_16 : decode cX11_astray 16 = .ok (.getfield 28, 3) := by decide +kernel
theorem dX11_astray_19 : decode cX11_astray 19 = .ok (.getfield 209, 3) := by decide +kernel
theorem dX11_astray_22 : decode cX11_astray 22 = .ok (.if_icmp .ge 29, 3) := by decide +kernel
theorem dX11_astray_25 : decode cX11_astray 25 = .ok (.iload_n 3, 1) := by decide +kernel
theorem dX11_astray_26 : decode cX11_astray 26 = .ok (.iload_n 1, 1) := by decide +kernel
theorem dX11_astray_27 : decode cX11_astray 27 = .ok (.if_icmp .eq 18, 3) := by decide +kernel
theorem dX11_astray_30 : decode cX11_astray 30 = .ok (.aload_n 0, 1) := by decide +kernel
theorem dX11_astray_31 : decode cX11_astray 31 = .ok (.getfield 67, 3) := by decide +kernel
theorem dX11_astray_34 : decode cX11_astray 34 = .ok (.iload_n 3, 1) := by decide +kernel
theorem dX11_astray_35 : decode cX11_astray 35 = .ok (.iload_n 1, 1) := by decide +kernel
theorem dX11_astray_36 : decode cX11_astray 36 = .ok (.invokevirtual 202, 3) := by decide +kernel
theorem dX11_astray_39 : decode cX11_astray 39 = .ok (.ifCond .ne 6, 3) := by decide +kernel
theorem dX11_astray_42 : decode cX11_astray 42 = .ok (.iinc 2 1, 3) := by decide +kernel
theorem dX11_astray_45 : decode cX11_astray 45 = .ok (.iinc 3 1, 3) := by decide +kernel
theorem dX11_astray_48 : decode cX11_astray 48 = .ok (.goto (-34), 3) := by decide +kernel
theorem dX11_astray_51 : decode cX11_astray 51 = .ok (.iload_n 2, 1) := by decide +kernel
theorem dX11_astray_52 : decode cX11_astray 52 = .ok (.ireturn, 1) := by decide +kernel
theorem dX11_least_0 : decode cX11_least 0 = .ok (.aload_n 0, 1) := by decide +kernel
theorem dX11_least_1 : decode cX11_least 1 = .ok (.iload_n 1, 1) := by decide +kernel
theorem dX11_least_2 : decode cX11_least 2 = .ok (.invokevirtual 181, 3) := by decide +kernel
theorem dX11_least_5 : decode cX11_least 5 = .ok (.ifCond .eq 11, 3) := by decide +kernel
theorem dX11_least_8 : decode cX11_least 8 = .ok (.aload_n 0, 1) := by decide +kernel
theorem dX11_least_9 : decode cX11_least 9 = .ok (.iload_n 2, 1) := by decide +kernel
theorem dX11_least_10 : decode cX11_least 10 = .ok (.invokevirtual 181, 3) := by decide +kernel
theorem dX11_least_13 : decode cX11_least 13 = .ok (.ifCond .ne 5, 3) := by decide +kernel
theorem dX11_least_16 : decode cX11_least 16 = .ok (.iconst (-1), 1) := by decide +kernel
theorem dX11_least_17 : decode cX11_least 17 = .ok (.ireturn, 1) := by decide +kernel
theorem dX11_least_18 : decode cX11_least 18 = .ok (.aload_n 0, 1) := by decide +kernel
theorem dX11_least_19 : decode cX11_least 19 = .ok (.getfield 74, 3) := by decide +kernel
theorem dX11_least_22 : decode cX11_least 22 = .ok (.aload_n 0, 1) := by decide +kernel
theorem dX11_least_23 : decode cX11_least 23 = .ok (.getfield 35, 3) := by decide +kernel
theorem dX11_least_26 : decode cX11_least 26 = .ok (.getfield 118, 3) := by decide +kernel
theorem dX11_least_29 : decode cX11_least 29 = .ok (.aload_n 0, 1) := by decide +kernel
theorem dX11_least_30 : decode cX11_least 30 = .ok (.getfield 28, 3) := by decide +kernel
theorem dX11_least_33 : decode cX11_least 33 = .ok (.getfield 209, 3) := by decide +kernel
theorem dX11_least_36 : decode cX11_least 36 = .ok (.iconst (-1), 1) := by decide +kernel
theorem dX11_least_37 : decode cX11_least 37 = .ok (.invokevirtual 211, 3) := by decide +kernel
theorem dX11_least_40 : decode cX11_least 40 = .ok (.aload_n 0, 1) := by decide +kernel
theorem dX11_least_41 : decode cX11_least 41 = .ok (.getfield 74, 3) := by decide +kernel
theorem dX11_least_44 : decode cX11_least 44 = .ok (.iload_n 1, 1) := by decide +kernel
theorem dX11_least_45 : decode cX11_least 45 = .ok (.iload_n 2, 1) := by decide +kernel
theorem dX11_least_46 : decode cX11_least 46 = .ok (.invokevirtual 215, 3) := by decide +kernel
theorem dX11_least_49 : decode cX11_least 49 = .ok (.ireturn, 1) := by decide +kernel
theorem dX11_right_0 : decode cX11_right 0 = .ok (.aload_n 0, 1) := by decide +kernel
theorem dX11_right_1 : decode cX11_right 1 = .ok (.getfield 74, 3) := by decide +kernel
theorem dX11_right_4 : decode cX11_right 4 = .ok (.aload_n 0, 1) := by decide +kernel
theorem dX11_right_5 : decode cX11_right 5 = .ok (.getfield 35, 3) := by decide +kernel
theorem dX11_right_8 : decode cX11_right 8 = .ok (.getfield 118, 3) := by decide +kernel
theorem dX11_right_11 : decode cX11_right 11 = .ok (.aload_n 0, 1) := by decide +kernel
theorem dX11_right_12 : decode cX11_right 12 = .ok (.getfield 28, 3) := by decide +kernel
theorem dX11_right_15 : decode cX11_right 15 = .ok (.getfield 209, 3) := by decide +kernel
theorem dX11_right_18 : decode cX11_right 18 = .ok (.iconst (-1), 1) := by decide +kernel
theorem dX11_right_19 : decode cX11_right 19 = .ok (.invokevirtual 211, 3) := by decide +kernel
theorem dX11_right_22 : decode cX11_right 22 = .ok (.iconst 0, 1) := by decide +kernel
theorem dX11_right_23 : decode cX11_right 23 = .ok (.istore_n 1, 1) := by decide +kernel
theorem dX11_right_24 : decode cX11_right 24 = .ok (.iconst 0, 1) := by decide +kernel
theorem dX11_right_25 : decode cX11_right 25 = .ok (.istore_n 2, 1) := by decide +kernel
theorem dX11_right_26 : decode cX11_right 26 = .ok (.iload_n 2, 1) := by decide +kernel
theorem dX11_right_27 : decode cX11_right 27 = .ok (.aload_n 0, 1) := by decide +kernel
theorem dX11_right_28 : decode cX11_right 28 = .ok (.getfield 28, 3) := by decide +kernel
theorem dX11_right_31 : decode cX11_right 31 = .ok (.getfield 209, 3) := by decide +kernel
theorem dX11_right_34 : decode cX11_right 34 = .ok (.if_icmp .ge 67, 3) := by decide +kernel
theorem dX11_right_37 : decode cX11_right 37 = .ok (.iconst 0, 1) := by decide +kernel
theorem dX11_right_38 : decode cX11_right 38 = .ok (.istore_n 3, 1) := by decide +kernel
theorem dX11_right_39 : decode cX11_right 39 = .ok (.iload_n 3, 1) := by decide +kernel
theorem dX11_right_40 : decode cX11_right 40 = .ok (.aload_n 0, 1) := by decide +kernel
theorem dX11_right_41 : decode cX11_right 41 = .ok (.getfield 28, 3) := by decide +kernel
theorem dX11_right_44 : decode cX11_right 44 = .ok (.getfield 209, 3) := by decide +kernel
theorem dX11_right_47 : decode cX11_right 47 = .ok (.if_icmp .ge 48, 3) := by decide +kernel
theorem dX11_right_50 : decode cX11_right 50 = .ok (.iload_n 2, 1) := by decide +kernel
theorem dX11_right_51 : decode cX11_right 51 = .ok (.iload_n 3, 1) := by decide +kernel
theorem dX11_right_52 : decode cX11_right 52 = .ok (.if_icmp .eq 37, 3) := by decide +kernel
theorem dX11_right_55 : decode cX11_right 55 = .ok (.aload_n 0, 1) := by decide +kernel
theorem dX11_right_56 : decode cX11_right 56 = .ok (.getfield 67, 3) := by decide +kernel
theorem dX11_right_59 : decode cX11_right 59 = .ok (.iload_n 2, 1) := by decide +kernel
theorem dX11_right_60 : decode cX11_right 60 = .ok (.iload_n 3, 1) := by decide +kernel
theorem dX11_right_61 : decode cX11_right 61 = .ok (.invokevirtual 202, 3) := by decide +kernel
theorem dX11_right_64 : decode cX11_right 64 = .ok (.ifCond .eq 25, 3) := by decide +kernel
theorem dX11_right_67 : decode cX11_right 67 = .ok (.aload_n 0, 1) := by decide +kernel
theorem dX11_right_68 : decode cX11_right 68 = .ok (.getfield 67, 3) := by decide +kernel
theorem dX11_right_71 : decode cX11_right 71 = .ok (.getfield 218, 3) := by decide +kernel
theorem dX11_right_74 : decode cX11_right 74 = .ok (.aload_n 0, 1) := by decide +kernel
theorem dX11_right_75 : decode cX11_right 75 = .ok (.getfield 74, 3) := by decide +kernel
theorem dX11_right_78 : decode cX11_right 78 = .ok (.iload_n 2, 1) := by decide +kernel
theorem dX11_right_79 : decode cX11_right 79 = .ok (.iload_n 3, 1) := by decide +kernel
theorem dX11_right_80 : decode cX11_right 80 = .ok (.invokevirtual 215, 3) := by decide +kernel
theorem dX11_right_83 : decode cX11_right 83 = .ok (.if_icmp .ne 6, 3) := by decide +kernel
theorem dX11_right_86 : decode cX11_right 86 = .ok (.iinc 1 1, 3) := by decide +kernel
theorem dX11_right_89 : decode cX11_right 89 = .ok (.iinc 3 1, 3) := by decide +kernel
theorem dX11_right_92 : decode cX11_right 92 = .ok (.goto (-53), 3) := by decide +kernel
theorem dX11_right_95 : decode cX11_right 95 = .ok (.iinc 2 1, 3) := by decide +kernel
theorem dX11_right_98 : decode cX11_right 98 = .ok (.goto (-72), 3) := by decide +kernel
theorem dX11_right_101 : decode cX11_right 101 = .ok (.iload_n 1, 1) := by decide +kernel
theorem dX11_right_102 : decode cX11_right 102 = .ok (.ireturn, 1) := by decide +kernel
theorem dX11_hurt_0 : decode cX11_hurt 0 = .ok (.aload_n 0, 1) := by decide +kernel
theorem dX11_hurt_1 : decode cX11_hurt 1 = .ok (.getfield 35, 3) := by decide +kernel
theorem dX11_hurt_4 : decode cX11_hurt 4 = .ok (.getfield 118, 3) := by decide +kernel
theorem dX11_hurt_7 : decode cX11_hurt 7 = .ok (.iload_n 1, 1) := by decide +kernel
theorem dX11_hurt_8 : decode cX11_hurt 8 = .ok (.invokevirtual 119, 3) := by decide +kernel
theorem dX11_hurt_11 : decode cX11_hurt 11 = .ok (.istore_n 2, 1) := by decide +kernel
theorem dX11_hurt_12 : decode cX11_hurt 12 = .ok (.iload_n 2, 1) := by decide +kernel
theorem dX11_hurt_13 : decode cX11_hurt 13 = .ok (.iconst (-1), 1) := by decide +kernel
theorem dX11_hurt_14 : decode cX11_hurt 14 = .ok (.if_icmp .ne 7, 3) := by decide +kernel
theorem dX11_hurt_17 : decode cX11_hurt 17 = .ok (.iconst (-1), 1) := by decide +kernel
theorem dX11_hurt_18 : decode cX11_hurt 18 = .ok (.goto 8, 3) := by decide +kernel
theorem dX11_hurt_21 : decode cX11_hurt 21 = .ok (.aload_n 0, 1) := by decide +kernel
theorem dX11_hurt_22 : decode cX11_hurt 22 = .ok (.iload_n 2, 1) := by decide +kernel
theorem dX11_hurt_23 : decode cX11_hurt 23 = .ok (.invokevirtual 220, 3) := by decide +kernel
theorem dX11_hurt_26 : decode cX11_hurt 26 = .ok (.ireturn, 1) := by decide +kernel
theorem dX11_worst_0 : decode cX11_worst 0 = .ok (.bipush (-9), 2) := by decide +kernel
theorem dX11_worst_2 : decode cX11_worst 2 = .ok (.istore_n 1, 1) := by decide +kernel
theorem dX11_worst_3 : decode cX11_worst 3 = .ok (.iconst 0, 1) := by decide +kernel
theorem dX11_worst_4 : decode cX11_worst 4 = .ok (.istore_n 2, 1) := by decide +kernel
theorem dX11_worst_5 : decode cX11_worst 5 = .ok (.iconst 0, 1) := by decide +kernel
theorem dX11_worst_6 : decode cX11_worst 6 = .ok (.istore_n 3, 1) := by decide +kernel
theorem dX11_worst_7 : decode cX11_worst 7 = .ok (.iload_n 3, 1) := by decide +kernel
theorem dX11_worst_8 : decode cX11_worst 8 = .ok (.aload_n 0, 1) := by decide +kernel
theorem dX11_worst_9 : decode cX11_worst 9 = .ok (.getfield 35, 3) := by decide +kernel
theorem dX11_worst_12 : decode cX11_worst 12 = .ok (.getfield 118, 3) := by decide +kernel
theorem dX11_worst_15 : decode cX11_worst 15 = .ok (.getfield 148, 3) := by decide +kernel
theorem dX11_worst_18 : decode cX11_worst 18 = .ok (.if_icmp .ge 43, 3) := by decide +kernel
theorem dX11_worst_21 : decode cX11_worst 21 = .ok (.aload_n 0, 1) := by decide +kernel
theorem dX11_worst_22 : decode cX11_worst 22 = .ok (.aload_n 0, 1) := by decide +kernel
theorem dX11_worst_23 : decode cX11_worst 23 = .ok (.getfield 35, 3) := by decide +kernel
theorem dX11_worst_26 : decode cX11_worst 26 = .ok (.getfield 118, 3) := by decide +kernel
theorem dX11_worst_29 : decode cX11_worst 29 = .ok (.iload_n 3, 1) := by decide +kernel
theorem dX11_worst_30 : decode cX11_worst 30 = .ok (.invokevirtual 119, 3) := by decide +kernel
theorem dX11_worst_33 : decode cX11_worst 33 = .ok (.invokevirtual 220, 3) := by decide +kernel
theorem dX11_worst_36 : decode cX11_worst 36 = .ok (.istore 4, 2) := by decide +kernel
theorem dX11_worst_38 : decode cX11_worst 38 = .ok (.iload_n 1, 1) := by decide +kernel
theorem dX11_worst_39 : decode cX11_worst 39 = .ok (.bipush (-9), 2) := by decide +kernel
theorem dX11_worst_41 : decode cX11_worst 41 = .ok (.if_icmp .eq 9, 3) := by decide +kernel
theorem dX11_worst_44 : decode cX11_worst 44 = .ok (.iload 4, 2) := by decide +kernel
theorem dX11_worst_46 : decode cX11_worst 46 = .ok (.iload_n 2, 1) := by decide +kernel
theorem dX11_worst_47 : decode cX11_worst 47 = .ok (.if_icmp .le 8, 3) := by decide +kernel
theorem dX11_worst_50 : decode cX11_worst 50 = .ok (.iload_n 3, 1) := by decide +kernel
theorem dX11_worst_51 : decode cX11_worst 51 = .ok (.istore_n 1, 1) := by decide +kernel
theorem dX11_worst_52 : decode cX11_worst 52 = .ok (.iload 4, 2) := by decide +kernel
theorem dX11_worst_54 : decode cX11_worst 54 = .ok (.istore_n 2, 1) := by decide +kernel
theorem dX11_worst_55 : decode cX11_worst 55 = .ok (.iinc 3 1, 3) := by decide +kernel
theorem dX11_worst_58 : decode cX11_worst 58 = .ok (.goto (-51), 3) := by decide +kernel
theorem dX11_worst_61 : decode cX11_worst 61 = .ok (.iload_n 1, 1) := by decide +kernel
theorem dX11_worst_62 : decode cX11_worst 62 = .ok (.ireturn, 1) := by decide +kernel
theorem dX11_sees_0 : decode cX11_sees 0 = .ok (.aload_n 0, 1) := by decide +kernel
theorem dX11_sees_1 : decode cX11_sees 1 = .ok (.iload_n 1, 1) := by decide +kernel
theorem dX11_sees_2 : decode cX11_sees 2 = .ok (.iload_n 2, 1) := by decide +kernel
theorem dX11_sees_3 : decode cX11_sees 3 = .ok (.invokevirtual 129, 3) := by decide +kernel
theorem dX11_sees_6 : decode cX11_sees 6 = .ok (.ifCond .eq 13, 3) := by decide +kernel
theorem dX11_sees_9 : decode cX11_sees 9 = .ok (.iload_n 3, 1) := by decide +kernel
theorem dX11_sees_10 : decode cX11_sees 10 = .ok (.ifCond .lt 9, 3) := by decide +kernel
theorem dX11_sees_13 : decode cX11_sees 13 = .ok (.iload_n 3, 1) := by decide +kernel
theorem dX11_sees_14 : decode cX11_sees 14 = .ok (.bipush 99, 2) := by decide +kernel
theorem dX11_sees_16 : decode cX11_sees 16 = .ok (.if_icmp .le 5, 3) := by decide +kernel
theorem dX11_sees_19 : decode cX11_sees 19 = .ok (.iconst (-1), 1) := by decide +kernel
theorem dX11_sees_20 : decode cX11_sees 20 = .ok (.ireturn, 1) := by decide +kernel
theorem dX11_sees_21 : decode cX11_sees 21 = .ok (.aload_n 0, 1) := by decide +kernel
theorem dX11_sees_22 : decode cX11_sees 22 = .ok (.getfield 81, 3) := by decide +kernel
theorem dX11_sees_25 : decode cX11_sees 25 = .ok (.iload_n 1, 1) := by decide +kernel
theorem dX11_sees_26 : decode cX11_sees 26 = .ok (.iload_n 2, 1) := by decide +kernel
theorem dX11_sees_27 : decode cX11_sees 27 = .ok (.iload_n 3, 1) := by decide +kernel
theorem dX11_sees_28 : decode cX11_sees 28 = .ok (.invokevirtual 223, 3) := by decide +kernel
theorem dX11_sees_31 : decode cX11_sees 31 = .ok (.ifCond .eq 13, 3) := by decide +kernel
theorem dX11_sees_34 : decode cX11_sees 34 = .ok (.aload_n 0, 1) := by decide +kernel
theorem dX11_sees_35 : decode cX11_sees 35 = .ok (.getfield 81, 3) := by decide +kernel
theorem dX11_sees_38 : decode cX11_sees 38 = .ok (.getfield 114, 3) := by decide +kernel
theorem dX11_sees_41 : decode cX11_sees 41 = .ok (.goto 5, 3) := by decide +kernel
theorem dX11_sees_44 : decode cX11_sees 44 = .ok (.bipush (-3), 2) := by decide +kernel
theorem dX11_sees_46 : decode cX11_sees 46 = .ok (.ireturn, 1) := by decide +kernel
theorem dX11_forget_0 : decode cX11_forget 0 = .ok (.aload_n 0, 1) := by decide +kernel
theorem dX11_forget_1 : decode cX11_forget 1 = .ok (.getfield 81, 3) := by decide +kernel
theorem dX11_forget_4 : decode cX11_forget 4 = .ok (.getfield 114, 3) := by decide +kernel
theorem dX11_forget_7 : decode cX11_forget 7 = .ok (.istore_n 1, 1) := by decide +kernel
theorem dX11_forget_8 : decode cX11_forget 8 = .ok (.aload_n 0, 1) := by decide +kernel
theorem dX11_forget_9 : decode cX11_forget 9 = .ok (.getfield 81, 3) := by decide +kernel
theorem dX11_forget_12 : decode cX11_forget 12 = .ok (.iconst 0, 1) := by decide +kernel
theorem dX11_forget_13 : decode cX11_forget 13 = .ok (.putfield 114, 3) := by decide +kernel
theorem dX11_forget_16 : decode cX11_forget 16 = .ok (.iload_n 1, 1) := by decide +kernel
theorem dX11_forget_17 : decode cX11_forget 17 = .ok (.ireturn, 1) := by decide +kernel
theorem dX11_unseen_0 : decode cX11_unseen 0 = .ok (.iconst 0, 1) := by decide +kernel
theorem dX11_unseen_1 : decode cX11_unseen 1 = .ok (.istore_n 1, 1) := by decide +kernel
theorem dX11_unseen_2 : decode cX11_unseen 2 = .ok (.iconst 0, 1) := by decide +kernel
theorem dX11_unseen_3 : decode cX11_unseen 3 = .ok (.istore_n 2, 1) := by decide +kernel
theorem dX11_unseen_4 : decode cX11_unseen 4 = .ok (.iload_n 2, 1) := by decide +kernel
theorem dX11_unseen_5 : decode cX11_unseen 5 = .ok (.aload_n 0, 1) := by decide +kernel
theorem dX11_unseen_6 : decode cX11_unseen 6 = .ok (.getfield 35, 3) := by decide +kernel
theorem dX11_unseen_9 : decode cX11_unseen 9 = .ok (.getfield 118, 3) := by decide +kernel
theorem dX11_unseen_12 : decode cX11_unseen 12 = .ok (.getfield 148, 3) := by decide +kernel
theorem dX11_unseen_15 : decode cX11_unseen 15 = .ok (.if_icmp .ge 61, 3) := by decide +kernel
theorem dX11_unseen_18 : decode cX11_unseen 18 = .ok (.aload_n 0, 1) := by decide +kernel
theorem dX11_unseen_19 : decode cX11_unseen 19 = .ok (.getfield 74, 3) := by decide +kernel
theorem dX11_unseen_22 : decode cX11_unseen 22 = .ok (.aload_n 0, 1) := by decide +kernel
theorem dX11_unseen_23 : decode cX11_unseen 23 = .ok (.getfield 35, 3) := by decide +kernel
theorem dX11_unseen_26 : decode cX11_unseen 26 = .ok (.getfield 118, 3) := by decide +kernel
theorem dX11_unseen_29 : decode cX11_unseen 29 = .ok (.aload_n 0, 1) := by decide +kernel
theorem dX11_unseen_30 : decode cX11_unseen 30 = .ok (.getfield 28, 3) := by decide +kernel
theorem dX11_unseen_33 : decode cX11_unseen 33 = .ok (.getfield 209, 3) := by decide +kernel
theorem dX11_unseen_36 : decode cX11_unseen 36 = .ok (.aload_n 0, 1) := by decide +kernel
theorem dX11_unseen_37 : decode cX11_unseen 37 = .ok (.getfield 35, 3) := by decide +kernel
theorem dX11_unseen_40 : decode cX11_unseen 40 = .ok (.getfield 118, 3) := by decide +kernel
theorem dX11_unseen_43 : decode cX11_unseen 43 = .ok (.iload_n 2, 1) := by decide +kernel
theorem dX11_unseen_44 : decode cX11_unseen 44 = .ok (.invokevirtual 119, 3) := by decide +kernel
theorem dX11_unseen_47 : decode cX11_unseen 47 = .ok (.invokevirtual 211, 3) := by decide +kernel
theorem dX11_unseen_50 : decode cX11_unseen 50 = .ok (.aload_n 0, 1) := by decide +kernel
theorem dX11_unseen_51 : decode cX11_unseen 51 = .ok (.getfield 81, 3) := by decide +kernel
theorem dX11_unseen_54 : decode cX11_unseen 54 = .ok (.aload_n 0, 1) := by decide +kernel
theorem dX11_unseen_55 : decode cX11_unseen 55 = .ok (.getfield 74, 3) := by decide +kernel
theorem dX11_unseen_58 : decode cX11_unseen 58 = .ok (.invokevirtual 226, 3) := by decide +kernel
theorem dX11_unseen_61 : decode cX11_unseen 61 = .ok (.ifCond .eq 9, 3) := by decide +kernel
theorem dX11_unseen_64 : decode cX11_unseen 64 = .ok (.iload_n 1, 1) := by decide +kernel
theorem dX11_unseen_65 : decode cX11_unseen 65 = .ok (.iconst 1, 1) := by decide +kernel
theorem dX11_unseen_66 : decode cX11_unseen 66 = .ok (.iload_n 2, 1) := by decide +kernel
theorem dX11_unseen_67 : decode cX11_unseen 67 = .ok (.ishl, 1) := by decide +kernel
theorem dX11_unseen_68 : decode cX11_unseen 68 = .ok (.ior, 1) := by decide +kernel
theorem dX11_unseen_69 : decode cX11_unseen 69 = .ok (.istore_n 1, 1) := by decide +kernel
theorem dX11_unseen_70 : decode cX11_unseen 70 = .ok (.iinc 2 1, 3) := by decide +kernel
theorem dX11_unseen_73 : decode cX11_unseen 73 = .ok (.goto (-69), 3) := by decide +kernel
theorem dX11_unseen_76 : decode cX11_unseen 76 = .ok (.iload_n 1, 1) := by decide +kernel
theorem dX11_unseen_77 : decode cX11_unseen 77 = .ok (.ireturn, 1) := by decide +kernel
theorem dX11_keep_0 : decode cX11_keep 0 = .ok (.iload_n 1, 1) := by decide +kernel
theorem dX11_keep_1 : decode cX11_keep 1 = .ok (.invokestatic 230, 3) := by decide +kernel
theorem dX11_keep_4 : decode cX11_keep 4 = .ok (.ifCond .ne 5, 3) := by decide +kernel
theorem dX11_keep_7 : decode cX11_keep 7 = .ok (.iconst (-1), 1) := by decide +kernel
theorem dX11_keep_8 : decode cX11_keep 8 = .ok (.ireturn, 1) := by decide +kernel
theorem dX11_keep_9 : decode cX11_keep 9 = .ok (.aload_n 0, 1) := by decide +kernel
theorem dX11_keep_10 : decode cX11_keep 10 = .ok (.getfield 58, 3) := by decide +kernel
theorem dX11_keep_13 : decode cX11_keep 13 = .ok (.getfield 233, 3) := by decide +kernel
theorem dX11_keep_16 : decode cX11_keep 16 = .ok (.iload_n 1, 1) := by decide +kernel
theorem dX11_keep_17 : decode cX11_keep 17 = .ok (.aaload, 1) := by decide +kernel
theorem dX11_keep_18 : decode cX11_keep 18 = .ok (.aload_n 0, 1) := by decide +kernel
theorem dX11_keep_19 : decode cX11_keep 19 = .ok (.getfield 35, 3) := by decide +kernel
theorem dX11_keep_22 : decode cX11_keep 22 = .ok (.invokevirtual 237, 3) := by decide +kernel
theorem dX11_keep_25 : decode cX11_keep 25 = .ok (.aload_n 0, 1) := by decide +kernel
theorem dX11_keep_26 : decode cX11_keep 26 = .ok (.getfield 58, 3) := by decide +kernel
theorem dX11_keep_29 : decode cX11_keep 29 = .ok (.getfield 239, 3) := by decide +kernel
theorem dX11_keep_32 : decode cX11_keep 32 = .ok (.iload_n 1, 1) := by decide +kernel
theorem dX11_keep_33 : decode cX11_keep 33 = .ok (.iconst 1, 1) := by decide +kernel
theorem dX11_keep_34 : decode cX11_keep 34 = .ok (.bastore, 1) := by decide +kernel
theorem dX11_keep_35 : decode cX11_keep 35 = .ok (.aload_n 0, 1) := by decide +kernel
theorem dX11_keep_36 : decode cX11_keep 36 = .ok (.getfield 35, 3) := by decide +kernel
theorem dX11_keep_39 : decode cX11_keep 39 = .ok (.getfield 118, 3) := by decide +kernel
theorem dX11_keep_42 : decode cX11_keep 42 = .ok (.getfield 148, 3) := by decide +kernel
theorem dX11_keep_45 : decode cX11_keep 45 = .ok (.ireturn, 1) := by decide +kernel
theorem dX11_back_0 : decode cX11_back 0 = .ok (.iload_n 1, 1) := by decide +kernel
theorem dX11_back_1 : decode cX11_back 1 = .ok (.invokestatic 230, 3) := by decide +kernel
theorem dX11_back_4 : decode cX11_back 4 = .ok (.ifCond .ne 5, 3) := by decide +kernel
theorem dX11_back_7 : decode cX11_back 7 = .ok (.iconst (-1), 1) := by decide +kernel
theorem dX11_back_8 : decode cX11_back 8 = .ok (.ireturn, 1) := by decide +kernel
theorem dX11_back_9 : decode cX11_back 9 = .ok (.aload_n 0, 1) := by decide +kernel
theorem dX11_back_10 : decode cX11_back 10 = .ok (.getfield 58, 3) := by decide +kernel
theorem dX11_back_13 : decode cX11_back 13 = .ok (.getfield 239, 3) := by decide +kernel
theorem dX11_back_16 : decode cX11_back 16 = .ok (.iload_n 1, 1) := by decide +kernel
theorem dX11_back_17 : decode cX11_back 17 = .ok (.baload, 1) := by decide +kernel
theorem dX11_back_18 : decode cX11_back 18 = .ok (.ifCond .ne 6, 3) := by decide +kernel
theorem dX11_back_21 : decode cX11_back 21 = .ok (.bipush (-2), 2) := by decide +kernel
theorem dX11_back_23 : decode cX11_back 23 = .ok (.ireturn, 1) := by decide +kernel
theorem dX11_back_24 : decode cX11_back 24 = .ok (.aload_n 0, 1) := by decide +kernel
theorem dX11_back_25 : decode cX11_back 25 = .ok (.getfield 35, 3) := by decide +kernel
theorem dX11_back_28 : decode cX11_back 28 = .ok (.aload_n 0, 1) := by decide +kernel
theorem dX11_back_29 : decode cX11_back 29 = .ok (.getfield 58, 3) := by decide +kernel
theorem dX11_back_32 : decode cX11_back 32 = .ok (.getfield 233, 3) := by decide +kernel
theorem dX11_back_35 : decode cX11_back 35 = .ok (.iload_n 1, 1) := by decide +kernel
theorem dX11_back_36 : decode cX11_back 36 = .ok (.aaload, 1) := by decide +kernel
theorem dX11_back_37 : decode cX11_back 37 = .ok (.invokevirtual 237, 3) := by decide +kernel
theorem dX11_back_40 : decode cX11_back 40 = .ok (.aload_n 0, 1) := by decide +kernel
theorem dX11_back_41 : decode cX11_back 41 = .ok (.getfield 51, 3) := by decide +kernel
theorem dX11_back_44 : decode cX11_back 44 = .ok (.iconst 0, 1) := by decide +kernel
theorem dX11_back_45 : decode cX11_back 45 = .ok (.putfield 110, 3) := by decide +kernel
theorem dX11_back_48 : decode cX11_back 48 = .ok (.aload_n 0, 1) := by decide +kernel
theorem dX11_back_49 : decode cX11_back 49 = .ok (.getfield 35, 3) := by decide +kernel
theorem dX11_back_52 : decode cX11_back 52 = .ok (.getfield 118, 3) := by decide +kernel
theorem dX11_back_55 : decode cX11_back 55 = .ok (.getfield 148, 3) := by decide +kernel
theorem dX11_back_58 : decode cX11_back 58 = .ok (.ireturn, 1) := by decide +kernel
theorem dX11_count_0 : decode cX11_count 0 = .ok (.iload_n 1, 1) := by decide +kernel
theorem dX11_count_1 : decode cX11_count 1 = .ok (.tableswitch 150 0 10 #[59, 67, 78, 86, 94, 102, 110, 118, 126, 134, 142], 59) := by decide +kernel
theorem dX11_count_60 : decode cX11_count 60 = .ok (.aload_n 0, 1) := by decide +kernel
theorem dX11_count_61 : decode cX11_count 61 = .ok (.getfield 28, 3) := by decide +kernel
theorem dX11_count_64 : decode cX11_count 64 = .ok (.getfield 209, 3) := by decide +kernel
theorem dX11_count_67 : decode cX11_count 67 = .ok (.ireturn, 1) := by decide +kernel
theorem dX11_count_68 : decode cX11_count 68 = .ok (.aload_n 0, 1) := by decide +kernel
theorem dX11_count_69 : decode cX11_count 69 = .ok (.getfield 35, 3) := by decide +kernel
theorem dX11_count_72 : decode cX11_count 72 = .ok (.getfield 118, 3) := by decide +kernel
theorem dX11_count_75 : decode cX11_count 75 = .ok (.getfield 148, 3) := by decide +kernel
theorem dX11_count_78 : decode cX11_count 78 = .ok (.ireturn, 1) := by decide +kernel
theorem dX11_count_79 : decode cX11_count 79 = .ok (.aload_n 0, 1) := by decide +kernel
theorem dX11_count_80 : decode cX11_count 80 = .ok (.getfield 28, 3) := by decide +kernel
theorem dX11_count_83 : decode cX11_count 83 = .ok (.getfield 243, 3) := by decide +kernel
theorem dX11_count_86 : decode cX11_count 86 = .ok (.ireturn, 1) := by decide +kernel
theorem dX11_count_87 : decode cX11_count 87 = .ok (.aload_n 0, 1) := by decide +kernel
theorem dX11_count_88 : decode cX11_count 88 = .ok (.getfield 28, 3) := by decide +kernel
theorem dX11_count_91 : decode cX11_count 91 = .ok (.getfield 246, 3) := by decide +kernel
theorem dX11_count_94 : decode cX11_count 94 = .ok (.ireturn, 1) := by decide +kernel
theorem dX11_count_95 : decode cX11_count 95 = .ok (.aload_n 0, 1) := by decide +kernel
theorem dX11_count_96 : decode cX11_count 96 = .ok (.getfield 28, 3) := by decide +kernel
theorem dX11_count_99 : decode cX11_count 99 = .ok (.getfield 249, 3) := by decide +kernel
theorem dX11_count_102 : decode cX11_count 102 = .ok (.ireturn, 1) := by decide +kernel
theorem dX11_count_103 : decode cX11_count 103 = .ok (.aload_n 0, 1) := by decide +kernel
theorem dX11_count_104 : decode cX11_count 104 = .ok (.getfield 28, 3) := by decide +kernel
theorem dX11_count_107 : decode cX11_count 107 = .ok (.getfield 252, 3) := by decide +kernel
theorem dX11_count_110 : decode cX11_count 110 = .ok (.ireturn, 1) := by decide +kernel
theorem dX11_count_111 : decode cX11_count 111 = .ok (.aload_n 0, 1) := by decide +kernel
theorem dX11_count_112 : decode cX11_count 112 = .ok (.getfield 28, 3) := by decide +kernel
theorem dX11_count_115 : decode cX11_count 115 = .ok (.getfield 255, 3) := by decide +kernel
theorem dX11_count_118 : decode cX11_count 118 = .ok (.ireturn, 1) := by decide +kernel
theorem dX11_count_119 : decode cX11_count 119 = .ok (.aload_n 0, 1) := by decide +kernel
theorem dX11_count_120 : decode cX11_count 120 = .ok (.getfield 35, 3) := by decide +kernel
theorem dX11_count_123 : decode cX11_count 123 = .ok (.getfield 258, 3) := by decide +kernel
theorem dX11_count_126 : decode cX11_count 126 = .ok (.ireturn, 1) := by decide +kernel
theorem dX11_count_127 : decode cX11_count 127 = .ok (.aload_n 0, 1) := by decide +kernel
theorem dX11_count_128 : decode cX11_count 128 = .ok (.getfield 81, 3) := by decide +kernel
theorem dX11_count_131 : decode cX11_count 131 = .ok (.getfield 114, 3) := by decide +kernel
theorem dX11_count_134 : decode cX11_count 134 = .ok (.ireturn, 1) := by decide +kernel
theorem dX11_count_135 : decode cX11_count 135 = .ok (.aload_n 0, 1) := by decide +kernel
theorem dX11_count_136 : decode cX11_count 136 = .ok (.getfield 12, 3) := by decide +kernel
theorem dX11_count_139 : decode cX11_count 139 = .ok (.getfield 89, 3) := by decide +kernel
theorem dX11_count_142 : decode cX11_count 142 = .ok (.ireturn, 1) := by decide +kernel
theorem dX11_count_143 : decode cX11_count 143 = .ok (.aload_n 0, 1) := by decide +kernel
theorem dX11_count_144 : decode cX11_count 144 = .ok (.getfield 51, 3) := by decide +kernel
theorem dX11_count_147 : decode cX11_count 147 = .ok (.getfield 110, 3) := by decide +kernel
theorem dX11_count_150 : decode cX11_count 150 = .ok (.ireturn, 1) := by decide +kernel
theorem dX11_count_151 : decode cX11_count 151 = .ok (.iconst (-1), 1) := by decide +kernel
theorem dX11_count_152 : decode cX11_count 152 = .ok (.ireturn, 1) := by decide +kernel
theorem dX11_isNode_0 : decode cX11_isNode 0 = .ok (.iload_n 1, 1) := by decide +kernel
theorem dX11_isNode_1 : decode cX11_isNode 1 = .ok (.ifCond .lt 18, 3) := by decide +kernel
theorem dX11_isNode_4 : decode cX11_isNode 4 = .ok (.iload_n 1, 1) := by decide +kernel
theorem dX11_isNode_5 : decode cX11_isNode 5 = .ok (.aload_n 0, 1) := by decide +kernel
theorem dX11_isNode_6 : decode cX11_isNode 6 = .ok (.getfield 28, 3) := by decide +kernel
theorem dX11_isNode_9 : decode cX11_isNode 9 = .ok (.getfield 209, 3) := by decide +kernel
theorem dX11_isNode_12 : decode cX11_isNode 12 = .ok (.if_icmp .ge 7, 3) := by decide +kernel
theorem dX11_isNode_15 : decode cX11_isNode 15 = .ok (.iconst 1, 1) := by decide +kernel
theorem dX11_isNode_16 : decode cX11_isNode 16 = .ok (.goto 4, 3) := by decide +kernel
theorem dX11_isNode_19 : decode cX11_isNode 19 = .ok (.iconst 0, 1) := by decide +kernel
theorem dX11_isNode_20 : decode cX11_isNode 20 = .ok (.ireturn, 1) := by decide +kernel
theorem dX11_areUnlike_0 : decode cX11_areUnlike 0 = .ok (.aload_n 0, 1) := by decide +kernel
theorem dX11_areUnlike_1 : decode cX11_areUnlike 1 = .ok (.iload_n 1, 1) := by decide +kernel
theorem dX11_areUnlike_2 : decode cX11_areUnlike 2 = .ok (.invokevirtual 181, 3) := by decide +kernel
theorem dX11_areUnlike_5 : decode cX11_areUnlike 5 = .ok (.ifCond .eq 20, 3) := by decide +kernel
theorem dX11_areUnlike_8 : decode cX11_areUnlike 8 = .ok (.aload_n 0, 1) := by decide +kernel
theorem dX11_areUnlike_9 : decode cX11_areUnlike 9 = .ok (.iload_n 2, 1) := by decide +kernel
theorem dX11_areUnlike_10 : decode cX11_areUnlike 10 = .ok (.invokevirtual 181, 3) := by decide +kernel
theorem dX11_areUnlike_13 : decode cX11_areUnlike 13 = .ok (.ifCond .eq 12, 3) := by decide +kernel
theorem dX11_areUnlike_16 : decode cX11_areUnlike 16 = .ok (.iload_n 1, 1) := by decide +kernel
theorem dX11_areUnlike_17 : decode cX11_areUnlike 17 = .ok (.iload_n 2, 1) := by decide +kernel
theorem dX11_areUnlike_18 : decode cX11_areUnlike 18 = .ok (.if_icmp .eq 7, 3) := by decide +kernel
theorem dX11_areUnlike_21 : decode cX11_areUnlike 21 = .ok (.iconst 1, 1) := by decide +kernel
theorem dX11_areUnlike_22 : decode cX11_areUnlike 22 = .ok (.goto 4, 3) := by decide +kernel
theorem dX11_areUnlike_25 : decode cX11_areUnlike 25 = .ok (.iconst 0, 1) := by decide +kernel
theorem dX11_areUnlike_26 : decode cX11_areUnlike 26 = .ok (.ireturn, 1) := by decide +kernel
theorem dX11_isDelay_0 : decode cX11_isDelay 0 = .ok (.iload_n 0, 1) := by decide +kernel
theorem dX11_isDelay_1 : decode cX11_isDelay 1 = .ok (.iconst 1, 1) := by decide +kernel
theorem dX11_isDelay_2 : decode cX11_isDelay 2 = .ok (.if_icmp .lt 13, 3) := by decide +kernel
theorem dX11_isDelay_5 : decode cX11_isDelay 5 = .ok (.iload_n 0, 1) := by decide +kernel
theorem dX11_isDelay_6 : decode cX11_isDelay 6 = .ok (.bipush 9, 2) := by decide +kernel
theorem dX11_isDelay_8 : decode cX11_isDelay 8 = .ok (.if_icmp .gt 7, 3) := by decide +kernel
theorem dX11_isDelay_11 : decode cX11_isDelay 11 = .ok (.iconst 1, 1) := by decide +kernel
theorem dX11_isDelay_12 : decode cX11_isDelay 12 = .ok (.goto 4, 3) := by decide +kernel
theorem dX11_isDelay_15 : decode cX11_isDelay 15 = .ok (.iconst 0, 1) := by decide +kernel
theorem dX11_isDelay_16 : decode cX11_isDelay 16 = .ok (.ireturn, 1) := by decide +kernel
theorem dX11_isImage_0 : decode cX11_isImage 0 = .ok (.iload_n 0, 1) := by decide +kernel
theorem dX11_isImage_1 : decode cX11_isImage 1 = .ok (.ifCond .lt 12, 3) := by decide +kernel
theorem dX11_isImage_4 : decode cX11_isImage 4 = .ok (.iload_n 0, 1) := by decide +kernel
theorem dX11_isImage_5 : decode cX11_isImage 5 = .ok (.iconst 2, 1) := by decide +kernel
theorem dX11_isImage_6 : decode cX11_isImage 6 = .ok (.if_icmp .ge 7, 3) := by decide +kernel
theorem dX11_isImage_9 : decode cX11_isImage 9 = .ok (.iconst 1, 1) := by decide +kernel
theorem dX11_isImage_10 : decode cX11_isImage 10 = .ok (.goto 4, 3) := by decide +kernel
theorem dX11_isImage_13 : decode cX11_isImage 13 = .ok (.iconst 0, 1) := by decide +kernel
theorem dX11_isImage_14 : decode cX11_isImage 14 = .ok (.ireturn, 1) := by decide +kernel
theorem dX11_refusalOfGuess_0 : decode cX11_refusalOfGuess 0 = .ok (.aload_n 0, 1) := by decide +kernel
theorem dX11_refusalOfGuess_1 : decode cX11_refusalOfGuess 1 = .ok (.iload_n 1, 1) := by decide +kernel
theorem dX11_refusalOfGuess_2 : decode cX11_refusalOfGuess 2 = .ok (.iload_n 2, 1) := by decide +kernel
theorem dX11_refusalOfGuess_3 : decode cX11_refusalOfGuess 3 = .ok (.invokevirtual 129, 3) := by decide +kernel
theorem dX11_refusalOfGuess_6 : decode cX11_refusalOfGuess 6 = .ok (.ifCond .eq 11, 3) := by decide +kernel
theorem dX11_refusalOfGuess_9 : decode cX11_refusalOfGuess 9 = .ok (.aload_n 0, 1) := by decide +kernel
theorem dX11_refusalOfGuess_10 : decode cX11_refusalOfGuess 10 = .ok (.iload_n 3, 1) := by decide +kernel
theorem dX11_refusalOfGuess_11 : decode cX11_refusalOfGuess 11 = .ok (.invokevirtual 181, 3) := by decide +kernel
theorem dX11_refusalOfGuess_14 : decode cX11_refusalOfGuess 14 = .ok (.ifCond .ne 5, 3) := by decide +kernel
theorem dX11_refusalOfGuess_17 : decode cX11_refusalOfGuess 17 = .ok (.iconst (-1), 1) := by decide +kernel
theorem dX11_refusalOfGuess_18 : decode cX11_refusalOfGuess 18 = .ok (.ireturn, 1) := by decide +kernel
theorem dX11_refusalOfGuess_19 : decode cX11_refusalOfGuess 19 = .ok (.aload_n 0, 1) := by decide +kernel
theorem dX11_refusalOfGuess_20 : decode cX11_refusalOfGuess 20 = .ok (.getfield 35, 3) := by decide +kernel
theorem dX11_refusalOfGuess_23 : decode cX11_refusalOfGuess 23 = .ok (.getfield 118, 3) := by decide +kernel
theorem dX11_refusalOfGuess_26 : decode cX11_refusalOfGuess 26 = .ok (.iload_n 1, 1) := by decide +kernel
theorem dX11_refusalOfGuess_27 : decode cX11_refusalOfGuess 27 = .ok (.iload_n 3, 1) := by decide +kernel
theorem dX11_refusalOfGuess_28 : decode cX11_refusalOfGuess 28 = .ok (.invokevirtual 154, 3) := by decide +kernel
theorem dX11_refusalOfGuess_31 : decode cX11_refusalOfGuess 31 = .ok (.ifCond .le 7, 3) := by decide +kernel
theorem dX11_refusalOfGuess_34 : decode cX11_refusalOfGuess 34 = .ok (.iconst 0, 1) := by decide +kernel
theorem dX11_refusalOfGuess_35 : decode cX11_refusalOfGuess 35 = .ok (.goto 5, 3) := by decide +kernel
theorem dX11_refusalOfGuess_38 : decode cX11_refusalOfGuess 38 = .ok (.bipush (-2), 2) := by decide +kernel
theorem dX11_refusalOfGuess_40 : decode cX11_refusalOfGuess 40 = .ok (.ireturn, 1) := by decide +kernel
theorem dX11_hurtWithout_0 : decode cX11_hurtWithout 0 = .ok (.aload_n 0, 1) := by decide +kernel
theorem dX11_hurtWithout_1 : decode cX11_hurtWithout 1 = .ok (.getfield 74, 3) := by decide +kernel
theorem dX11_hurtWithout_4 : decode cX11_hurtWithout 4 = .ok (.aload_n 0, 1) := by decide +kernel
theorem dX11_hurtWithout_5 : decode cX11_hurtWithout 5 = .ok (.getfield 35, 3) := by decide +kernel
theorem dX11_hurtWithout_8 : decode cX11_hurtWithout 8 = .ok (.getfield 118, 3) := by decide +kernel
theorem dX11_hurtWithout_11 : decode cX11_hurtWithout 11 = .ok (.aload_n 0, 1) := by decide +kernel
theorem dX11_hurtWithout_12 : decode cX11_hurtWithout 12 = .ok (.getfield 28, 3) := by decide +kernel
theorem dX11_hurtWithout_15 : decode cX11_hurtWithout 15 = .ok (.getfield 209, 3) := by decide +kernel
theorem dX11_hurtWithout_18 : decode cX11_hurtWithout 18 = .ok (.iload_n 1, 1) := by decide +kernel
theorem dX11_hurtWithout_19 : decode cX11_hurtWithout 19 = .ok (.invokevirtual 211, 3) := by decide +kernel
theorem dX11_hurtWithout_22 : decode cX11_hurtWithout 22 = .ok (.aload_n 0, 1) := by decide +kernel
theorem dX11_hurtWithout_23 : decode cX11_hurtWithout 23 = .ok (.getfield 74, 3) := by decide +kernel
theorem dX11_hurtWithout_26 : decode cX11_hurtWithout 26 = .ok (.invokevirtual 261, 3) := by decide +kernel
theorem dX11_hurtWithout_29 : decode cX11_hurtWithout 29 = .ok (.ireturn, 1) := by decide +kernel
theorem dX11_pairCell_0 : decode cX11_pairCell 0 = .ok (.iload_n 0, 1) := by decide +kernel
theorem dX11_pairCell_1 : decode cX11_pairCell 1 = .ok (.bipush 6, 2) := by decide +kernel
theorem dX11_pairCell_3 : decode cX11_pairCell 3 = .ok (.imul, 1) := by decide +kernel
theorem dX11_pairCell_4 : decode cX11_pairCell 4 = .ok (.iload_n 1, 1) := by decide +kernel
theorem dX11_pairCell_5 : decode cX11_pairCell 5 = .ok (.iadd, 1) := by decide +kernel
theorem dX11_pairCell_6 : decode cX11_pairCell 6 = .ok (.ireturn, 1) := by decide +kernel
theorem dX11_guessCell_0 : decode cX11_guessCell 0 = .ok (.iload_n 0, 1) := by decide +kernel
theorem dX11_guessCell_1 : decode cX11_guessCell 1 = .ok (.bipush 6, 2) := by decide +kernel
theorem dX11_guessCell_3 : decode cX11_guessCell 3 = .ok (.imul, 1) := by decide +kernel
theorem dX11_guessCell_4 : decode cX11_guessCell 4 = .ok (.iload_n 1, 1) := by decide +kernel
theorem dX11_guessCell_5 : decode cX11_guessCell 5 = .ok (.iadd, 1) := by decide +kernel
theorem dX11_guessCell_6 : decode cX11_guessCell 6 = .ok (.bipush 6, 2) := by decide +kernel
theorem dX11_guessCell_8 : decode cX11_guessCell 8 = .ok (.imul, 1) := by decide +kernel
theorem dX11_guessCell_9 : decode cX11_guessCell 9 = .ok (.iload_n 2, 1) := by decide +kernel
theorem dX11_guessCell_10 : decode cX11_guessCell 10 = .ok (.iadd, 1) := by decide +kernel
theorem dX11_guessCell_11 : decode cX11_guessCell 11 = .ok (.ireturn, 1) := by decide +kernel
end
section
theorem dX12_init_0 : decode cX12_init 0 = .ok (.aload_n 0, 1) := by decide +kernel
theorem dX12_init_1 : decode cX12_init 1 = .ok (.invokespecial 1, 3) := by decide +kernel
theorem dX12_init_4 : decode cX12_init 4 = .ok (.aload_n 0, 1) := by decide +kernel
theorem dX12_init_5 : decode cX12_init 5 = .ok (.iconst 2, 1) := by decide +kernel
theorem dX12_init_6 : decode cX12_init 6 = .ok (.putfield 7, 3) := by decide +kernel
theorem dX12_init_9 : decode cX12_init 9 = .ok (.aload_n 0, 1) := by decide +kernel
theorem dX12_init_10 : decode cX12_init 10 = .ok (.bipush 99, 2) := by decide +kernel
theorem dX12_init_12 : decode cX12_init 12 = .ok (.putfield 13, 3) := by decide +kernel
theorem dX12_init_15 : decode cX12_init 15 = .ok (.aload_n 0, 1) := by decide +kernel
theorem dX12_init_16 : decode cX12_init 16 = .ok (.bipush 60, 2) := by decide +kernel
theorem dX12_init_18 : decode cX12_init 18 = .ok (.putfield 16, 3) := by decide +kernel
theorem dX12_init_21 : decode cX12_init 21 = .ok (.aload_n 0, 1) := by decide +kernel
theorem dX12_init_22 : decode cX12_init 22 = .ok (.sipush 622, 3) := by decide +kernel
theorem dX12_init_25 : decode cX12_init 25 = .ok (.newarray .int, 2) := by decide +kernel
theorem dX12_init_27 : decode cX12_init 27 = .ok (.putfield 19, 3) := by decide +kernel
theorem dX12_init_30 : decode cX12_init 30 = .ok (.aload_n 0, 1) := by decide +kernel
theorem dX12_init_31 : decode cX12_init 31 = .ok (.sipush 4976, 3) := by decide +kernel
theorem dX12_init_34 : decode cX12_init 34 = .ok (.newarray .int, 2) := by decide +kernel
theorem dX12_init_36 : decode cX12_init 36 = .ok (.putfield 23, 3) := by decide +kernel
theorem dX12_init_39 : decode cX12_init 39 = .ok (.aload_n 0, 1) := by decide +kernel
theorem dX12_init_40 : decode cX12_init 40 = .ok (.iconst 2, 1) := by decide +kernel
theorem dX12_init_41 : decode cX12_init 41 = .ok (.newarray .boolean, 2) := by decide +kernel
theorem dX12_init_43 : decode cX12_init 43 = .ok (.putfield 26, 3) := by decide +kernel
theorem dX12_init_46 : decode cX12_init 46 = .ok (.aload_n 0, 1) := by decide +kernel
theorem dX12_init_47 : decode cX12_init 47 = .ok (.sipush 1244, 3) := by decide +kernel
theorem dX12_init_50 : decode cX12_init 50 = .ok (.newarray .int, 2) := by decide +kernel
theorem dX12_init_52 : decode cX12_init 52 = .ok (.putfield 30, 3) := by decide +kernel
theorem dX12_init_55 : decode cX12_init 55 = .ok (.aload_n 0, 1) := by decide +kernel
theorem dX12_init_56 : decode cX12_init 56 = .ok (.bipush 120, 2) := by decide +kernel
theorem dX12_init_58 : decode cX12_init 58 = .ok (.newarray .int, 2) := by decide +kernel
theorem dX12_init_60 : decode cX12_init 60 = .ok (.putfield 33, 3) := by decide +kernel
theorem dX12_init_63 : decode cX12_init 63 = .ok (.aload_n 0, 1) := by decide +kernel
theorem dX12_init_64 : decode cX12_init 64 = .ok (.bipush 36, 2) := by decide +kernel
theorem dX12_init_66 : decode cX12_init 66 = .ok (.newarray .int, 2) := by decide +kernel
theorem dX12_init_68 : decode cX12_init 68 = .ok (.putfield 36, 3) := by decide +kernel
theorem dX12_init_71 : decode cX12_init 71 = .ok (.aload_n 0, 1) := by decide +kernel
theorem dX12_init_72 : decode cX12_init 72 = .ok (.bipush 6, 2) := by decide +kernel
theorem dX12_init_74 : decode cX12_init 74 = .ok (.newarray .int, 2) := by decide +kernel
theorem dX12_init_76 : decode cX12_init 76 = .ok (.putfield 39, 3) := by decide +kernel
theorem dX12_init_79 : decode cX12_init 79 = .ok (.aload_n 0, 1) := by decide +kernel
theorem dX12_init_80 : decode cX12_init 80 = .ok (.bipush 36, 2) := by decide +kernel
theorem dX12_init_82 : decode cX12_init 82 = .ok (.newarray .int, 2) := by decide +kernel
theorem dX12_init_84 : decode cX12_init 84 = .ok (.putfield 42, 3) := by decide +kernel
theorem dX12_init_87 : decode cX12_init 87 = .ok (.aload_n 0, 1) := by decide +kernel
theorem dX12_init_88 : decode cX12_init 88 = .ok (.bipush 6, 2) := by decide +kernel
theorem dX12_init_90 : decode cX12_init 90 = .ok (.newarray .int, 2) := by decide +kernel
theorem dX12_init_92 : decode cX12_init 92 = .ok (.putfield 45, 3) := by decide +kernel
theorem dX12_init_95 : decode cX12_init 95 = .ok (.aload_n 0, 1) := by decide +kernel
theorem dX12_init_96 : decode cX12_init 96 = .ok (.bipush 6, 2) := by decide +kernel
theorem dX12_init_98 : decode cX12_init 98 = .ok (.newarray .int, 2) := by decide +kernel
theorem dX12_init_100 : decode cX12_init 100 = .ok (.putfield 48, 3) := by decide +kernel
theorem dX12_init_103 : decode cX12_init 103 = .ok (.aload_n 0, 1) := by decide +kernel
theorem dX12_init_104 : decode cX12_init 104 = .ok (.bipush 6, 2) := by decide +kernel
theorem dX12_init_106 : decode cX12_init 106 = .ok (.newarray .int, 2) := by decide +kernel
theorem dX12_init_108 : decode cX12_init 108 = .ok (.putfield 51, 3) := by decide +kernel
theorem dX12_init_111 : decode cX12_init 111 = .ok (.aload_n 0, 1) := by decide +kernel
theorem dX12_init_112 : decode cX12_init 112 = .ok (.getfield 19, 3) := by decide +kernel
theorem dX12_init_115 : decode cX12_init 115 = .ok (.invokestatic 54, 3) := by decide +kernel
theorem dX12_init_118 : decode cX12_init 118 = .ok (.return_, 1) := by decide +kernel
theorem dX12_in_0 : decode cX12_in 0 = .ok (.iload_n 0, 1) := by decide +kernel
theorem dX12_in_1 : decode cX12_in 1 = .ok (.iload_n 1, 1) := by decide +kernel
theorem dX12_in_2 : decode cX12_in 2 = .ok (.if_icmp .lt 12, 3) := by decide +kernel
theorem dX12_in_5 : decode cX12_in 5 = .ok (.iload_n 0, 1) := by decide +kernel
theorem dX12_in_6 : decode cX12_in 6 = .ok (.iload_n 2, 1) := by decide +kernel
theorem dX12_in_7 : decode cX12_in 7 = .ok (.if_icmp .gt 7, 3) := by decide +kernel
theorem dX12_in_10 : decode cX12_in 10 = .ok (.iconst 1, 1) := by decide +kernel
theorem dX12_in_11 : decode cX12_in 11 = .ok (.goto 4, 3) := by decide +kernel
theorem dX12_in_14 : decode cX12_in 14 = .ok (.iconst 0, 1) := by decide +kernel
theorem dX12_in_15 : decode cX12_in 15 = .ok (.ireturn, 1) := by decide +kernel
theorem dX12_has_0 : decode cX12_has 0 = .ok (.iload_n 0, 1) := by decide +kernel
theorem dX12_has_1 : decode cX12_has 1 = .ok (.iload_n 1, 1) := by decide +kernel
theorem dX12_has_2 : decode cX12_has 2 = .ok (.ishr, 1) := by decide +kernel
theorem dX12_has_3 : decode cX12_has 3 = .ok (.iconst 1, 1) := by decide +kernel
theorem dX12_has_4 : decode cX12_has 4 = .ok (.iand, 1) := by decide +kernel
theorem dX12_has_5 : decode cX12_has 5 = .ok (.iconst 1, 1) := by decide +kernel
theorem dX12_has_6 : decode cX12_has 6 = .ok (.if_icmp .ne 7, 3) := by decide +kernel
theorem dX12_has_9 : decode cX12_has 9 = .ok (.iconst 1, 1) := by decide +kernel
theorem dX12_has_10 : decode cX12_has 10 = .ok (.goto 4, 3) := by decide +kernel
theorem dX12_has_13 : decode cX12_has 13 = .ok (.iconst 0, 1) := by decide +kernel
theorem dX12_has_14 : decode cX12_has 14 = .ok (.ireturn, 1) := by decide +kernel
theorem dX12_begins_0 : decode cX12_begins 0 = .ok (.iconst 0, 1) := by decide +kernel
theorem dX12_begins_1 : decode cX12_begins 1 = .ok (.istore_n 1, 1) := by decide +kernel
theorem dX12_begins_2 : decode cX12_begins 2 = .ok (.iload_n 1, 1) := by decide +kernel
theorem dX12_begins_3 : decode cX12_begins 3 = .ok (.sipush 622, 3) := by decide +kernel
theorem dX12_begins_6 : decode cX12_begins 6 = .ok (.if_icmp .ge 24, 3) := by decide +kernel
theorem dX12_begins_9 : decode cX12_begins 9 = .ok (.aload_n 0, 1) := by decide +kernel
theorem dX12_begins_10 : decode cX12_begins 10 = .ok (.iload_n 1, 1) := by decide +kernel
theorem dX12_begins_11 : decode cX12_begins 11 = .ok (.iload_n 1, 1) := by decide +kernel
theorem dX12_begins_12 : decode cX12_begins 12 = .ok (.sipush 406, 3) := by decide +kernel
theorem dX12_begins_15 : decode cX12_begins 15 = .ok (.if_icmp .ge 7, 3) := by decide +kernel
theorem dX12_begins_18 : decode cX12_begins 18 = .ok (.iconst 0, 1) := by decide +kernel
theorem dX12_begins_19 : decode cX12_begins 19 = .ok (.goto 4, 3) := by decide +kernel
theorem dX12_begins_22 : decode cX12_begins 22 = .ok (.iconst (-1), 1) := by decide +kernel
theorem dX12_begins_23 : decode cX12_begins 23 = .ok (.iastore, 1) := by decide +kernel
theorem dX12_begins_24 : decode cX12_begins 24 = .ok (.iinc 1 1, 3) := by decide +kernel
theorem dX12_begins_27 : decode cX12_begins 27 = .ok (.goto (-25), 3) := by decide +kernel
theorem dX12_begins_30 : decode cX12_begins 30 = .ok (.aload_n 0, 1) := by decide +kernel
theorem dX12_begins_31 : decode cX12_begins 31 = .ok (.iconst 1, 1) := by decide +kernel
theorem dX12_begins_32 : decode cX12_begins 32 = .ok (.iconst (-1), 1) := by decide +kernel
theorem dX12_begins_33 : decode cX12_begins 33 = .ok (.iastore, 1) := by decide +kernel
theorem dX12_begins_34 : decode cX12_begins 34 = .ok (.return_, 1) := by decide +kernel
theorem dX12_isNode_0 : decode cX12_isNode 0 = .ok (.iload_n 1, 1) := by decide +kernel
theorem dX12_isNode_1 : decode cX12_isNode 1 = .ok (.iconst 0, 1) := by decide +kernel
theorem dX12_isNode_2 : decode cX12_isNode 2 = .ok (.aload_n 0, 1) := by decide +kernel
theorem dX12_isNode_3 : decode cX12_isNode 3 = .ok (.getfield 7, 3) := by decide +kernel
theorem dX12_isNode_6 : decode cX12_isNode 6 = .ok (.iconst 1, 1) := by decide +kernel
theorem dX12_isNode_7 : decode cX12_isNode 7 = .ok (.isub, 1) := by decide +kernel
theorem dX12_isNode_8 : decode cX12_isNode 8 = .ok (.invokestatic 58, 3) := by decide +kernel
theorem dX12_isNode_11 : decode cX12_isNode 11 = .ok (.ireturn, 1) := by decide +kernel
theorem dX12_pair_0 : decode cX12_pair 0 = .ok (.iload_n 0, 1) := by decide +kernel
theorem dX12_pair_1 : decode cX12_pair 1 = .ok (.iload_n 1, 1) := by decide +kernel
theorem dX12_pair_2 : decode cX12_pair 2 = .ok (.if_icmp .ge 12, 3) := by decide +kernel
theorem dX12_pair_5 : decode cX12_pair 5 = .ok (.bipush 6, 2) := by decide +kernel
theorem dX12_pair_7 : decode cX12_pair 7 = .ok (.iload_n 0, 1) := by decide +kernel
theorem dX12_pair_8 : decode cX12_pair 8 = .ok (.imul, 1) := by decide +kernel
theorem dX12_pair_9 : decode cX12_pair 9 = .ok (.iload_n 1, 1) := by decide +kernel
theorem dX12_pair_10 : decode cX12_pair 10 = .ok (.iadd, 1) := by decide +kernel
theorem dX12_pair_11 : decode cX12_pair 11 = .ok (.goto 9, 3) := by decide +kernel
theorem dX12_pair_14 : decode cX12_pair 14 = .ok (.bipush 6, 2) := by decide +kernel
theorem dX12_pair_16 : decode cX12_pair 16 = .ok (.iload_n 1, 1) := by decide +kernel
theorem dX12_pair_17 : decode cX12_pair 17 = .ok (.imul, 1) := by decide +kernel
theorem dX12_pair_18 : decode cX12_pair 18 = .ok (.iload_n 0, 1) := by decide +kernel
theorem dX12_pair_19 : decode cX12_pair 19 = .ok (.iadd, 1) := by decide +kernel
theorem dX12_pair_20 : decode cX12_pair 20 = .ok (.ireturn, 1) := by decide +kernel
theorem dX12_delay_0 : decode cX12_delay 0 = .ok (.iload_n 1, 1) := by decide +kernel
theorem dX12_delay_1 : decode cX12_delay 1 = .ok (.iload_n 2, 1) := by decide +kernel
theorem dX12_delay_2 : decode cX12_delay 2 = .ok (.if_icmp .ne 7, 3) := by decide +kernel
theorem dX12_delay_5 : decode cX12_delay 5 = .ok (.iconst 0, 1) := by decide +kernel
theorem dX12_delay_6 : decode cX12_delay 6 = .ok (.goto 16, 3) := by decide +kernel
theorem dX12_delay_9 : decode cX12_delay 9 = .ok (.aload_n 0, 1) := by decide +kernel
theorem dX12_delay_10 : decode cX12_delay 10 = .ok (.getfield 19, 3) := by decide +kernel
theorem dX12_delay_13 : decode cX12_delay 13 = .ok (.bipush 118, 2) := by decide +kernel
theorem dX12_delay_15 : decode cX12_delay 15 = .ok (.iload_n 1, 1) := by decide +kernel
theorem dX12_delay_16 : decode cX12_delay 16 = .ok (.iload_n 2, 1) := by decide +kernel
theorem dX12_delay_17 : decode cX12_delay 17 = .ok (.invokestatic 62, 3) := by decide +kernel
theorem dX12_delay_20 : decode cX12_delay 20 = .ok (.iadd, 1) := by decide +kernel
theorem dX12_delay_21 : decode cX12_delay 21 = .ok (.iaload, 1) := by decide +kernel
theorem dX12_delay_22 : decode cX12_delay 22 = .ok (.ireturn, 1) := by decide +kernel
theorem dX12_guessAt_0 : decode cX12_guessAt 0 = .ok (.bipush 36, 2) := by decide +kernel
theorem dX12_guessAt_2 : decode cX12_guessAt 2 = .ok (.iload_n 0, 1) := by decide +kernel
theorem dX12_guessAt_3 : decode cX12_guessAt 3 = .ok (.imul, 1) := by decide +kernel
theorem dX12_guessAt_4 : decode cX12_guessAt 4 = .ok (.bipush 6, 2) := by decide +kernel
theorem dX12_guessAt_6 : decode cX12_guessAt 6 = .ok (.iload_n 1, 1) := by decide +kernel
theorem dX12_guessAt_7 : decode cX12_guessAt 7 = .ok (.imul, 1) := by decide +kernel
theorem dX12_guessAt_8 : decode cX12_guessAt 8 = .ok (.iadd, 1) := by decide +kernel
theorem dX12_guessAt_9 : decode cX12_guessAt 9 = .ok (.iload_n 2, 1) := by decide +kernel
theorem dX12_guessAt_10 : decode cX12_guessAt 10 = .ok (.iadd, 1) := by decide +kernel
theorem dX12_guessAt_11 : decode cX12_guessAt 11 = .ok (.ireturn, 1) := by decide +kernel
theorem dX12_linkMany_0 : decode cX12_linkMany 0 = .ok (.iconst 0, 1) := by decide +kernel
theorem dX12_linkMany_1 : decode cX12_linkMany 1 = .ok (.istore_n 1, 1) := by decide +kernel
theorem dX12_linkMany_2 : decode cX12_linkMany 2 = .ok (.iconst 0, 1) := by decide +kernel
theorem dX12_linkMany_3 : decode cX12_linkMany 3 = .ok (.istore_n 2, 1) := by decide +kernel
theorem dX12_linkMany_4 : decode cX12_linkMany 4 = .ok (.iload_n 2, 1) := by decide +kernel
theorem dX12_linkMany_5 : decode cX12_linkMany 5 = .ok (.bipush 36, 2) := by decide +kernel
theorem dX12_linkMany_7 : decode cX12_linkMany 7 = .ok (.if_icmp .ge 29, 3) := by decide +kernel
theorem dX12_linkMany_10 : decode cX12_linkMany 10 = .ok (.iload_n 1, 1) := by decide +kernel
theorem dX12_linkMany_11 : decode cX12_linkMany 11 = .ok (.aload_n 0, 1) := by decide +kernel
theorem dX12_linkMany_12 : decode cX12_linkMany 12 = .ok (.getfield 19, 3) := by decide +kernel
theorem dX12_linkMany_15 : decode cX12_linkMany 15 = .ok (.bipush 118, 2) := by decide +kernel
theorem dX12_linkMany_17 : decode cX12_linkMany 17 = .ok (.iload_n 2, 1) := by decide +kernel
theorem dX12_linkMany_18 : decode cX12_linkMany 18 = .ok (.iadd, 1) := by decide +kernel
theorem dX12_linkMany_19 : decode cX12_linkMany 19 = .ok (.iaload, 1) := by decide +kernel
theorem dX12_linkMany_20 : decode cX12_linkMany 20 = .ok (.ifCond .le 7, 3) := by decide +kernel
theorem dX12_linkMany_23 : decode cX12_linkMany 23 = .ok (.iconst 1, 1) := by decide +kernel
theorem dX12_linkMany_24 : decode cX12_linkMany 24 = .ok (.goto 4, 3) := by decide +kernel
theorem dX12_linkMany_27 : decode cX12_linkMany 27 = .ok (.iconst 0, 1) := by decide +kernel
theorem dX12_linkMany_28 : decode cX12_linkMany 28 = .ok (.iadd, 1) := by decide +kernel
theorem dX12_linkMany_29 : decode cX12_linkMany 29 = .ok (.istore_n 1, 1) := by decide +kernel
theorem dX12_linkMany_30 : decode cX12_linkMany 30 = .ok (.iinc 2 1, 3) := by decide +kernel
theorem dX12_linkMany_33 : decode cX12_linkMany 33 = .ok (.goto (-29), 3) := by decide +kernel
theorem dX12_linkMany_36 : decode cX12_linkMany 36 = .ok (.iload_n 1, 1) := by decide +kernel
theorem dX12_linkMany_37 : decode cX12_linkMany 37 = .ok (.ireturn, 1) := by decide +kernel
theorem dX12_pairOf_0 : decode cX12_pairOf 0 = .ok (.iload_n 1, 1) := by decide +kernel
theorem dX12_pairOf_1 : decode cX12_pairOf 1 = .ok (.istore_n 2, 1) := by decide +kernel
theorem dX12_pairOf_2 : decode cX12_pairOf 2 = .ok (.iconst 0, 1) := by decide +kernel
theorem dX12_pairOf_3 : decode cX12_pairOf 3 = .ok (.istore_n 3, 1) := by decide +kernel
theorem dX12_pairOf_4 : decode cX12_pairOf 4 = .ok (.iload_n 3, 1) := by decide +kernel
theorem dX12_pairOf_5 : decode cX12_pairOf 5 = .ok (.bipush 36, 2) := by decide +kernel
theorem dX12_pairOf_7 : decode cX12_pairOf 7 = .ok (.if_icmp .ge 34, 3) := by decide +kernel
theorem dX12_pairOf_10 : decode cX12_pairOf 10 = .ok (.iload_n 1, 1) := by decide +kernel
theorem dX12_pairOf_11 : decode cX12_pairOf 11 = .ok (.ifCond .lt 30, 3) := by decide +kernel
theorem dX12_pairOf_14 : decode cX12_pairOf 14 = .ok (.aload_n 0, 1) := by decide +kernel
theorem dX12_pairOf_15 : decode cX12_pairOf 15 = .ok (.getfield 19, 3) := by decide +kernel
theorem dX12_pairOf_18 : decode cX12_pairOf 18 = .ok (.bipush 118, 2) := by decide +kernel
theorem dX12_pairOf_20 : decode cX12_pairOf 20 = .ok (.iload_n 3, 1) := by decide +kernel
theorem dX12_pairOf_21 : decode cX12_pairOf 21 = .ok (.iadd, 1) := by decide +kernel
theorem dX12_pairOf_22 : decode cX12_pairOf 22 = .ok (.iaload, 1) := by decide +kernel
theorem dX12_pairOf_23 : decode cX12_pairOf 23 = .ok (.ifCond .le 12, 3) := by decide +kernel
theorem dX12_pairOf_26 : decode cX12_pairOf 26 = .ok (.iload_n 2, 1) := by decide +kernel
theorem dX12_pairOf_27 : decode cX12_pairOf 27 = .ok (.ifCond .ne 5, 3) := by decide +kernel
theorem dX12_pairOf_30 : decode cX12_pairOf 30 = .ok (.iload_n 3, 1) := by decide +kernel
theorem dX12_pairOf_31 : decode cX12_pairOf 31 = .ok (.ireturn, 1) := by decide +kernel
theorem dX12_pairOf_32 : decode cX12_pairOf 32 = .ok (.iinc 2 (-1), 3) := by decide +kernel
theorem dX12_pairOf_35 : decode cX12_pairOf 35 = .ok (.iinc 3 1, 3) := by decide +kernel
theorem dX12_pairOf_38 : decode cX12_pairOf 38 = .ok (.goto (-34), 3) := by decide +kernel
theorem dX12_pairOf_41 : decode cX12_pairOf 41 = .ok (.bipush (-9), 2) := by decide +kernel
theorem dX12_pairOf_43 : decode cX12_pairOf 43 = .ok (.ireturn, 1) := by decide +kernel
theorem dX12_type_0 : decode cX12_type 0 = .ok (.iload_n 1, 1) := by decide +kernel
theorem dX12_type_1 : decode cX12_type 1 = .ok (.iconst 0, 1) := by decide +kernel
theorem dX12_type_2 : decode cX12_type 2 = .ok (.sipush 255, 3) := by decide +kernel
theorem dX12_type_5 : decode cX12_type 5 = .ok (.invokestatic 58, 3) := by decide +kernel
theorem dX12_type_8 : decode cX12_type 8 = .ok (.ifCond .ne 5, 3) := by decide +kernel
theorem dX12_type_11 : decode cX12_type 11 = .ok (.iconst (-1), 1) := by decide +kernel
theorem dX12_type_12 : decode cX12_type 12 = .ok (.ireturn, 1) := by decide +kernel
theorem dX12_type_13 : decode cX12_type 13 = .ok (.aload_n 0, 1) := by decide +kernel
theorem dX12_type_14 : decode cX12_type 14 = .ok (.getfield 66, 3) := by decide +kernel
theorem dX12_type_17 : decode cX12_type 17 = .ok (.bipush 120, 2) := by decide +kernel
theorem dX12_type_19 : decode cX12_type 19 = .ok (.if_icmp .ne 6, 3) := by decide +kernel
theorem dX12_type_22 : decode cX12_type 22 = .ok (.bipush (-3), 2) := by decide +kernel
theorem dX12_type_24 : decode cX12_type 24 = .ok (.ireturn, 1) := by decide +kernel
theorem dX12_type_25 : decode cX12_type 25 = .ok (.aload_n 0, 1) := by decide +kernel
theorem dX12_type_26 : decode cX12_type 26 = .ok (.getfield 33, 3) := by decide +kernel
theorem dX12_type_29 : decode cX12_type 29 = .ok (.aload_n 0, 1) := by decide +kernel
theorem dX12_type_30 : decode cX12_type 30 = .ok (.getfield 66, 3) := by decide +kernel
theorem dX12_type_33 : decode cX12_type 33 = .ok (.iload_n 1, 1) := by decide +kernel
theorem dX12_type_34 : decode cX12_type 34 = .ok (.iastore, 1) := by decide +kernel
theorem dX12_type_35 : decode cX12_type 35 = .ok (.aload_n 0, 1) := by decide +kernel
theorem dX12_type_36 : decode cX12_type 36 = .ok (.dup, 1) := by decide +kernel
theorem dX12_type_37 : decode cX12_type 37 = .ok (.getfield 66, 3) := by decide +kernel
theorem dX12_type_40 : decode cX12_type 40 = .ok (.iconst 1, 1) := by decide +kernel
theorem dX12_type_41 : decode cX12_type 41 = .ok (.iadd, 1) := by decide +kernel
theorem dX12_type_42 : decode cX12_type 42 = .ok (.putfield 66, 3) := by decide +kernel
theorem dX12_type_45 : decode cX12_type 45 = .ok (.aload_n 0, 1) := by decide +kernel
theorem dX12_type_46 : decode cX12_type 46 = .ok (.getfield 66, 3) := by decide +kernel
theorem dX12_type_49 : decode cX12_type 49 = .ok (.ireturn, 1) := by decide +kernel
theorem dX12_clear_0 : decode cX12_clear 0 = .ok (.aload_n 0, 1) := by decide +kernel
theorem dX12_clear_1 : decode cX12_clear 1 = .ok (.getfield 66, 3) := by decide +kernel
theorem dX12_clear_4 : decode cX12_clear 4 = .ok (.istore_n 1, 1) := by decide +kernel
theorem dX12_clear_5 : decode cX12_clear 5 = .ok (.aload_n 0, 1) := by decide +kernel
theorem dX12_clear_6 : decode cX12_clear 6 = .ok (.iconst 0, 1) := by decide +kernel
theorem dX12_clear_7 : decode cX12_clear 7 = .ok (.putfield 66, 3) := by decide +kernel
theorem dX12_clear_10 : decode cX12_clear 10 = .ok (.iload_n 1, 1) := by decide +kernel
theorem dX12_clear_11 : decode cX12_clear 11 = .ok (.ireturn, 1) := by decide +kernel
theorem dX12_isFigure_0 : decode cX12_isFigure 0 = .ok (.aload_n 0, 1) := by decide +kernel
theorem dX12_isFigure_1 : decode cX12_isFigure 1 = .ok (.getfield 69, 3) := by decide +kernel
theorem dX12_isFigure_4 : decode cX12_isFigure 4 = .ok (.aload_n 0, 1) := by decide +kernel
theorem dX12_isFigure_5 : decode cX12_isFigure 5 = .ok (.getfield 66, 3) := by decide +kernel
theorem dX12_isFigure_8 : decode cX12_isFigure 8 = .ok (.if_icmp .ge 26, 3) := by decide +kernel
theorem dX12_isFigure_11 : decode cX12_isFigure 11 = .ok (.aload_n 0, 1) := by decide +kernel
theorem dX12_isFigure_12 : decode cX12_isFigure 12 = .ok (.getfield 33, 3) := by decide +kernel
theorem dX12_isFigure_15 : decode cX12_isFigure 15 = .ok (.aload_n 0, 1) := by decide +kernel
theorem dX12_isFigure_16 : decode cX12_isFigure 16 = .ok (.getfield 69, 3) := by decide +kernel
theorem dX12_isFigure_19 : decode cX12_isFigure 19 = .ok (.iaload, 1) := by decide +kernel
theorem dX12_isFigure_20 : decode cX12_isFigure 20 = .ok (.bipush 48, 2) := by decide +kernel
theorem dX12_isFigure_22 : decode cX12_isFigure 22 = .ok (.bipush 57, 2) := by decide +kernel
theorem dX12_isFigure_24 : decode cX12_isFigure 24 = .ok (.invokestatic 58, 3) := by decide +kernel
theorem dX12_isFigure_27 : decode cX12_isFigure 27 = .ok (.ifCond .eq 7, 3) := by decide +kernel
theorem dX12_isFigure_30 : decode cX12_isFigure 30 = .ok (.iconst 1, 1) := by decide +kernel
theorem dX12_isFigure_31 : decode cX12_isFigure 31 = .ok (.goto 4, 3) := by decide +kernel
theorem dX12_isFigure_34 : decode cX12_isFigure 34 = .ok (.iconst 0, 1) := by decide +kernel
theorem dX12_isFigure_35 : decode cX12_isFigure 35 = .ok (.ireturn, 1) := by decide +kernel
theorem dX12_blanks_0 : decode cX12_blanks 0 = .ok (.aload_n 0, 1) := by decide +kernel
theorem dX12_blanks_1 : decode cX12_blanks 1 = .ok (.getfield 69, 3) := by decide +kernel
theorem dX12_blanks_4 : decode cX12_blanks 4 = .ok (.aload_n 0, 1) := by decide +kernel
theorem dX12_blanks_5 : decode cX12_blanks 5 = .ok (.getfield 66, 3) := by decide +kernel
theorem dX12_blanks_8 : decode cX12_blanks 8 = .ok (.if_icmp .ge 30, 3) := by decide +kernel
theorem dX12_blanks_11 : decode cX12_blanks 11 = .ok (.aload_n 0, 1) := by decide +kernel
theorem dX12_blanks_12 : decode cX12_blanks 12 = .ok (.getfield 33, 3) := by decide +kernel
theorem dX12_blanks_15 : decode cX12_blanks 15 = .ok (.aload_n 0, 1) := by decide +kernel
theorem dX12_blanks_16 : decode cX12_blanks 16 = .ok (.getfield 69, 3) := by decide +kernel
theorem dX12_blanks_19 : decode cX12_blanks 19 = .ok (.iaload, 1) := by decide +kernel
theorem dX12_blanks_20 : decode cX12_blanks 20 = .ok (.bipush 32, 2) := by decide +kernel
theorem dX12_blanks_22 : decode cX12_blanks 22 = .ok (.if_icmp .ne 16, 3) := by decide +kernel
theorem dX12_blanks_25 : decode cX12_blanks 25 = .ok (.aload_n 0, 1) := by decide +kernel
theorem dX12_blanks_26 : decode cX12_blanks 26 = .ok (.dup, 1) := by decide +kernel
theorem dX12_blanks_27 : decode cX12_blanks 27 = .ok (.getfield 69, 3) := by decide +kernel
theorem dX12_blanks_30 : decode cX12_blanks 30 = .ok (.iconst 1, 1) := by decide +kernel
theorem dX12_blanks_31 : decode cX12_blanks 31 = .ok (.iadd, 1) := by decide +kernel
theorem dX12_blanks_32 : decode cX12_blanks 32 = .ok (.putfield 69, 3) := by decide +kernel
theorem dX12_blanks_35 : decode cX12_blanks 35 = .ok (.goto (-35), 3) := by decide +kernel
theorem dX12_blanks_38 : decode cX12_blanks 38 = .ok (.return_, 1) := by decide +kernel
theorem dX12_next_0 : decode cX12_next 0 = .ok (.aload_n 0, 1) := by decide +kernel
theorem dX12_next_1 : decode cX12_next 1 = .ok (.invokevirtual 72, 3) := by decide +kernel
theorem dX12_next_4 : decode cX12_next 4 = .ok (.aload_n 0, 1) := by decide +kernel
theorem dX12_next_5 : decode cX12_next 5 = .ok (.aload_n 0, 1) := by decide +kernel
theorem dX12_next_6 : decode cX12_next 6 = .ok (.getfield 69, 3) := by decide +kernel
theorem dX12_next_9 : decode cX12_next 9 = .ok (.putfield 75, 3) := by decide +kernel
theorem dX12_next_12 : decode cX12_next 12 = .ok (.aload_n 0, 1) := by decide +kernel
theorem dX12_next_13 : decode cX12_next 13 = .ok (.getfield 69, 3) := by decide +kernel
theorem dX12_next_16 : decode cX12_next 16 = .ok (.aload_n 0, 1) := by decide +kernel
theorem dX12_next_17 : decode cX12_next 17 = .ok (.getfield 66, 3) := by decide +kernel
theorem dX12_next_20 : decode cX12_next 20 = .ok (.if_icmp .ne 11, 3) := by decide +kernel
theorem dX12_next_23 : decode cX12_next 23 = .ok (.aload_n 0, 1) := by decide +kernel
theorem dX12_next_24 : decode cX12_next 24 = .ok (.iconst (-1), 1) := by decide +kernel
theorem dX12_next_25 : decode cX12_next 25 = .ok (.putfield 78, 3) := by decide +kernel
theorem dX12_next_28 : decode cX12_next 28 = .ok (.goto 142, 3) := by decide +kernel
theorem dX12_next_31 : decode cX12_next 31 = .ok (.aload_n 0, 1) := by decide +kernel
theorem dX12_next_32 : decode cX12_next 32 = .ok (.invokevirtual 81, 3) := by decide +kernel
theorem dX12_next_35 : decode cX12_next 35 = .ok (.ifCond .eq 112, 3) := by decide +kernel
theorem dX12_next_38 : decode cX12_next 38 = .ok (.iconst 0, 1) := by decide +kernel
theorem dX12_next_39 : decode cX12_next 39 = .ok (.istore_n 1, 1) := by decide +kernel
theorem dX12_next_40 : decode cX12_next 40 = .ok (.aload_n 0, 1) := by decide +kernel
theorem dX12_next_41 : decode cX12_next 41 = .ok (.invokevirtual 81, 3) := by decide +kernel
theorem dX12_next_44 : decode cX12_next 44 = .ok (.ifCond .eq 52, 3) := by decide +kernel
theorem dX12_next_47 : decode cX12_next 47 = .ok (.aload_n 0, 1) := by decide +kernel
theorem dX12_next_48 : decode cX12_next 48 = .ok (.getfield 69, 3) := by decide +kernel
theorem dX12_next_51 : decode cX12_next 51 = .ok (.aload_n 0, 1) := by decide +kernel
theorem dX12_next_52 : decode cX12_next 52 = .ok (.getfield 75, 3) := by decide +kernel
theorem dX12_next_55 : decode cX12_next 55 = .ok (.isub, 1) := by decide +kernel
theorem dX12_next_56 : decode cX12_next 56 = .ok (.iconst 2, 1) := by decide +kernel
theorem dX12_next_57 : decode cX12_next 57 = .ok (.if_icmp .ge 23, 3) := by decide +kernel
theorem dX12_next_60 : decode cX12_next 60 = .ok (.bipush 10, 2) := by decide +kernel
theorem dX12_next_62 : decode cX12_next 62 = .ok (.iload_n 1, 1) := by decide +kernel
theorem dX12_next_63 : decode cX12_next 63 = .ok (.imul, 1) := by decide +kernel
theorem dX12_next_64 : decode cX12_next 64 = .ok (.aload_n 0, 1) := by decide +kernel
theorem dX12_next_65 : decode cX12_next 65 = .ok (.getfield 33, 3) := by decide +kernel
theorem dX12_next_68 : decode cX12_next 68 = .ok (.aload_n 0, 1) := by decide +kernel
theorem dX12_next_69 : decode cX12_next 69 = .ok (.getfield 69, 3) := by decide +kernel
theorem dX12_next_72 : decode cX12_next 72 = .ok (.iaload, 1) := by decide +kernel
theorem dX12_next_73 : decode cX12_next 73 = .ok (.iadd, 1) := by decide +kernel
theorem dX12_next_74 : decode cX12_next 74 = .ok (.bipush 48, 2) := by decide +kernel
theorem dX12_next_76 : decode cX12_next 76 = .ok (.isub, 1) := by decide +kernel
theorem dX12_next_77 : decode cX12_next 77 = .ok (.goto 5, 3) := by decide +kernel
theorem dX12_next_80 : decode cX12_next 80 = .ok (.bipush 100, 2) := by decide +kernel
theorem dX12_next_82 : decode cX12_next 82 = .ok (.istore_n 1, 1) := by decide +kernel
theorem dX12_next_83 : decode cX12_next 83 = .ok (.aload_n 0, 1) := by decide +kernel
theorem dX12_next_84 : decode cX12_next 84 = .ok (.dup, 1) := by decide +kernel
theorem dX12_next_85 : decode cX12_next 85 = .ok (.getfield 69, 3) := by decide +kernel
theorem dX12_next_88 : decode cX12_next 88 = .ok (.iconst 1, 1) := by decide +kernel
theorem dX12_next_89 : decode cX12_next 89 = .ok (.iadd, 1) := by decide +kernel
theorem dX12_next_90 : decode cX12_next 90 = .ok (.putfield 69, 3) := by decide +kernel
theorem dX12_next_93 : decode cX12_next 93 = .ok (.goto (-53), 3) := by decide +kernel
theorem dX12_next_96 : decode cX12_next 96 = .ok (.aload_n 0, 1) := by decide +kernel
theorem dX12_next_97 : decode cX12_next 97 = .ok (.iload_n 1, 1) := by decide +kernel
theorem dX12_next_98 : decode cX12_next 98 = .ok (.bipush 99, 2) := by decide +kernel
theorem dX12_next_100 : decode cX12_next 100 = .ok (.if_icmp .gt 30, 3) := by decide +kernel
theorem dX12_next_103 : decode cX12_next 103 = .ok (.aload_n 0, 1) := by decide +kernel
theorem dX12_next_104 : decode cX12_next 104 = .ok (.getfield 33, 3) := by decide +kernel
theorem dX12_next_107 : decode cX12_next 107 = .ok (.aload_n 0, 1) := by decide +kernel
theorem dX12_next_108 : decode cX12_next 108 = .ok (.getfield 75, 3) := by decide +kernel
theorem dX12_next_111 : decode cX12_next 111 = .ok (.iaload, 1) := by decide +kernel
theorem dX12_next_112 : decode cX12_next 112 = .ok (.bipush 48, 2) := by decide +kernel
theorem dX12_next_114 : decode cX12_next 114 = .ok (.if_icmp .ne 22, 3) := by decide +kernel
theorem dX12_next_117 : decode cX12_next 117 = .ok (.aload_n 0, 1) := by decide +kernel
theorem dX12_next_118 : decode cX12_next 118 = .ok (.getfield 69, 3) := by decide +kernel
theorem dX12_next_121 : decode cX12_next 121 = .ok (.aload_n 0, 1) := by decide +kernel
theorem dX12_next_122 : decode cX12_next 122 = .ok (.getfield 75, 3) := by decide +kernel
theorem dX12_next_125 : decode cX12_next 125 = .ok (.isub, 1) := by decide +kernel
theorem dX12_next_126 : decode cX12_next 126 = .ok (.iconst 1, 1) := by decide +kernel
theorem dX12_next_127 : decode cX12_next 127 = .ok (.if_icmp .le 9, 3) := by decide +kernel
theorem dX12_next_130 : decode cX12_next 130 = .ok (.sipush 2000, 3) := by decide +kernel
theorem dX12_next_133 : decode cX12_next 133 = .ok (.goto 8, 3) := by decide +kernel
theorem dX12_next_136 : decode cX12_next 136 = .ok (.sipush 1000, 3) := by decide +kernel
theorem dX12_next_139 : decode cX12_next 139 = .ok (.iload_n 1, 1) := by decide +kernel
theorem dX12_next_140 : decode cX12_next 140 = .ok (.iadd, 1) := by decide +kernel
theorem dX12_next_141 : decode cX12_next 141 = .ok (.putfield 78, 3) := by decide +kernel
theorem dX12_next_144 : decode cX12_next 144 = .ok (.goto 26, 3) := by decide +kernel
theorem dX12_next_147 : decode cX12_next 147 = .ok (.aload_n 0, 1) := by decide +kernel
theorem dX12_next_148 : decode cX12_next 148 = .ok (.aload_n 0, 1) := by decide +kernel
theorem dX12_next_149 : decode cX12_next 149 = .ok (.getfield 33, 3) := by decide +kernel
theorem dX12_next_152 : decode cX12_next 152 = .ok (.aload_n 0, 1) := by decide +kernel
theorem dX12_next_153 : decode cX12_next 153 = .ok (.getfield 69, 3) := by decide +kernel
theorem dX12_next_156 : decode cX12_next 156 = .ok (.iaload, 1) := by decide +kernel
theorem dX12_next_157 : decode cX12_next 157 = .ok (.putfield 78, 3) := by decide +kernel
theorem dX12_next_160 : decode cX12_next 160 = .ok (.aload_n 0, 1) := by decide +kernel
theorem dX12_next_161 : decode cX12_next 161 = .ok (.dup, 1) := by decide +kernel
theorem dX12_next_162 : decode cX12_next 162 = .ok (.getfield 69, 3) := by decide +kernel
theorem dX12_next_165 : decode cX12_next 165 = .ok (.iconst 1, 1) := by decide +kernel
theorem dX12_next_166 : decode cX12_next 166 = .ok (.iadd, 1) := by decide +kernel
theorem dX12_next_167 : decode cX12_next 167 = .ok (.putfield 69, 3) := by decide +kernel
theorem dX12_next_170 : decode cX12_next 170 = .ok (.return_, 1) := by decide +kernel
theorem dX12_isNumber_0 : decode cX12_isNumber 0 = .ok (.aload_n 0, 1) := by decide +kernel
theorem dX12_isNumber_1 : decode cX12_isNumber 1 = .ok (.invokevirtual 85, 3) := by decide +kernel
theorem dX12_isNumber_4 : decode cX12_isNumber 4 = .ok (.aload_n 0, 1) := by decide +kernel
theorem dX12_isNumber_5 : decode cX12_isNumber 5 = .ok (.getfield 78, 3) := by decide +kernel
theorem dX12_isNumber_8 : decode cX12_isNumber 8 = .ok (.sipush 1000, 3) := by decide +kernel
theorem dX12_isNumber_11 : decode cX12_isNumber 11 = .ok (.iload_n 1, 1) := by decide +kernel
theorem dX12_isNumber_12 : decode cX12_isNumber 12 = .ok (.iadd, 1) := by decide +kernel
theorem dX12_isNumber_13 : decode cX12_isNumber 13 = .ok (.sipush 1000, 3) := by decide +kernel
theorem dX12_isNumber_16 : decode cX12_isNumber 16 = .ok (.iload_n 2, 1) := by decide +kernel
theorem dX12_isNumber_17 : decode cX12_isNumber 17 = .ok (.iadd, 1) := by decide +kernel
theorem dX12_isNumber_18 : decode cX12_isNumber 18 = .ok (.invokestatic 58, 3) := by decide +kernel
theorem dX12_isNumber_21 : decode cX12_isNumber 21 = .ok (.ireturn, 1) := by decide +kernel
theorem dX12_readsLink_0 : decode cX12_readsLink 0 = .ok (.aload_n 0, 1) := by decide +kernel
theorem dX12_readsLink_1 : decode cX12_readsLink 1 = .ok (.getfield 88, 3) := by decide +kernel
theorem dX12_readsLink_4 : decode cX12_readsLink 4 = .ok (.bipush 10, 2) := by decide +kernel
theorem dX12_readsLink_6 : decode cX12_readsLink 6 = .ok (.if_icmp .eq 17, 3) := by decide +kernel
theorem dX12_readsLink_9 : decode cX12_readsLink 9 = .ok (.aload_n 0, 1) := by decide +kernel
theorem dX12_readsLink_10 : decode cX12_readsLink 10 = .ok (.iconst 0, 1) := by decide +kernel
theorem dX12_readsLink_11 : decode cX12_readsLink 11 = .ok (.aload_n 0, 1) := by decide +kernel
theorem dX12_readsLink_12 : decode cX12_readsLink 12 = .ok (.getfield 91, 3) := by decide +kernel
theorem dX12_readsLink_15 : decode cX12_readsLink 15 = .ok (.iconst 1, 1) := by decide +kernel
theorem dX12_readsLink_16 : decode cX12_readsLink 16 = .ok (.isub, 1) := by decide +kernel
theorem dX12_readsLink_17 : decode cX12_readsLink 17 = .ok (.invokevirtual 94, 3) := by decide +kernel
theorem dX12_readsLink_20 : decode cX12_readsLink 20 = .ok (.ifCond .ne 5, 3) := by decide +kernel
theorem dX12_readsLink_23 : decode cX12_readsLink 23 = .ok (.iconst 0, 1) := by decide +kernel
theorem dX12_readsLink_24 : decode cX12_readsLink 24 = .ok (.ireturn, 1) := by decide +kernel
theorem dX12_readsLink_25 : decode cX12_readsLink 25 = .ok (.aload_n 0, 1) := by decide +kernel
theorem dX12_readsLink_26 : decode cX12_readsLink 26 = .ok (.getfield 78, 3) := by decide +kernel
theorem dX12_readsLink_29 : decode cX12_readsLink 29 = .ok (.sipush 1000, 3) := by decide +kernel
theorem dX12_readsLink_32 : decode cX12_readsLink 32 = .ok (.isub, 1) := by decide +kernel
theorem dX12_readsLink_33 : decode cX12_readsLink 33 = .ok (.istore_n 1, 1) := by decide +kernel
theorem dX12_readsLink_34 : decode cX12_readsLink 34 = .ok (.aload_n 0, 1) := by decide +kernel
theorem dX12_readsLink_35 : decode cX12_readsLink 35 = .ok (.iconst 0, 1) := by decide +kernel
theorem dX12_readsLink_36 : decode cX12_readsLink 36 = .ok (.aload_n 0, 1) := by decide +kernel
theorem dX12_readsLink_37 : decode cX12_readsLink 37 = .ok (.getfield 91, 3) := by decide +kernel
theorem dX12_readsLink_40 : decode cX12_readsLink 40 = .ok (.iconst 1, 1) := by decide +kernel
theorem dX12_readsLink_41 : decode cX12_readsLink 41 = .ok (.isub, 1) := by decide +kernel
theorem dX12_readsLink_42 : decode cX12_readsLink 42 = .ok (.invokevirtual 94, 3) := by decide +kernel
theorem dX12_readsLink_45 : decode cX12_readsLink 45 = .ok (.ifCond .eq 35, 3) := by decide +kernel
theorem dX12_readsLink_48 : decode cX12_readsLink 48 = .ok (.aload_n 0, 1) := by decide +kernel
theorem dX12_readsLink_49 : decode cX12_readsLink 49 = .ok (.getfield 78, 3) := by decide +kernel
theorem dX12_readsLink_52 : decode cX12_readsLink 52 = .ok (.sipush 1000, 3) := by decide +kernel
theorem dX12_readsLink_55 : decode cX12_readsLink 55 = .ok (.isub, 1) := by decide +kernel
theorem dX12_readsLink_56 : decode cX12_readsLink 56 = .ok (.iload_n 1, 1) := by decide +kernel
theorem dX12_readsLink_57 : decode cX12_readsLink 57 = .ok (.if_icmp .eq 23, 3) := by decide +kernel
theorem dX12_readsLink_60 : decode cX12_readsLink 60 = .ok (.aload_n 0, 1) := by decide +kernel
theorem dX12_readsLink_61 : decode cX12_readsLink 61 = .ok (.getfield 36, 3) := by decide +kernel
theorem dX12_readsLink_64 : decode cX12_readsLink 64 = .ok (.iload_n 1, 1) := by decide +kernel
theorem dX12_readsLink_65 : decode cX12_readsLink 65 = .ok (.aload_n 0, 1) := by decide +kernel
theorem dX12_readsLink_66 : decode cX12_readsLink 66 = .ok (.getfield 78, 3) := by decide +kernel
theorem dX12_readsLink_69 : decode cX12_readsLink 69 = .ok (.sipush 1000, 3) := by decide +kernel
theorem dX12_readsLink_72 : decode cX12_readsLink 72 = .ok (.isub, 1) := by decide +kernel
theorem dX12_readsLink_73 : decode cX12_readsLink 73 = .ok (.invokestatic 62, 3) := by decide +kernel
theorem dX12_readsLink_76 : decode cX12_readsLink 76 = .ok (.iaload, 1) := by decide +kernel
theorem dX12_readsLink_77 : decode cX12_readsLink 77 = .ok (.ifCond .le 5, 3) := by decide +kernel
theorem dX12_readsLink_80 : decode cX12_readsLink 80 = .ok (.iconst 0, 1) := by decide +kernel
theorem dX12_readsLink_81 : decode cX12_readsLink 81 = .ok (.ireturn, 1) := by decide +kernel
theorem dX12_readsLink_82 : decode cX12_readsLink 82 = .ok (.aload_n 0, 1) := by decide +kernel
theorem dX12_readsLink_83 : decode cX12_readsLink 83 = .ok (.getfield 78, 3) := by decide +kernel
theorem dX12_readsLink_86 : decode cX12_readsLink 86 = .ok (.sipush 1000, 3) := by decide +kernel
theorem dX12_readsLink_89 : decode cX12_readsLink 89 = .ok (.isub, 1) := by decide +kernel
theorem dX12_readsLink_90 : decode cX12_readsLink 90 = .ok (.istore_n 2, 1) := by decide +kernel
theorem dX12_readsLink_91 : decode cX12_readsLink 91 = .ok (.aload_n 0, 1) := by decide +kernel
theorem dX12_readsLink_92 : decode cX12_readsLink 92 = .ok (.iconst 1, 1) := by decide +kernel
theorem dX12_readsLink_93 : decode cX12_readsLink 93 = .ok (.bipush 9, 2) := by decide +kernel
theorem dX12_readsLink_95 : decode cX12_readsLink 95 = .ok (.invokevirtual 94, 3) := by decide +kernel
theorem dX12_readsLink_98 : decode cX12_readsLink 98 = .ok (.ifCond .ne 5, 3) := by decide +kernel
theorem dX12_readsLink_101 : decode cX12_readsLink 101 = .ok (.iconst 0, 1) := by decide +kernel
theorem dX12_readsLink_102 : decode cX12_readsLink 102 = .ok (.ireturn, 1) := by decide +kernel
theorem dX12_readsLink_103 : decode cX12_readsLink 103 = .ok (.aload_n 0, 1) := by decide +kernel
theorem dX12_readsLink_104 : decode cX12_readsLink 104 = .ok (.getfield 36, 3) := by decide +kernel
theorem dX12_readsLink_107 : decode cX12_readsLink 107 = .ok (.iload_n 1, 1) := by decide +kernel
theorem dX12_readsLink_108 : decode cX12_readsLink 108 = .ok (.iload_n 2, 1) := by decide +kernel
theorem dX12_readsLink_109 : decode cX12_readsLink 109 = .ok (.invokestatic 62, 3) := by decide +kernel
theorem dX12_readsLink_112 : decode cX12_readsLink 112 = .ok (.aload_n 0, 1) := by decide +kernel
theorem dX12_readsLink_113 : decode cX12_readsLink 113 = .ok (.getfield 78, 3) := by decide +kernel
theorem dX12_readsLink_116 : decode cX12_readsLink 116 = .ok (.sipush 1000, 3) := by decide +kernel
theorem dX12_readsLink_119 : decode cX12_readsLink 119 = .ok (.isub, 1) := by decide +kernel
theorem dX12_readsLink_120 : decode cX12_readsLink 120 = .ok (.iastore, 1) := by decide +kernel
theorem dX12_readsLink_121 : decode cX12_readsLink 121 = .ok (.aload_n 0, 1) := by decide +kernel
theorem dX12_readsLink_122 : decode cX12_readsLink 122 = .ok (.dup, 1) := by decide +kernel
theorem dX12_readsLink_123 : decode cX12_readsLink 123 = .ok (.getfield 88, 3) := by decide +kernel
theorem dX12_readsLink_126 : decode cX12_readsLink 126 = .ok (.iconst 1, 1) := by decide +kernel
theorem dX12_readsLink_127 : decode cX12_readsLink 127 = .ok (.iadd, 1) := by decide +kernel
theorem dX12_readsLink_128 : decode cX12_readsLink 128 = .ok (.putfield 88, 3) := by decide +kernel
theorem dX12_readsLink_131 : decode cX12_readsLink 131 = .ok (.iconst 1, 1) := by decide +kernel
theorem dX12_readsLink_132 : decode cX12_readsLink 132 = .ok (.ireturn, 1) := by decide +kernel
theorem dX12_readsItem_0 : decode cX12_readsItem 0 = .ok (.aload_n 0, 1) := by decide +kernel
theorem dX12_readsItem_1 : decode cX12_readsItem 1 = .ok (.invokevirtual 85, 3) := by decide +kernel
theorem dX12_readsItem_4 : decode cX12_readsItem 4 = .ok (.iconst 1, 1) := by decide +kernel
theorem dX12_readsItem_5 : decode cX12_readsItem 5 = .ok (.istore_n 2, 1) := by decide +kernel
theorem dX12_readsItem_6 : decode cX12_readsItem 6 = .ok (.aload_n 0, 1) := by decide +kernel
theorem dX12_readsItem_7 : decode cX12_readsItem 7 = .ok (.getfield 78, 3) := by decide +kernel
theorem dX12_readsItem_10 : decode cX12_readsItem 10 = .ok (.tableswitch 278 97 120 #[209, 278, 278, 278, 156, 255, 278, 187, 278, 278, 278, 232, 278, 110, 278, 278, 278, 278, 278, 278, 278, 278, 278, 164], 110) := by decide +kernel
theorem dX12_readsItem_120 : decode cX12_readsItem 120 = .ok (.iload_n 1, 1) := by decide +kernel
theorem dX12_readsItem_121 : decode cX12_readsItem 121 = .ok (.ifCond .ne 17, 3) := by decide +kernel
theorem dX12_readsItem_124 : decode cX12_readsItem 124 = .ok (.aload_n 0, 1) := by decide +kernel
theorem dX12_readsItem_125 : decode cX12_readsItem 125 = .ok (.iconst 2, 1) := by decide +kernel
theorem dX12_readsItem_126 : decode cX12_readsItem 126 = .ok (.bipush 6, 2) := by decide +kernel
theorem dX12_readsItem_128 : decode cX12_readsItem 128 = .ok (.invokevirtual 94, 3) := by decide +kernel
theorem dX12_readsItem_131 : decode cX12_readsItem 131 = .ok (.ifCond .eq 7, 3) := by decide +kernel
theorem dX12_readsItem_134 : decode cX12_readsItem 134 = .ok (.iconst 1, 1) := by decide +kernel
theorem dX12_readsItem_135 : decode cX12_readsItem 135 = .ok (.goto 4, 3) := by decide +kernel
theorem dX12_readsItem_138 : decode cX12_readsItem 138 = .ok (.iconst 0, 1) := by decide +kernel
theorem dX12_readsItem_139 : decode cX12_readsItem 139 = .ok (.istore_n 2, 1) := by decide +kernel
theorem dX12_readsItem_140 : decode cX12_readsItem 140 = .ok (.aload_n 0, 1) := by decide +kernel
theorem dX12_readsItem_141 : decode cX12_readsItem 141 = .ok (.iload_n 2, 1) := by decide +kernel
theorem dX12_readsItem_142 : decode cX12_readsItem 142 = .ok (.ifCond .eq 14, 3) := by decide +kernel
theorem dX12_readsItem_145 : decode cX12_readsItem 145 = .ok (.aload_n 0, 1) := by decide +kernel
theorem dX12_readsItem_146 : decode cX12_readsItem 146 = .ok (.getfield 78, 3) := by decide +kernel
theorem dX12_readsItem_149 : decode cX12_readsItem 149 = .ok (.sipush 1000, 3) := by decide +kernel
theorem dX12_readsItem_152 : decode cX12_readsItem 152 = .ok (.isub, 1) := by decide +kernel
theorem dX12_readsItem_153 : decode cX12_readsItem 153 = .ok (.goto 7, 3) := by decide +kernel
theorem dX12_readsItem_156 : decode cX12_readsItem 156 = .ok (.aload_n 0, 1) := by decide +kernel
theorem dX12_readsItem_157 : decode cX12_readsItem 157 = .ok (.getfield 91, 3) := by decide +kernel
theorem dX12_readsItem_160 : decode cX12_readsItem 160 = .ok (.putfield 91, 3) := by decide +kernel
theorem dX12_readsItem_163 : decode cX12_readsItem 163 = .ok (.goto 127, 3) := by decide +kernel
theorem dX12_readsItem_166 : decode cX12_readsItem 166 = .ok (.aload_n 0, 1) := by decide +kernel
theorem dX12_readsItem_167 : decode cX12_readsItem 167 = .ok (.invokevirtual 98, 3) := by decide +kernel
theorem dX12_readsItem_170 : decode cX12_readsItem 170 = .ok (.istore_n 2, 1) := by decide +kernel
theorem dX12_readsItem_171 : decode cX12_readsItem 171 = .ok (.goto 119, 3) := by decide +kernel
theorem dX12_readsItem_174 : decode cX12_readsItem 174 = .ok (.aload_n 0, 1) := by decide +kernel
theorem dX12_readsItem_175 : decode cX12_readsItem 175 = .ok (.iconst 0, 1) := by decide +kernel
theorem dX12_readsItem_176 : decode cX12_readsItem 176 = .ok (.bipush 9, 2) := by decide +kernel
theorem dX12_readsItem_178 : decode cX12_readsItem 178 = .ok (.invokevirtual 94, 3) := by decide +kernel
theorem dX12_readsItem_181 : decode cX12_readsItem 181 = .ok (.istore_n 2, 1) := by decide +kernel
theorem dX12_readsItem_182 : decode cX12_readsItem 182 = .ok (.aload_n 0, 1) := by decide +kernel
theorem dX12_readsItem_183 : decode cX12_readsItem 183 = .ok (.aload_n 0, 1) := by decide +kernel
theorem dX12_readsItem_184 : decode cX12_readsItem 184 = .ok (.getfield 78, 3) := by decide +kernel
theorem dX12_readsItem_187 : decode cX12_readsItem 187 = .ok (.sipush 1000, 3) := by decide +kernel
theorem dX12_readsItem_190 : decode cX12_readsItem 190 = .ok (.isub, 1) := by decide +kernel
theorem dX12_readsItem_191 : decode cX12_readsItem 191 = .ok (.putfield 101, 3) := by decide +kernel
theorem dX12_readsItem_194 : decode cX12_readsItem 194 = .ok (.goto 96, 3) := by decide +kernel
theorem dX12_readsItem_197 : decode cX12_readsItem 197 = .ok (.aload_n 0, 1) := by decide +kernel
theorem dX12_readsItem_198 : decode cX12_readsItem 198 = .ok (.iconst 0, 1) := by decide +kernel
theorem dX12_readsItem_199 : decode cX12_readsItem 199 = .ok (.iconst 3, 1) := by decide +kernel
theorem dX12_readsItem_200 : decode cX12_readsItem 200 = .ok (.invokevirtual 94, 3) := by decide +kernel
theorem dX12_readsItem_203 : decode cX12_readsItem 203 = .ok (.istore_n 2, 1) := by decide +kernel
theorem dX12_readsItem_204 : decode cX12_readsItem 204 = .ok (.aload_n 0, 1) := by decide +kernel
theorem dX12_readsItem_205 : decode cX12_readsItem 205 = .ok (.aload_n 0, 1) := by decide +kernel
theorem dX12_readsItem_206 : decode cX12_readsItem 206 = .ok (.getfield 78, 3) := by decide +kernel
theorem dX12_readsItem_209 : decode cX12_readsItem 209 = .ok (.sipush 1000, 3) := by decide +kernel
theorem dX12_readsItem_212 : decode cX12_readsItem 212 = .ok (.isub, 1) := by decide +kernel
theorem dX12_readsItem_213 : decode cX12_readsItem 213 = .ok (.putfield 104, 3) := by decide +kernel
theorem dX12_readsItem_216 : decode cX12_readsItem 216 = .ok (.goto 74, 3) := by decide +kernel
theorem dX12_readsItem_219 : decode cX12_readsItem 219 = .ok (.aload_n 0, 1) := by decide +kernel
theorem dX12_readsItem_220 : decode cX12_readsItem 220 = .ok (.iconst 1, 1) := by decide +kernel
theorem dX12_readsItem_221 : decode cX12_readsItem 221 = .ok (.bipush 99, 2) := by decide +kernel
theorem dX12_readsItem_223 : decode cX12_readsItem 223 = .ok (.invokevirtual 94, 3) := by decide +kernel
theorem dX12_readsItem_226 : decode cX12_readsItem 226 = .ok (.istore_n 2, 1) := by decide +kernel
theorem dX12_readsItem_227 : decode cX12_readsItem 227 = .ok (.aload_n 0, 1) := by decide +kernel
theorem dX12_readsItem_228 : decode cX12_readsItem 228 = .ok (.aload_n 0, 1) := by decide +kernel
theorem dX12_readsItem_229 : decode cX12_readsItem 229 = .ok (.getfield 78, 3) := by decide +kernel
theorem dX12_readsItem_232 : decode cX12_readsItem 232 = .ok (.sipush 1000, 3) := by decide +kernel
theorem dX12_readsItem_235 : decode cX12_readsItem 235 = .ok (.isub, 1) := by decide +kernel
theorem dX12_readsItem_236 : decode cX12_readsItem 236 = .ok (.putfield 107, 3) := by decide +kernel
theorem dX12_readsItem_239 : decode cX12_readsItem 239 = .ok (.goto 51, 3) := by decide +kernel
theorem dX12_readsItem_242 : decode cX12_readsItem 242 = .ok (.aload_n 0, 1) := by decide +kernel
theorem dX12_readsItem_243 : decode cX12_readsItem 243 = .ok (.iconst 1, 1) := by decide +kernel
theorem dX12_readsItem_244 : decode cX12_readsItem 244 = .ok (.bipush 99, 2) := by decide +kernel
theorem dX12_readsItem_246 : decode cX12_readsItem 246 = .ok (.invokevirtual 94, 3) := by decide +kernel
theorem dX12_readsItem_249 : decode cX12_readsItem 249 = .ok (.istore_n 2, 1) := by decide +kernel
theorem dX12_readsItem_250 : decode cX12_readsItem 250 = .ok (.aload_n 0, 1) := by decide +kernel
theorem dX12_readsItem_251 : decode cX12_readsItem 251 = .ok (.aload_n 0, 1) := by decide +kernel
theorem dX12_readsItem_252 : decode cX12_readsItem 252 = .ok (.getfield 78, 3) := by decide +kernel
theorem dX12_readsItem_255 : decode cX12_readsItem 255 = .ok (.sipush 1000, 3) := by decide +kernel
theorem dX12_readsItem_258 : decode cX12_readsItem 258 = .ok (.isub, 1) := by decide +kernel
theorem dX12_readsItem_259 : decode cX12_readsItem 259 = .ok (.putfield 110, 3) := by decide +kernel
theorem dX12_readsItem_262 : decode cX12_readsItem 262 = .ok (.goto 28, 3) := by decide +kernel
theorem dX12_readsItem_265 : decode cX12_readsItem 265 = .ok (.aload_n 0, 1) := by decide +kernel
theorem dX12_readsItem_266 : decode cX12_readsItem 266 = .ok (.iconst 0, 1) := by decide +kernel
theorem dX12_readsItem_267 : decode cX12_readsItem 267 = .ok (.bipush 99, 2) := by decide +kernel
theorem dX12_readsItem_269 : decode cX12_readsItem 269 = .ok (.invokevirtual 94, 3) := by decide +kernel
theorem dX12_readsItem_272 : decode cX12_readsItem 272 = .ok (.istore_n 2, 1) := by decide +kernel
theorem dX12_readsItem_273 : decode cX12_readsItem 273 = .ok (.aload_n 0, 1) := by decide +kernel
theorem dX12_readsItem_274 : decode cX12_readsItem 274 = .ok (.aload_n 0, 1) := by decide +kernel
theorem dX12_readsItem_275 : decode cX12_readsItem 275 = .ok (.getfield 78, 3) := by decide +kernel
theorem dX12_readsItem_278 : decode cX12_readsItem 278 = .ok (.sipush 1000, 3) := by decide +kernel
theorem dX12_readsItem_281 : decode cX12_readsItem 281 = .ok (.isub, 1) := by decide +kernel
theorem dX12_readsItem_282 : decode cX12_readsItem 282 = .ok (.putfield 113, 3) := by decide +kernel
theorem dX12_readsItem_285 : decode cX12_readsItem 285 = .ok (.goto 5, 3) := by decide +kernel
theorem dX12_readsItem_288 : decode cX12_readsItem 288 = .ok (.iconst 0, 1) := by decide +kernel
theorem dX12_readsItem_289 : decode cX12_readsItem 289 = .ok (.ireturn, 1) := by decide +kernel
theorem dX12_readsItem_290 : decode cX12_readsItem 290 = .ok (.iload_n 2, 1) := by decide +kernel
theorem dX12_readsItem_291 : decode cX12_readsItem 291 = .ok (.ifCond .ne 5, 3) := by decide +kernel
theorem dX12_readsItem_294 : decode cX12_readsItem 294 = .ok (.iconst 0, 1) := by decide +kernel
theorem dX12_readsItem_295 : decode cX12_readsItem 295 = .ok (.ireturn, 1) := by decide +kernel
theorem dX12_readsItem_296 : decode cX12_readsItem 296 = .ok (.aload_n 0, 1) := by decide +kernel
theorem dX12_readsItem_297 : decode cX12_readsItem 297 = .ok (.invokevirtual 85, 3) := by decide +kernel
theorem dX12_readsItem_300 : decode cX12_readsItem 300 = .ok (.aload_n 0, 1) := by decide +kernel
theorem dX12_readsItem_301 : decode cX12_readsItem 301 = .ok (.getfield 78, 3) := by decide +kernel
theorem dX12_readsItem_304 : decode cX12_readsItem 304 = .ok (.bipush 59, 2) := by decide +kernel
theorem dX12_readsItem_306 : decode cX12_readsItem 306 = .ok (.if_icmp .ne 7, 3) := by decide +kernel
theorem dX12_readsItem_309 : decode cX12_readsItem 309 = .ok (.iconst 1, 1) := by decide +kernel
theorem dX12_readsItem_310 : decode cX12_readsItem 310 = .ok (.goto 4, 3) := by decide +kernel
theorem dX12_readsItem_313 : decode cX12_readsItem 313 = .ok (.iconst 0, 1) := by decide +kernel
theorem dX12_readsItem_314 : decode cX12_readsItem 314 = .ok (.ireturn, 1) := by decide +kernel
theorem dX12_net_0 : decode cX12_net 0 = .ok (.aload_n 0, 1) := by decide +kernel
theorem dX12_net_1 : decode cX12_net 1 = .ok (.iconst 2, 1) := by decide +kernel
theorem dX12_net_2 : decode cX12_net 2 = .ok (.putfield 91, 3) := by decide +kernel
theorem dX12_net_5 : decode cX12_net 5 = .ok (.aload_n 0, 1) := by decide +kernel
theorem dX12_net_6 : decode cX12_net 6 = .ok (.iconst 0, 1) := by decide +kernel
theorem dX12_net_7 : decode cX12_net 7 = .ok (.putfield 101, 3) := by decide +kernel
theorem dX12_net_10 : decode cX12_net 10 = .ok (.aload_n 0, 1) := by decide +kernel
theorem dX12_net_11 : decode cX12_net 11 = .ok (.iconst 0, 1) := by decide +kernel
theorem dX12_net_12 : decode cX12_net 12 = .ok (.putfield 104, 3) := by decide +kernel
theorem dX12_net_15 : decode cX12_net 15 = .ok (.aload_n 0, 1) := by decide +kernel
theorem dX12_net_16 : decode cX12_net 16 = .ok (.bipush 99, 2) := by decide +kernel
theorem dX12_net_18 : decode cX12_net 18 = .ok (.putfield 107, 3) := by decide +kernel
theorem dX12_net_21 : decode cX12_net 21 = .ok (.aload_n 0, 1) := by decide +kernel
theorem dX12_net_22 : decode cX12_net 22 = .ok (.bipush 60, 2) := by decide +kernel
theorem dX12_net_24 : decode cX12_net 24 = .ok (.putfield 110, 3) := by decide +kernel
theorem dX12_net_27 : decode cX12_net 27 = .ok (.aload_n 0, 1) := by decide +kernel
theorem dX12_net_28 : decode cX12_net 28 = .ok (.iconst 0, 1) := by decide +kernel
theorem dX12_net_29 : decode cX12_net 29 = .ok (.putfield 113, 3) := by decide +kernel
theorem dX12_net_32 : decode cX12_net 32 = .ok (.aload_n 0, 1) := by decide +kernel
theorem dX12_net_33 : decode cX12_net 33 = .ok (.iconst 0, 1) := by decide +kernel
theorem dX12_net_34 : decode cX12_net 34 = .ok (.putfield 88, 3) := by decide +kernel
theorem dX12_net_37 : decode cX12_net 37 = .ok (.iconst 0, 1) := by decide +kernel
theorem dX12_net_38 : decode cX12_net 38 = .ok (.istore_n 1, 1) := by decide +kernel
theorem dX12_net_39 : decode cX12_net 39 = .ok (.iload_n 1, 1) := by decide +kernel
theorem dX12_net_40 : decode cX12_net 40 = .ok (.bipush 36, 2) := by decide +kernel
theorem dX12_net_42 : decode cX12_net 42 = .ok (.if_icmp .ge 16, 3) := by decide +kernel
theorem dX12_net_45 : decode cX12_net 45 = .ok (.aload_n 0, 1) := by decide +kernel
theorem dX12_net_46 : decode cX12_net 46 = .ok (.getfield 36, 3) := by decide +kernel
theorem dX12_net_49 : decode cX12_net 49 = .ok (.iload_n 1, 1) := by decide +kernel
theorem dX12_net_50 : decode cX12_net 50 = .ok (.iconst 0, 1) := by decide +kernel
theorem dX12_net_51 : decode cX12_net 51 = .ok (.iastore, 1) := by decide +kernel
theorem dX12_net_52 : decode cX12_net 52 = .ok (.iinc 1 1, 3) := by decide +kernel
theorem dX12_net_55 : decode cX12_net 55 = .ok (.goto (-16), 3) := by decide +kernel
theorem dX12_net_58 : decode cX12_net 58 = .ok (.aload_n 0, 1) := by decide +kernel
theorem dX12_net_59 : decode cX12_net 59 = .ok (.iconst 0, 1) := by decide +kernel
theorem dX12_net_60 : decode cX12_net 60 = .ok (.putfield 69, 3) := by decide +kernel
theorem dX12_net_63 : decode cX12_net 63 = .ok (.iconst 0, 1) := by decide +kernel
theorem dX12_net_64 : decode cX12_net 64 = .ok (.istore_n 1, 1) := by decide +kernel
theorem dX12_net_65 : decode cX12_net 65 = .ok (.aload_n 0, 1) := by decide +kernel
theorem dX12_net_66 : decode cX12_net 66 = .ok (.invokevirtual 72, 3) := by decide +kernel
theorem dX12_net_69 : decode cX12_net 69 = .ok (.aload_n 0, 1) := by decide +kernel
theorem dX12_net_70 : decode cX12_net 70 = .ok (.getfield 69, 3) := by decide +kernel
theorem dX12_net_73 : decode cX12_net 73 = .ok (.aload_n 0, 1) := by decide +kernel
theorem dX12_net_74 : decode cX12_net 74 = .ok (.getfield 66, 3) := by decide +kernel
theorem dX12_net_77 : decode cX12_net 77 = .ok (.if_icmp .ge 29, 3) := by decide +kernel
theorem dX12_net_80 : decode cX12_net 80 = .ok (.aload_n 0, 1) := by decide +kernel
theorem dX12_net_81 : decode cX12_net 81 = .ok (.iload_n 1, 1) := by decide +kernel
theorem dX12_net_82 : decode cX12_net 82 = .ok (.invokevirtual 116, 3) := by decide +kernel
theorem dX12_net_85 : decode cX12_net 85 = .ok (.ifCond .ne 11, 3) := by decide +kernel
theorem dX12_net_88 : decode cX12_net 88 = .ok (.bipush (-10), 2) := by decide +kernel
theorem dX12_net_90 : decode cX12_net 90 = .ok (.aload_n 0, 1) := by decide +kernel
theorem dX12_net_91 : decode cX12_net 91 = .ok (.getfield 75, 3) := by decide +kernel
theorem dX12_net_94 : decode cX12_net 94 = .ok (.isub, 1) := by decide +kernel
theorem dX12_net_95 : decode cX12_net 95 = .ok (.ireturn, 1) := by decide +kernel
theorem dX12_net_96 : decode cX12_net 96 = .ok (.iinc 1 1, 3) := by decide +kernel
theorem dX12_net_99 : decode cX12_net 99 = .ok (.aload_n 0, 1) := by decide +kernel
theorem dX12_net_100 : decode cX12_net 100 = .ok (.invokevirtual 72, 3) := by decide +kernel
theorem dX12_net_103 : decode cX12_net 103 = .ok (.goto (-34), 3) := by decide +kernel
theorem dX12_net_106 : decode cX12_net 106 = .ok (.aload_n 0, 1) := by decide +kernel
theorem dX12_net_107 : decode cX12_net 107 = .ok (.iconst 0, 1) := by decide +kernel
theorem dX12_net_108 : decode cX12_net 108 = .ok (.putfield 66, 3) := by decide +kernel
theorem dX12_net_111 : decode cX12_net 111 = .ok (.aload_n 0, 1) := by decide +kernel
theorem dX12_net_112 : decode cX12_net 112 = .ok (.aload_n 0, 1) := by decide +kernel
theorem dX12_net_113 : decode cX12_net 113 = .ok (.getfield 91, 3) := by decide +kernel
theorem dX12_net_116 : decode cX12_net 116 = .ok (.putfield 7, 3) := by decide +kernel
theorem dX12_net_119 : decode cX12_net 119 = .ok (.aload_n 0, 1) := by decide +kernel
theorem dX12_net_120 : decode cX12_net 120 = .ok (.aload_n 0, 1) := by decide +kernel
theorem dX12_net_121 : decode cX12_net 121 = .ok (.getfield 101, 3) := by decide +kernel
theorem dX12_net_124 : decode cX12_net 124 = .ok (.putfield 120, 3) := by decide +kernel
theorem dX12_net_127 : decode cX12_net 127 = .ok (.aload_n 0, 1) := by decide +kernel
theorem dX12_net_128 : decode cX12_net 128 = .ok (.aload_n 0, 1) := by decide +kernel
theorem dX12_net_129 : decode cX12_net 129 = .ok (.getfield 104, 3) := by decide +kernel
theorem dX12_net_132 : decode cX12_net 132 = .ok (.putfield 123, 3) := by decide +kernel
theorem dX12_net_135 : decode cX12_net 135 = .ok (.aload_n 0, 1) := by decide +kernel
theorem dX12_net_136 : decode cX12_net 136 = .ok (.aload_n 0, 1) := by decide +kernel
theorem dX12_net_137 : decode cX12_net 137 = .ok (.getfield 107, 3) := by decide +kernel
theorem dX12_net_140 : decode cX12_net 140 = .ok (.putfield 13, 3) := by decide +kernel
theorem dX12_net_143 : decode cX12_net 143 = .ok (.aload_n 0, 1) := by decide +kernel
theorem dX12_net_144 : decode cX12_net 144 = .ok (.aload_n 0, 1) := by decide +kernel
theorem dX12_net_145 : decode cX12_net 145 = .ok (.getfield 110, 3) := by decide +kernel
theorem dX12_net_148 : decode cX12_net 148 = .ok (.putfield 16, 3) := by decide +kernel
theorem dX12_net_151 : decode cX12_net 151 = .ok (.aload_n 0, 1) := by decide +kernel
theorem dX12_net_152 : decode cX12_net 152 = .ok (.aload_n 0, 1) := by decide +kernel
theorem dX12_net_153 : decode cX12_net 153 = .ok (.getfield 113, 3) := by decide +kernel
theorem dX12_net_156 : decode cX12_net 156 = .ok (.putfield 126, 3) := by decide +kernel
theorem dX12_net_159 : decode cX12_net 159 = .ok (.aload_n 0, 1) := by decide +kernel
theorem dX12_net_160 : decode cX12_net 160 = .ok (.getfield 19, 3) := by decide +kernel
theorem dX12_net_163 : decode cX12_net 163 = .ok (.invokestatic 54, 3) := by decide +kernel
theorem dX12_net_166 : decode cX12_net 166 = .ok (.iconst 0, 1) := by decide +kernel
theorem dX12_net_167 : decode cX12_net 167 = .ok (.istore_n 2, 1) := by decide +kernel
theorem dX12_net_168 : decode cX12_net 168 = .ok (.iload_n 2, 1) := by decide +kernel
theorem dX12_net_169 : decode cX12_net 169 = .ok (.bipush 36, 2) := by decide +kernel
theorem dX12_net_171 : decode cX12_net 171 = .ok (.if_icmp .ge 24, 3) := by decide +kernel
theorem dX12_net_174 : decode cX12_net 174 = .ok (.aload_n 0, 1) := by decide +kernel
theorem dX12_net_175 : decode cX12_net 175 = .ok (.getfield 19, 3) := by decide +kernel
theorem dX12_net_178 : decode cX12_net 178 = .ok (.bipush 118, 2) := by decide +kernel
theorem dX12_net_180 : decode cX12_net 180 = .ok (.iload_n 2, 1) := by decide +kernel
theorem dX12_net_181 : decode cX12_net 181 = .ok (.iadd, 1) := by decide +kernel
theorem dX12_net_182 : decode cX12_net 182 = .ok (.aload_n 0, 1) := by decide +kernel
theorem dX12_net_183 : decode cX12_net 183 = .ok (.getfield 36, 3) := by decide +kernel
theorem dX12_net_186 : decode cX12_net 186 = .ok (.iload_n 2, 1) := by decide +kernel
theorem dX12_net_187 : decode cX12_net 187 = .ok (.iaload, 1) := by decide +kernel
theorem dX12_net_188 : decode cX12_net 188 = .ok (.iastore, 1) := by decide +kernel
theorem dX12_net_189 : decode cX12_net 189 = .ok (.iinc 2 1, 3) := by decide +kernel
theorem dX12_net_192 : decode cX12_net 192 = .ok (.goto (-24), 3) := by decide +kernel
theorem dX12_net_195 : decode cX12_net 195 = .ok (.aload_n 0, 1) := by decide +kernel
theorem dX12_net_196 : decode cX12_net 196 = .ok (.iconst 0, 1) := by decide +kernel
theorem dX12_net_197 : decode cX12_net 197 = .ok (.putfield 129, 3) := by decide +kernel
theorem dX12_net_200 : decode cX12_net 200 = .ok (.aload_n 0, 1) := by decide +kernel
theorem dX12_net_201 : decode cX12_net 201 = .ok (.iconst 0, 1) := by decide +kernel
theorem dX12_net_202 : decode cX12_net 202 = .ok (.putfield 132, 3) := by decide +kernel
theorem dX12_net_205 : decode cX12_net 205 = .ok (.aload_n 0, 1) := by decide +kernel
theorem dX12_net_206 : decode cX12_net 206 = .ok (.getfield 26, 3) := by decide +kernel
theorem dX12_net_209 : decode cX12_net 209 = .ok (.iconst 0, 1) := by decide +kernel
theorem dX12_net_210 : decode cX12_net 210 = .ok (.iconst 0, 1) := by decide +kernel
theorem dX12_net_211 : decode cX12_net 211 = .ok (.bastore, 1) := by decide +kernel
theorem dX12_net_212 : decode cX12_net 212 = .ok (.aload_n 0, 1) := by decide +kernel
theorem dX12_net_213 : decode cX12_net 213 = .ok (.getfield 26, 3) := by decide +kernel
theorem dX12_net_216 : decode cX12_net 216 = .ok (.iconst 1, 1) := by decide +kernel
theorem dX12_net_217 : decode cX12_net 217 = .ok (.iconst 0, 1) := by decide +kernel
theorem dX12_net_218 : decode cX12_net 218 = .ok (.bastore, 1) := by decide +kernel
theorem dX12_net_219 : decode cX12_net 219 = .ok (.iload_n 1, 1) := by decide +kernel
theorem dX12_net_220 : decode cX12_net 220 = .ok (.ireturn, 1) := by decide +kernel
theorem dX12_link_0 : decode cX12_link 0 = .ok (.aload_n 0, 1) := by decide +kernel
theorem dX12_link_1 : decode cX12_link 1 = .ok (.iload_n 1, 1) := by decide +kernel
theorem dX12_link_2 : decode cX12_link 2 = .ok (.invokevirtual 135, 3) := by decide +kernel
theorem dX12_link_5 : decode cX12_link 5 = .ok (.istore_n 3, 1) := by decide +kernel
theorem dX12_link_6 : decode cX12_link 6 = .ok (.iload_n 3, 1) := by decide +kernel
theorem dX12_link_7 : decode cX12_link 7 = .ok (.bipush (-9), 2) := by decide +kernel
theorem dX12_link_9 : decode cX12_link 9 = .ok (.if_icmp .eq 12, 3) := by decide +kernel
theorem dX12_link_12 : decode cX12_link 12 = .ok (.iload_n 2, 1) := by decide +kernel
theorem dX12_link_13 : decode cX12_link 13 = .ok (.iconst 0, 1) := by decide +kernel
theorem dX12_link_14 : decode cX12_link 14 = .ok (.iconst 2, 1) := by decide +kernel
theorem dX12_link_15 : decode cX12_link 15 = .ok (.invokestatic 58, 3) := by decide +kernel
theorem dX12_link_18 : decode cX12_link 18 = .ok (.ifCond .ne 5, 3) := by decide +kernel
theorem dX12_link_21 : decode cX12_link 21 = .ok (.iconst (-1), 1) := by decide +kernel
theorem dX12_link_22 : decode cX12_link 22 = .ok (.ireturn, 1) := by decide +kernel
theorem dX12_link_23 : decode cX12_link 23 = .ok (.iload_n 2, 1) := by decide +kernel
theorem dX12_link_24 : decode cX12_link 24 = .ok (.ifCond .ne 10, 3) := by decide +kernel
theorem dX12_link_27 : decode cX12_link 27 = .ok (.iload_n 3, 1) := by decide +kernel
theorem dX12_link_28 : decode cX12_link 28 = .ok (.bipush 6, 2) := by decide +kernel
theorem dX12_link_30 : decode cX12_link 30 = .ok (.idiv, 1) := by decide +kernel
theorem dX12_link_31 : decode cX12_link 31 = .ok (.goto 24, 3) := by decide +kernel
theorem dX12_link_34 : decode cX12_link 34 = .ok (.iload_n 2, 1) := by decide +kernel
theorem dX12_link_35 : decode cX12_link 35 = .ok (.iconst 1, 1) := by decide +kernel
theorem dX12_link_36 : decode cX12_link 36 = .ok (.if_icmp .ne 10, 3) := by decide +kernel
theorem dX12_link_39 : decode cX12_link 39 = .ok (.iload_n 3, 1) := by decide +kernel
theorem dX12_link_40 : decode cX12_link 40 = .ok (.bipush 6, 2) := by decide +kernel
theorem dX12_link_42 : decode cX12_link 42 = .ok (.irem, 1) := by decide +kernel
theorem dX12_link_43 : decode cX12_link 43 = .ok (.goto 12, 3) := by decide +kernel
theorem dX12_link_46 : decode cX12_link 46 = .ok (.aload_n 0, 1) := by decide +kernel
theorem dX12_link_47 : decode cX12_link 47 = .ok (.getfield 19, 3) := by decide +kernel
theorem dX12_link_50 : decode cX12_link 50 = .ok (.bipush 118, 2) := by decide +kernel
theorem dX12_link_52 : decode cX12_link 52 = .ok (.iload_n 3, 1) := by decide +kernel
theorem dX12_link_53 : decode cX12_link 53 = .ok (.iadd, 1) := by decide +kernel
theorem dX12_link_54 : decode cX12_link 54 = .ok (.iaload, 1) := by decide +kernel
theorem dX12_link_55 : decode cX12_link 55 = .ok (.ireturn, 1) := by decide +kernel
theorem dX12_guessNow_0 : decode cX12_guessNow 0 = .ok (.iload_n 1, 1) := by decide +kernel
theorem dX12_guessNow_1 : decode cX12_guessNow 1 = .ok (.iload_n 2, 1) := by decide +kernel
theorem dX12_guessNow_2 : decode cX12_guessNow 2 = .ok (.iload_n 3, 1) := by decide +kernel
theorem dX12_guessNow_3 : decode cX12_guessNow 3 = .ok (.invokestatic 139, 3) := by decide +kernel
theorem dX12_guessNow_6 : decode cX12_guessNow 6 = .ok (.istore 4, 2) := by decide +kernel
theorem dX12_guessNow_8 : decode cX12_guessNow 8 = .ok (.aload_n 0, 1) := by decide +kernel
theorem dX12_guessNow_9 : decode cX12_guessNow 9 = .ok (.getfield 19, 3) := by decide +kernel
theorem dX12_guessNow_12 : decode cX12_guessNow 12 = .ok (.sipush 406, 3) := by decide +kernel
theorem dX12_guessNow_15 : decode cX12_guessNow 15 = .ok (.iload 4, 2) := by decide +kernel
theorem dX12_guessNow_17 : decode cX12_guessNow 17 = .ok (.iadd, 1) := by decide +kernel
theorem dX12_guessNow_18 : decode cX12_guessNow 18 = .ok (.iaload, 1) := by decide +kernel
theorem dX12_guessNow_19 : decode cX12_guessNow 19 = .ok (.istore 5, 2) := by decide +kernel
theorem dX12_guessNow_21 : decode cX12_guessNow 21 = .ok (.iload 5, 2) := by decide +kernel
theorem dX12_guessNow_23 : decode cX12_guessNow 23 = .ok (.ifCond .lt 19, 3) := by decide +kernel
theorem dX12_guessNow_26 : decode cX12_guessNow 26 = .ok (.aload_n 0, 1) := by decide +kernel
theorem dX12_guessNow_27 : decode cX12_guessNow 27 = .ok (.getfield 19, 3) := by decide +kernel
theorem dX12_guessNow_30 : decode cX12_guessNow 30 = .ok (.iconst 0, 1) := by decide +kernel
theorem dX12_guessNow_31 : decode cX12_guessNow 31 = .ok (.iaload, 1) := by decide +kernel
theorem dX12_guessNow_32 : decode cX12_guessNow 32 = .ok (.iload 5, 2) := by decide +kernel
theorem dX12_guessNow_34 : decode cX12_guessNow 34 = .ok (.isub, 1) := by decide +kernel
theorem dX12_guessNow_35 : decode cX12_guessNow 35 = .ok (.aload_n 0, 1) := by decide +kernel
theorem dX12_guessNow_36 : decode cX12_guessNow 36 = .ok (.getfield 13, 3) := by decide +kernel
theorem dX12_guessNow_39 : decode cX12_guessNow 39 = .ok (.if_icmp .le 13, 3) := by decide +kernel
theorem dX12_guessNow_42 : decode cX12_guessNow 42 = .ok (.bipush 64, 2) := by decide +kernel
theorem dX12_guessNow_44 : decode cX12_guessNow 44 = .ok (.aload_n 0, 1) := by decide +kernel
theorem dX12_guessNow_45 : decode cX12_guessNow 45 = .ok (.getfield 126, 3) := by decide +kernel
theorem dX12_guessNow_48 : decode cX12_guessNow 48 = .ok (.imul, 1) := by decide +kernel
theorem dX12_guessNow_49 : decode cX12_guessNow 49 = .ok (.goto 14, 3) := by decide +kernel
theorem dX12_guessNow_52 : decode cX12_guessNow 52 = .ok (.aload_n 0, 1) := by decide +kernel
theorem dX12_guessNow_53 : decode cX12_guessNow 53 = .ok (.getfield 19, 3) := by decide +kernel
theorem dX12_guessNow_56 : decode cX12_guessNow 56 = .ok (.sipush 190, 3) := by decide +kernel
theorem dX12_guessNow_59 : decode cX12_guessNow 59 = .ok (.iload 4, 2) := by decide +kernel
theorem dX12_guessNow_61 : decode cX12_guessNow 61 = .ok (.iadd, 1) := by decide +kernel
theorem dX12_guessNow_62 : decode cX12_guessNow 62 = .ok (.iaload, 1) := by decide +kernel
theorem dX12_guessNow_63 : decode cX12_guessNow 63 = .ok (.ireturn, 1) := by decide +kernel
theorem dX12_bestOf_0 : decode cX12_bestOf 0 = .ok (.bipush (-9), 2) := by decide +kernel
theorem dX12_bestOf_2 : decode cX12_bestOf 2 = .ok (.istore_n 3, 1) := by decide +kernel
theorem dX12_bestOf_3 : decode cX12_bestOf 3 = .ok (.aload_n 0, 1) := by decide +kernel
theorem dX12_bestOf_4 : decode cX12_bestOf 4 = .ok (.getfield 7, 3) := by decide +kernel
theorem dX12_bestOf_7 : decode cX12_bestOf 7 = .ok (.iconst 1, 1) := by decide +kernel
theorem dX12_bestOf_8 : decode cX12_bestOf 8 = .ok (.isub, 1) := by decide +kernel
theorem dX12_bestOf_9 : decode cX12_bestOf 9 = .ok (.istore 4, 2) := by decide +kernel
theorem dX12_bestOf_11 : decode cX12_bestOf 11 = .ok (.iload 4, 2) := by decide +kernel
theorem dX12_bestOf_13 : decode cX12_bestOf 13 = .ok (.ifCond .lt 46, 3) := by decide +kernel
theorem dX12_bestOf_16 : decode cX12_bestOf 16 = .ok (.aload_n 0, 1) := by decide +kernel
theorem dX12_bestOf_17 : decode cX12_bestOf 17 = .ok (.iload_n 1, 1) := by decide +kernel
theorem dX12_bestOf_18 : decode cX12_bestOf 18 = .ok (.iload 4, 2) := by decide +kernel
theorem dX12_bestOf_20 : decode cX12_bestOf 20 = .ok (.invokevirtual 143, 3) := by decide +kernel
theorem dX12_bestOf_23 : decode cX12_bestOf 23 = .ok (.ifCond .le 30, 3) := by decide +kernel
theorem dX12_bestOf_26 : decode cX12_bestOf 26 = .ok (.iload_n 3, 1) := by decide +kernel
theorem dX12_bestOf_27 : decode cX12_bestOf 27 = .ok (.bipush (-9), 2) := by decide +kernel
theorem dX12_bestOf_29 : decode cX12_bestOf 29 = .ok (.if_icmp .eq 21, 3) := by decide +kernel
theorem dX12_bestOf_32 : decode cX12_bestOf 32 = .ok (.aload_n 0, 1) := by decide +kernel
theorem dX12_bestOf_33 : decode cX12_bestOf 33 = .ok (.iload_n 1, 1) := by decide +kernel
theorem dX12_bestOf_34 : decode cX12_bestOf 34 = .ok (.iload_n 2, 1) := by decide +kernel
theorem dX12_bestOf_35 : decode cX12_bestOf 35 = .ok (.iload 4, 2) := by decide +kernel
theorem dX12_bestOf_37 : decode cX12_bestOf 37 = .ok (.invokevirtual 146, 3) := by decide +kernel
theorem dX12_bestOf_40 : decode cX12_bestOf 40 = .ok (.aload_n 0, 1) := by decide +kernel
theorem dX12_bestOf_41 : decode cX12_bestOf 41 = .ok (.iload_n 1, 1) := by decide +kernel
theorem dX12_bestOf_42 : decode cX12_bestOf 42 = .ok (.iload_n 2, 1) := by decide +kernel
theorem dX12_bestOf_43 : decode cX12_bestOf 43 = .ok (.iload_n 3, 1) := by decide +kernel
theorem dX12_bestOf_44 : decode cX12_bestOf 44 = .ok (.invokevirtual 146, 3) := by decide +kernel
theorem dX12_bestOf_47 : decode cX12_bestOf 47 = .ok (.if_icmp .gt 6, 3) := by decide +kernel
theorem dX12_bestOf_50 : decode cX12_bestOf 50 = .ok (.iload 4, 2) := by decide +kernel
theorem dX12_bestOf_52 : decode cX12_bestOf 52 = .ok (.istore_n 3, 1) := by decide +kernel
theorem dX12_bestOf_53 : decode cX12_bestOf 53 = .ok (.iinc 4 (-1), 3) := by decide +kernel
theorem dX12_bestOf_56 : decode cX12_bestOf 56 = .ok (.goto (-45), 3) := by decide +kernel
theorem dX12_bestOf_59 : decode cX12_bestOf 59 = .ok (.iload_n 3, 1) := by decide +kernel
theorem dX12_bestOf_60 : decode cX12_bestOf 60 = .ok (.ireturn, 1) := by decide +kernel
theorem dX12_eldestOf_0 : decode cX12_eldestOf 0 = .ok (.bipush (-9), 2) := by decide +kernel
theorem dX12_eldestOf_2 : decode cX12_eldestOf 2 = .ok (.istore_n 3, 1) := by decide +kernel
theorem dX12_eldestOf_3 : decode cX12_eldestOf 3 = .ok (.aload_n 0, 1) := by decide +kernel
theorem dX12_eldestOf_4 : decode cX12_eldestOf 4 = .ok (.getfield 7, 3) := by decide +kernel
theorem dX12_eldestOf_7 : decode cX12_eldestOf 7 = .ok (.iconst 1, 1) := by decide +kernel
theorem dX12_eldestOf_8 : decode cX12_eldestOf 8 = .ok (.isub, 1) := by decide +kernel
theorem dX12_eldestOf_9 : decode cX12_eldestOf 9 = .ok (.istore 4, 2) := by decide +kernel
theorem dX12_eldestOf_11 : decode cX12_eldestOf 11 = .ok (.iload 4, 2) := by decide +kernel
theorem dX12_eldestOf_13 : decode cX12_eldestOf 13 = .ok (.ifCond .lt 62, 3) := by decide +kernel
theorem dX12_eldestOf_16 : decode cX12_eldestOf 16 = .ok (.aload_n 0, 1) := by decide +kernel
theorem dX12_eldestOf_17 : decode cX12_eldestOf 17 = .ok (.iload_n 1, 1) := by decide +kernel
theorem dX12_eldestOf_18 : decode cX12_eldestOf 18 = .ok (.iload 4, 2) := by decide +kernel
theorem dX12_eldestOf_20 : decode cX12_eldestOf 20 = .ok (.invokevirtual 143, 3) := by decide +kernel
theorem dX12_eldestOf_23 : decode cX12_eldestOf 23 = .ok (.ifCond .le 46, 3) := by decide +kernel
theorem dX12_eldestOf_26 : decode cX12_eldestOf 26 = .ok (.iload_n 3, 1) := by decide +kernel
theorem dX12_eldestOf_27 : decode cX12_eldestOf 27 = .ok (.bipush (-9), 2) := by decide +kernel
theorem dX12_eldestOf_29 : decode cX12_eldestOf 29 = .ok (.if_icmp .eq 37, 3) := by decide +kernel
theorem dX12_eldestOf_32 : decode cX12_eldestOf 32 = .ok (.aload_n 0, 1) := by decide +kernel
theorem dX12_eldestOf_33 : decode cX12_eldestOf 33 = .ok (.getfield 19, 3) := by decide +kernel
theorem dX12_eldestOf_36 : decode cX12_eldestOf 36 = .ok (.sipush 406, 3) := by decide +kernel
theorem dX12_eldestOf_39 : decode cX12_eldestOf 39 = .ok (.iload_n 1, 1) := by decide +kernel
theorem dX12_eldestOf_40 : decode cX12_eldestOf 40 = .ok (.iload_n 2, 1) := by decide +kernel
theorem dX12_eldestOf_41 : decode cX12_eldestOf 41 = .ok (.iload 4, 2) := by decide +kernel
theorem dX12_eldestOf_43 : decode cX12_eldestOf 43 = .ok (.invokestatic 139, 3) := by decide +kernel
theorem dX12_eldestOf_46 : decode cX12_eldestOf 46 = .ok (.iadd, 1) := by decide +kernel
theorem dX12_eldestOf_47 : decode cX12_eldestOf 47 = .ok (.iaload, 1) := by decide +kernel
theorem dX12_eldestOf_48 : decode cX12_eldestOf 48 = .ok (.aload_n 0, 1) := by decide +kernel
theorem dX12_eldestOf_49 : decode cX12_eldestOf 49 = .ok (.getfield 19, 3) := by decide +kernel
theorem dX12_eldestOf_52 : decode cX12_eldestOf 52 = .ok (.sipush 406, 3) := by decide +kernel
theorem dX12_eldestOf_55 : decode cX12_eldestOf 55 = .ok (.iload_n 1, 1) := by decide +kernel
theorem dX12_eldestOf_56 : decode cX12_eldestOf 56 = .ok (.iload_n 2, 1) := by decide +kernel
theorem dX12_eldestOf_57 : decode cX12_eldestOf 57 = .ok (.iload_n 3, 1) := by decide +kernel
theorem dX12_eldestOf_58 : decode cX12_eldestOf 58 = .ok (.invokestatic 139, 3) := by decide +kernel
theorem dX12_eldestOf_61 : decode cX12_eldestOf 61 = .ok (.iadd, 1) := by decide +kernel
theorem dX12_eldestOf_62 : decode cX12_eldestOf 62 = .ok (.iaload, 1) := by decide +kernel
theorem dX12_eldestOf_63 : decode cX12_eldestOf 63 = .ok (.if_icmp .gt 6, 3) := by decide +kernel
theorem dX12_eldestOf_66 : decode cX12_eldestOf 66 = .ok (.iload 4, 2) := by decide +kernel
theorem dX12_eldestOf_68 : decode cX12_eldestOf 68 = .ok (.istore_n 3, 1) := by decide +kernel
theorem dX12_eldestOf_69 : decode cX12_eldestOf 69 = .ok (.iinc 4 (-1), 3) := by decide +kernel
theorem dX12_eldestOf_72 : decode cX12_eldestOf 72 = .ok (.goto (-61), 3) := by decide +kernel
theorem dX12_eldestOf_75 : decode cX12_eldestOf 75 = .ok (.iload_n 3, 1) := by decide +kernel
theorem dX12_eldestOf_76 : decode cX12_eldestOf 76 = .ok (.ireturn, 1) := by decide +kernel
theorem dX12_remembers_0 : decode cX12_remembers 0 = .ok (.iconst 0, 1) := by decide +kernel
theorem dX12_remembers_1 : decode cX12_remembers 1 = .ok (.istore_n 1, 1) := by decide +kernel
theorem dX12_remembers_2 : decode cX12_remembers 2 = .ok (.iload_n 1, 1) := by decide +kernel
theorem dX12_remembers_3 : decode cX12_remembers 3 = .ok (.sipush 622, 3) := by decide +kernel
theorem dX12_remembers_6 : decode cX12_remembers 6 = .ok (.if_icmp .ge 30, 3) := by decide +kernel
theorem dX12_remembers_9 : decode cX12_remembers 9 = .ok (.aload_n 0, 1) := by decide +kernel
theorem dX12_remembers_10 : decode cX12_remembers 10 = .ok (.getfield 23, 3) := by decide +kernel
theorem dX12_remembers_13 : decode cX12_remembers 13 = .ok (.sipush 622, 3) := by decide +kernel
theorem dX12_remembers_16 : decode cX12_remembers 16 = .ok (.aload_n 0, 1) := by decide +kernel
theorem dX12_remembers_17 : decode cX12_remembers 17 = .ok (.getfield 149, 3) := by decide +kernel
theorem dX12_remembers_20 : decode cX12_remembers 20 = .ok (.imul, 1) := by decide +kernel
theorem dX12_remembers_21 : decode cX12_remembers 21 = .ok (.iload_n 1, 1) := by decide +kernel
theorem dX12_remembers_22 : decode cX12_remembers 22 = .ok (.iadd, 1) := by decide +kernel
theorem dX12_remembers_23 : decode cX12_remembers 23 = .ok (.aload_n 0, 1) := by decide +kernel
theorem dX12_remembers_24 : decode cX12_remembers 24 = .ok (.getfield 19, 3) := by decide +kernel
theorem dX12_remembers_27 : decode cX12_remembers 27 = .ok (.iload_n 1, 1) := by decide +kernel
theorem dX12_remembers_28 : decode cX12_remembers 28 = .ok (.iaload, 1) := by decide +kernel
theorem dX12_remembers_29 : decode cX12_remembers 29 = .ok (.iastore, 1) := by decide +kernel
theorem dX12_remembers_30 : decode cX12_remembers 30 = .ok (.iinc 1 1, 3) := by decide +kernel
theorem dX12_remembers_33 : decode cX12_remembers 33 = .ok (.goto (-31), 3) := by decide +kernel
theorem dX12_remembers_36 : decode cX12_remembers 36 = .ok (.aload_n 0, 1) := by decide +kernel
theorem dX12_remembers_37 : decode cX12_remembers 37 = .ok (.aload_n 0, 1) := by decide +kernel
theorem dX12_remembers_38 : decode cX12_remembers 38 = .ok (.getfield 149, 3) := by decide +kernel
theorem dX12_remembers_41 : decode cX12_remembers 41 = .ok (.iconst 1, 1) := by decide +kernel
theorem dX12_remembers_42 : decode cX12_remembers 42 = .ok (.iadd, 1) := by decide +kernel
theorem dX12_remembers_43 : decode cX12_remembers 43 = .ok (.bipush 8, 2) := by decide +kernel
theorem dX12_remembers_45 : decode cX12_remembers 45 = .ok (.irem, 1) := by decide +kernel
theorem dX12_remembers_46 : decode cX12_remembers 46 = .ok (.putfield 149, 3) := by decide +kernel
theorem dX12_remembers_49 : decode cX12_remembers 49 = .ok (.aload_n 0, 1) := by decide +kernel
theorem dX12_remembers_50 : decode cX12_remembers 50 = .ok (.dup, 1) := by decide +kernel
theorem dX12_remembers_51 : decode cX12_remembers 51 = .ok (.getfield 129, 3) := by decide +kernel
theorem dX12_remembers_54 : decode cX12_remembers 54 = .ok (.aload_n 0, 1) := by decide +kernel
theorem dX12_remembers_55 : decode cX12_remembers 55 = .ok (.getfield 129, 3) := by decide +kernel
theorem dX12_remembers_58 : decode cX12_remembers 58 = .ok (.bipush 8, 2) := by decide +kernel
theorem dX12_remembers_60 : decode cX12_remembers 60 = .ok (.if_icmp .ge 7, 3) := by decide +kernel
theorem dX12_remembers_63 : decode cX12_remembers 63 = .ok (.iconst 1, 1) := by decide +kernel
theorem dX12_remembers_64 : decode cX12_remembers 64 = .ok (.goto 4, 3) := by decide +kernel
theorem dX12_remembers_67 : decode cX12_remembers 67 = .ok (.iconst 0, 1) := by decide +kernel
theorem dX12_remembers_68 : decode cX12_remembers 68 = .ok (.iadd, 1) := by decide +kernel
theorem dX12_remembers_69 : decode cX12_remembers 69 = .ok (.putfield 129, 3) := by decide +kernel
theorem dX12_remembers_72 : decode cX12_remembers 72 = .ok (.return_, 1) := by decide +kernel
theorem dX12_hops_0 : decode cX12_hops 0 = .ok (.aload_n 0, 1) := by decide +kernel
theorem dX12_hops_1 : decode cX12_hops 1 = .ok (.getfield 19, 3) := by decide +kernel
theorem dX12_hops_4 : decode cX12_hops 4 = .ok (.bipush 106, 2) := by decide +kernel
theorem dX12_hops_6 : decode cX12_hops 6 = .ok (.iload_n 1, 1) := by decide +kernel
theorem dX12_hops_7 : decode cX12_hops 7 = .ok (.iadd, 1) := by decide +kernel
theorem dX12_hops_8 : decode cX12_hops 8 = .ok (.dup2, 1) := by decide +kernel
theorem dX12_hops_9 : decode cX12_hops 9 = .ok (.iaload, 1) := by decide +kernel
theorem dX12_hops_10 : decode cX12_hops 10 = .ok (.iconst 1, 1) := by decide +kernel
theorem dX12_hops_11 : decode cX12_hops 11 = .ok (.iadd, 1) := by decide +kernel
theorem dX12_hops_12 : decode cX12_hops 12 = .ok (.iastore, 1) := by decide +kernel
theorem dX12_hops_13 : decode cX12_hops 13 = .ok (.aload_n 0, 1) := by decide +kernel
theorem dX12_hops_14 : decode cX12_hops 14 = .ok (.getfield 120, 3) := by decide +kernel
theorem dX12_hops_17 : decode cX12_hops 17 = .ok (.ifCond .le 24, 3) := by decide +kernel
theorem dX12_hops_20 : decode cX12_hops 20 = .ok (.aload_n 0, 1) := by decide +kernel
theorem dX12_hops_21 : decode cX12_hops 21 = .ok (.getfield 19, 3) := by decide +kernel
theorem dX12_hops_24 : decode cX12_hops 24 = .ok (.bipush 106, 2) := by decide +kernel
theorem dX12_hops_26 : decode cX12_hops 26 = .ok (.iload_n 1, 1) := by decide +kernel
theorem dX12_hops_27 : decode cX12_hops 27 = .ok (.iadd, 1) := by decide +kernel
theorem dX12_hops_28 : decode cX12_hops 28 = .ok (.iaload, 1) := by decide +kernel
theorem dX12_hops_29 : decode cX12_hops 29 = .ok (.aload_n 0, 1) := by decide +kernel
theorem dX12_hops_30 : decode cX12_hops 30 = .ok (.getfield 120, 3) := by decide +kernel
theorem dX12_hops_33 : decode cX12_hops 33 = .ok (.irem, 1) := by decide +kernel
theorem dX12_hops_34 : decode cX12_hops 34 = .ok (.ifCond .ne 7, 3) := by decide +kernel
theorem dX12_hops_37 : decode cX12_hops 37 = .ok (.iconst 1, 1) := by decide +kernel
theorem dX12_hops_38 : decode cX12_hops 38 = .ok (.goto 4, 3) := by decide +kernel
theorem dX12_hops_41 : decode cX12_hops 41 = .ok (.iconst 0, 1) := by decide +kernel
theorem dX12_hops_42 : decode cX12_hops 42 = .ok (.istore_n 3, 1) := by decide +kernel
theorem dX12_hops_43 : decode cX12_hops 43 = .ok (.aload_n 0, 1) := by decide +kernel
theorem dX12_hops_44 : decode cX12_hops 44 = .ok (.getfield 19, 3) := by decide +kernel
theorem dX12_hops_47 : decode cX12_hops 47 = .ok (.bipush 112, 2) := by decide +kernel
theorem dX12_hops_49 : decode cX12_hops 49 = .ok (.iload_n 1, 1) := by decide +kernel
theorem dX12_hops_50 : decode cX12_hops 50 = .ok (.iadd, 1) := by decide +kernel
theorem dX12_hops_51 : decode cX12_hops 51 = .ok (.dup2, 1) := by decide +kernel
theorem dX12_hops_52 : decode cX12_hops 52 = .ok (.iaload, 1) := by decide +kernel
theorem dX12_hops_53 : decode cX12_hops 53 = .ok (.iload_n 3, 1) := by decide +kernel
theorem dX12_hops_54 : decode cX12_hops 54 = .ok (.ifCond .eq 7, 3) := by decide +kernel
theorem dX12_hops_57 : decode cX12_hops 57 = .ok (.iconst 1, 1) := by decide +kernel
theorem dX12_hops_58 : decode cX12_hops 58 = .ok (.goto 4, 3) := by decide +kernel
theorem dX12_hops_61 : decode cX12_hops 61 = .ok (.iconst 0, 1) := by decide +kernel
theorem dX12_hops_62 : decode cX12_hops 62 = .ok (.iadd, 1) := by decide +kernel
theorem dX12_hops_63 : decode cX12_hops 63 = .ok (.iastore, 1) := by decide +kernel
theorem dX12_hops_64 : decode cX12_hops 64 = .ok (.iload_n 3, 1) := by decide +kernel
theorem dX12_hops_65 : decode cX12_hops 65 = .ok (.ifCond .eq 12, 3) := by decide +kernel
theorem dX12_hops_68 : decode cX12_hops 68 = .ok (.aload_n 0, 1) := by decide +kernel
theorem dX12_hops_69 : decode cX12_hops 69 = .ok (.iload_n 1, 1) := by decide +kernel
theorem dX12_hops_70 : decode cX12_hops 70 = .ok (.iload_n 2, 1) := by decide +kernel
theorem dX12_hops_71 : decode cX12_hops 71 = .ok (.invokevirtual 152, 3) := by decide +kernel
theorem dX12_hops_74 : decode cX12_hops 74 = .ok (.goto 9, 3) := by decide +kernel
theorem dX12_hops_77 : decode cX12_hops 77 = .ok (.aload_n 0, 1) := by decide +kernel
theorem dX12_hops_78 : decode cX12_hops 78 = .ok (.iload_n 1, 1) := by decide +kernel
theorem dX12_hops_79 : decode cX12_hops 79 = .ok (.iload_n 2, 1) := by decide +kernel
theorem dX12_hops_80 : decode cX12_hops 80 = .ok (.invokevirtual 155, 3) := by decide +kernel
theorem dX12_hops_83 : decode cX12_hops 83 = .ok (.istore 4, 2) := by decide +kernel
theorem dX12_hops_85 : decode cX12_hops 85 = .ok (.aload_n 0, 1) := by decide +kernel
theorem dX12_hops_86 : decode cX12_hops 86 = .ok (.getfield 19, 3) := by decide +kernel
theorem dX12_hops_89 : decode cX12_hops 89 = .ok (.iconst 0, 1) := by decide +kernel
theorem dX12_hops_90 : decode cX12_hops 90 = .ok (.dup2, 1) := by decide +kernel
theorem dX12_hops_91 : decode cX12_hops 91 = .ok (.iaload, 1) := by decide +kernel
theorem dX12_hops_92 : decode cX12_hops 92 = .ok (.iconst 1, 1) := by decide +kernel
theorem dX12_hops_93 : decode cX12_hops 93 = .ok (.iadd, 1) := by decide +kernel
theorem dX12_hops_94 : decode cX12_hops 94 = .ok (.iastore, 1) := by decide +kernel
theorem dX12_hops_95 : decode cX12_hops 95 = .ok (.aload_n 0, 1) := by decide +kernel
theorem dX12_hops_96 : decode cX12_hops 96 = .ok (.getfield 19, 3) := by decide +kernel
theorem dX12_hops_99 : decode cX12_hops 99 = .ok (.sipush 154, 3) := by decide +kernel
theorem dX12_hops_102 : decode cX12_hops 102 = .ok (.iload_n 1, 1) := by decide +kernel
theorem dX12_hops_103 : decode cX12_hops 103 = .ok (.iload 4, 2) := by decide +kernel
theorem dX12_hops_105 : decode cX12_hops 105 = .ok (.invokestatic 62, 3) := by decide +kernel
theorem dX12_hops_108 : decode cX12_hops 108 = .ok (.iadd, 1) := by decide +kernel
theorem dX12_hops_109 : decode cX12_hops 109 = .ok (.dup2, 1) := by decide +kernel
theorem dX12_hops_110 : decode cX12_hops 110 = .ok (.iaload, 1) := by decide +kernel
theorem dX12_hops_111 : decode cX12_hops 111 = .ok (.iconst 1, 1) := by decide +kernel
theorem dX12_hops_112 : decode cX12_hops 112 = .ok (.iadd, 1) := by decide +kernel
theorem dX12_hops_113 : decode cX12_hops 113 = .ok (.iastore, 1) := by decide +kernel
theorem dX12_hops_114 : decode cX12_hops 114 = .ok (.bipush 64, 2) := by decide +kernel
theorem dX12_hops_116 : decode cX12_hops 116 = .ok (.aload_n 0, 1) := by decide +kernel
theorem dX12_hops_117 : decode cX12_hops 117 = .ok (.iload_n 1, 1) := by decide +kernel
theorem dX12_hops_118 : decode cX12_hops 118 = .ok (.iload 4, 2) := by decide +kernel
theorem dX12_hops_120 : decode cX12_hops 120 = .ok (.invokevirtual 143, 3) := by decide +kernel
theorem dX12_hops_123 : decode cX12_hops 123 = .ok (.imul, 1) := by decide +kernel
theorem dX12_hops_124 : decode cX12_hops 124 = .ok (.istore 5, 2) := by decide +kernel
theorem dX12_hops_126 : decode cX12_hops 126 = .ok (.iload 4, 2) := by decide +kernel
theorem dX12_hops_128 : decode cX12_hops 128 = .ok (.iload_n 2, 1) := by decide +kernel
theorem dX12_hops_129 : decode cX12_hops 129 = .ok (.if_icmp .eq 22, 3) := by decide +kernel
theorem dX12_hops_132 : decode cX12_hops 132 = .ok (.iload 5, 2) := by decide +kernel
theorem dX12_hops_134 : decode cX12_hops 134 = .ok (.aload_n 0, 1) := by decide +kernel
theorem dX12_hops_135 : decode cX12_hops 135 = .ok (.iload 4, 2) := by decide +kernel
theorem dX12_hops_137 : decode cX12_hops 137 = .ok (.iload_n 2, 1) := by decide +kernel
theorem dX12_hops_138 : decode cX12_hops 138 = .ok (.aload_n 0, 1) := by decide +kernel
theorem dX12_hops_139 : decode cX12_hops 139 = .ok (.iload 4, 2) := by decide +kernel
theorem dX12_hops_141 : decode cX12_hops 141 = .ok (.iload_n 2, 1) := by decide +kernel
theorem dX12_hops_142 : decode cX12_hops 142 = .ok (.invokevirtual 155, 3) := by decide +kernel
theorem dX12_hops_145 : decode cX12_hops 145 = .ok (.invokevirtual 146, 3) := by decide +kernel
theorem dX12_hops_148 : decode cX12_hops 148 = .ok (.iadd, 1) := by decide +kernel
theorem dX12_hops_149 : decode cX12_hops 149 = .ok (.istore 5, 2) := by decide +kernel
theorem dX12_hops_151 : decode cX12_hops 151 = .ok (.aload_n 0, 1) := by decide +kernel
theorem dX12_hops_152 : decode cX12_hops 152 = .ok (.iload_n 1, 1) := by decide +kernel
theorem dX12_hops_153 : decode cX12_hops 153 = .ok (.iload_n 2, 1) := by decide +kernel
theorem dX12_hops_154 : decode cX12_hops 154 = .ok (.iload 4, 2) := by decide +kernel
theorem dX12_hops_156 : decode cX12_hops 156 = .ok (.invokevirtual 146, 3) := by decide +kernel
theorem dX12_hops_159 : decode cX12_hops 159 = .ok (.istore 6, 2) := by decide +kernel
theorem dX12_hops_161 : decode cX12_hops 161 = .ok (.iload 6, 2) := by decide +kernel
theorem dX12_hops_163 : decode cX12_hops 163 = .ok (.iload 5, 2) := by decide +kernel
theorem dX12_hops_165 : decode cX12_hops 165 = .ok (.iload 6, 2) := by decide +kernel
theorem dX12_hops_167 : decode cX12_hops 167 = .ok (.isub, 1) := by decide +kernel
theorem dX12_hops_168 : decode cX12_hops 168 = .ok (.aload_n 0, 1) := by decide +kernel
theorem dX12_hops_169 : decode cX12_hops 169 = .ok (.getfield 123, 3) := by decide +kernel
theorem dX12_hops_172 : decode cX12_hops 172 = .ok (.ishr, 1) := by decide +kernel
theorem dX12_hops_173 : decode cX12_hops 173 = .ok (.iadd, 1) := by decide +kernel
theorem dX12_hops_174 : decode cX12_hops 174 = .ok (.istore 7, 2) := by decide +kernel
theorem dX12_hops_176 : decode cX12_hops 176 = .ok (.iload_n 1, 1) := by decide +kernel
theorem dX12_hops_177 : decode cX12_hops 177 = .ok (.iload_n 2, 1) := by decide +kernel
theorem dX12_hops_178 : decode cX12_hops 178 = .ok (.iload 4, 2) := by decide +kernel
theorem dX12_hops_180 : decode cX12_hops 180 = .ok (.invokestatic 139, 3) := by decide +kernel
theorem dX12_hops_183 : decode cX12_hops 183 = .ok (.istore 8, 2) := by decide +kernel
theorem dX12_hops_185 : decode cX12_hops 185 = .ok (.aload_n 0, 1) := by decide +kernel
theorem dX12_hops_186 : decode cX12_hops 186 = .ok (.getfield 19, 3) := by decide +kernel
theorem dX12_hops_189 : decode cX12_hops 189 = .ok (.sipush 190, 3) := by decide +kernel
theorem dX12_hops_192 : decode cX12_hops 192 = .ok (.iload 8, 2) := by decide +kernel
theorem dX12_hops_194 : decode cX12_hops 194 = .ok (.iadd, 1) := by decide +kernel
theorem dX12_hops_195 : decode cX12_hops 195 = .ok (.iload 7, 2) := by decide +kernel
theorem dX12_hops_197 : decode cX12_hops 197 = .ok (.ldc 158, 2) := by decide +kernel
theorem dX12_hops_199 : decode cX12_hops 199 = .ok (.if_icmp .le 8, 3) := by decide +kernel
theorem dX12_hops_202 : decode cX12_hops 202 = .ok (.ldc 158, 2) := by decide +kernel
theorem dX12_hops_204 : decode cX12_hops 204 = .ok (.goto 5, 3) := by decide +kernel
theorem dX12_hops_207 : decode cX12_hops 207 = .ok (.iload 7, 2) := by decide +kernel
theorem dX12_hops_209 : decode cX12_hops 209 = .ok (.iastore, 1) := by decide +kernel
theorem dX12_hops_210 : decode cX12_hops 210 = .ok (.aload_n 0, 1) := by decide +kernel
theorem dX12_hops_211 : decode cX12_hops 211 = .ok (.getfield 19, 3) := by decide +kernel
theorem dX12_hops_214 : decode cX12_hops 214 = .ok (.sipush 406, 3) := by decide +kernel
theorem dX12_hops_217 : decode cX12_hops 217 = .ok (.iload 8, 2) := by decide +kernel
theorem dX12_hops_219 : decode cX12_hops 219 = .ok (.iadd, 1) := by decide +kernel
theorem dX12_hops_220 : decode cX12_hops 220 = .ok (.aload_n 0, 1) := by decide +kernel
theorem dX12_hops_221 : decode cX12_hops 221 = .ok (.getfield 19, 3) := by decide +kernel
theorem dX12_hops_224 : decode cX12_hops 224 = .ok (.iconst 0, 1) := by decide +kernel
theorem dX12_hops_225 : decode cX12_hops 225 = .ok (.iaload, 1) := by decide +kernel
theorem dX12_hops_226 : decode cX12_hops 226 = .ok (.iastore, 1) := by decide +kernel
theorem dX12_hops_227 : decode cX12_hops 227 = .ok (.iload 4, 2) := by decide +kernel
theorem dX12_hops_229 : decode cX12_hops 229 = .ok (.ireturn, 1) := by decide +kernel
theorem dX12_letter_0 : decode cX12_letter 0 = .ok (.aload_n 0, 1) := by decide +kernel
theorem dX12_letter_1 : decode cX12_letter 1 = .ok (.getfield 19, 3) := by decide +kernel
theorem dX12_letter_4 : decode cX12_letter 4 = .ok (.iconst 1, 1) := by decide +kernel
theorem dX12_letter_5 : decode cX12_letter 5 = .ok (.iconst 0, 1) := by decide +kernel
theorem dX12_letter_6 : decode cX12_letter 6 = .ok (.iastore, 1) := by decide +kernel
theorem dX12_letter_7 : decode cX12_letter 7 = .ok (.aload_n 0, 1) := by decide +kernel
theorem dX12_letter_8 : decode cX12_letter 8 = .ok (.getfield 19, 3) := by decide +kernel
theorem dX12_letter_11 : decode cX12_letter 11 = .ok (.iconst 2, 1) := by decide +kernel
theorem dX12_letter_12 : decode cX12_letter 12 = .ok (.iload_n 1, 1) := by decide +kernel
theorem dX12_letter_13 : decode cX12_letter 13 = .ok (.iastore, 1) := by decide +kernel
theorem dX12_letter_14 : decode cX12_letter 14 = .ok (.iload_n 1, 1) := by decide +kernel
theorem dX12_letter_15 : decode cX12_letter 15 = .ok (.istore_n 3, 1) := by decide +kernel
theorem dX12_letter_16 : decode cX12_letter 16 = .ok (.iconst 0, 1) := by decide +kernel
theorem dX12_letter_17 : decode cX12_letter 17 = .ok (.istore 4, 2) := by decide +kernel
theorem dX12_letter_19 : decode cX12_letter 19 = .ok (.aload_n 0, 1) := by decide +kernel
theorem dX12_letter_20 : decode cX12_letter 20 = .ok (.iload_n 1, 1) := by decide +kernel
theorem dX12_letter_21 : decode cX12_letter 21 = .ok (.iload_n 2, 1) := by decide +kernel
theorem dX12_letter_22 : decode cX12_letter 22 = .ok (.invokevirtual 155, 3) := by decide +kernel
theorem dX12_letter_25 : decode cX12_letter 25 = .ok (.bipush (-9), 2) := by decide +kernel
theorem dX12_letter_27 : decode cX12_letter 27 = .ok (.if_icmp .ne 6, 3) := by decide +kernel
theorem dX12_letter_30 : decode cX12_letter 30 = .ok (.bipush (-9), 2) := by decide +kernel
theorem dX12_letter_32 : decode cX12_letter 32 = .ok (.ireturn, 1) := by decide +kernel
theorem dX12_letter_33 : decode cX12_letter 33 = .ok (.aload_n 0, 1) := by decide +kernel
theorem dX12_letter_34 : decode cX12_letter 34 = .ok (.iload_n 3, 1) := by decide +kernel
theorem dX12_letter_35 : decode cX12_letter 35 = .ok (.iload_n 2, 1) := by decide +kernel
theorem dX12_letter_36 : decode cX12_letter 36 = .ok (.invokevirtual 159, 3) := by decide +kernel
theorem dX12_letter_39 : decode cX12_letter 39 = .ok (.istore 5, 2) := by decide +kernel
theorem dX12_letter_41 : decode cX12_letter 41 = .ok (.iload 4, 2) := by decide +kernel
theorem dX12_letter_43 : decode cX12_letter 43 = .ok (.aload_n 0, 1) := by decide +kernel
theorem dX12_letter_44 : decode cX12_letter 44 = .ok (.iload_n 3, 1) := by decide +kernel
theorem dX12_letter_45 : decode cX12_letter 45 = .ok (.iload 5, 2) := by decide +kernel
theorem dX12_letter_47 : decode cX12_letter 47 = .ok (.invokevirtual 143, 3) := by decide +kernel
theorem dX12_letter_50 : decode cX12_letter 50 = .ok (.iadd, 1) := by decide +kernel
theorem dX12_letter_51 : decode cX12_letter 51 = .ok (.istore 4, 2) := by decide +kernel
theorem dX12_letter_53 : decode cX12_letter 53 = .ok (.aload_n 0, 1) := by decide +kernel
theorem dX12_letter_54 : decode cX12_letter 54 = .ok (.getfield 19, 3) := by decide +kernel
theorem dX12_letter_57 : decode cX12_letter 57 = .ok (.iconst 1, 1) := by decide +kernel
theorem dX12_letter_58 : decode cX12_letter 58 = .ok (.dup2, 1) := by decide +kernel
theorem dX12_letter_59 : decode cX12_letter 59 = .ok (.iaload, 1) := by decide +kernel
theorem dX12_letter_60 : decode cX12_letter 60 = .ok (.iconst 1, 1) := by decide +kernel
theorem dX12_letter_61 : decode cX12_letter 61 = .ok (.iadd, 1) := by decide +kernel
theorem dX12_letter_62 : decode cX12_letter 62 = .ok (.iastore, 1) := by decide +kernel
theorem dX12_letter_63 : decode cX12_letter 63 = .ok (.aload_n 0, 1) := by decide +kernel
theorem dX12_letter_64 : decode cX12_letter 64 = .ok (.getfield 19, 3) := by decide +kernel
theorem dX12_letter_67 : decode cX12_letter 67 = .ok (.iconst 2, 1) := by decide +kernel
theorem dX12_letter_68 : decode cX12_letter 68 = .ok (.aload_n 0, 1) := by decide +kernel
theorem dX12_letter_69 : decode cX12_letter 69 = .ok (.getfield 19, 3) := by decide +kernel
theorem dX12_letter_72 : decode cX12_letter 72 = .ok (.iconst 1, 1) := by decide +kernel
theorem dX12_letter_73 : decode cX12_letter 73 = .ok (.iaload, 1) := by decide +kernel
theorem dX12_letter_74 : decode cX12_letter 74 = .ok (.iadd, 1) := by decide +kernel
theorem dX12_letter_75 : decode cX12_letter 75 = .ok (.iload 5, 2) := by decide +kernel
theorem dX12_letter_77 : decode cX12_letter 77 = .ok (.iastore, 1) := by decide +kernel
theorem dX12_letter_78 : decode cX12_letter 78 = .ok (.iload 5, 2) := by decide +kernel
theorem dX12_letter_80 : decode cX12_letter 80 = .ok (.istore_n 3, 1) := by decide +kernel
theorem dX12_letter_81 : decode cX12_letter 81 = .ok (.iload_n 3, 1) := by decide +kernel
theorem dX12_letter_82 : decode cX12_letter 82 = .ok (.iload_n 2, 1) := by decide +kernel
theorem dX12_letter_83 : decode cX12_letter 83 = .ok (.if_icmp .ne 6, 3) := by decide +kernel
theorem dX12_letter_86 : decode cX12_letter 86 = .ok (.iload 4, 2) := by decide +kernel
theorem dX12_letter_88 : decode cX12_letter 88 = .ok (.ireturn, 1) := by decide +kernel
theorem dX12_letter_89 : decode cX12_letter 89 = .ok (.iload 4, 2) := by decide +kernel
theorem dX12_letter_91 : decode cX12_letter 91 = .ok (.aload_n 0, 1) := by decide +kernel
theorem dX12_letter_92 : decode cX12_letter 92 = .ok (.getfield 16, 3) := by decide +kernel
theorem dX12_letter_95 : decode cX12_letter 95 = .ok (.if_icmp .le 6, 3) := by decide +kernel
theorem dX12_letter_98 : decode cX12_letter 98 = .ok (.bipush (-9), 2) := by decide +kernel
theorem dX12_letter_100 : decode cX12_letter 100 = .ok (.ireturn, 1) := by decide +kernel
theorem dX12_letter_101 : decode cX12_letter 101 = .ok (.goto (-68), 3) := by decide +kernel
theorem dX12_sends_0 : decode cX12_sends 0 = .ok (.aload_n 0, 1) := by decide +kernel
theorem dX12_sends_1 : decode cX12_sends 1 = .ok (.iload_n 1, 1) := by decide +kernel
theorem dX12_sends_2 : decode cX12_sends 2 = .ok (.invokevirtual 162, 3) := by decide +kernel
theorem dX12_sends_5 : decode cX12_sends 5 = .ok (.ifCond .eq 16, 3) := by decide +kernel
theorem dX12_sends_8 : decode cX12_sends 8 = .ok (.aload_n 0, 1) := by decide +kernel
theorem dX12_sends_9 : decode cX12_sends 9 = .ok (.iload_n 2, 1) := by decide +kernel
theorem dX12_sends_10 : decode cX12_sends 10 = .ok (.invokevirtual 162, 3) := by decide +kernel
theorem dX12_sends_13 : decode cX12_sends 13 = .ok (.ifCond .eq 8, 3) := by decide +kernel
theorem dX12_sends_16 : decode cX12_sends 16 = .ok (.iload_n 1, 1) := by decide +kernel
theorem dX12_sends_17 : decode cX12_sends 17 = .ok (.iload_n 2, 1) := by decide +kernel
theorem dX12_sends_18 : decode cX12_sends 18 = .ok (.if_icmp .ne 5, 3) := by decide +kernel
theorem dX12_sends_21 : decode cX12_sends 21 = .ok (.iconst (-1), 1) := by decide +kernel
theorem dX12_sends_22 : decode cX12_sends 22 = .ok (.ireturn, 1) := by decide +kernel
theorem dX12_sends_23 : decode cX12_sends 23 = .ok (.aload_n 0, 1) := by decide +kernel
theorem dX12_sends_24 : decode cX12_sends 24 = .ok (.invokevirtual 165, 3) := by decide +kernel
theorem dX12_sends_27 : decode cX12_sends 27 = .ok (.aload_n 0, 1) := by decide +kernel
theorem dX12_sends_28 : decode cX12_sends 28 = .ok (.iload_n 1, 1) := by decide +kernel
theorem dX12_sends_29 : decode cX12_sends 29 = .ok (.iload_n 2, 1) := by decide +kernel
theorem dX12_sends_30 : decode cX12_sends 30 = .ok (.invokevirtual 168, 3) := by decide +kernel
theorem dX12_sends_33 : decode cX12_sends 33 = .ok (.ireturn, 1) := by decide +kernel
theorem dX12_rounds_0 : decode cX12_rounds 0 = .ok (.iload_n 1, 1) := by decide +kernel
theorem dX12_rounds_1 : decode cX12_rounds 1 = .ok (.iconst 1, 1) := by decide +kernel
theorem dX12_rounds_2 : decode cX12_rounds 2 = .ok (.iconst 4, 1) := by decide +kernel
theorem dX12_rounds_3 : decode cX12_rounds 3 = .ok (.invokestatic 58, 3) := by decide +kernel
theorem dX12_rounds_6 : decode cX12_rounds 6 = .ok (.ifCond .ne 5, 3) := by decide +kernel
theorem dX12_rounds_9 : decode cX12_rounds 9 = .ok (.iconst (-1), 1) := by decide +kernel
theorem dX12_rounds_10 : decode cX12_rounds 10 = .ok (.ireturn, 1) := by decide +kernel
theorem dX12_rounds_11 : decode cX12_rounds 11 = .ok (.aload_n 0, 1) := by decide +kernel
theorem dX12_rounds_12 : decode cX12_rounds 12 = .ok (.invokevirtual 165, 3) := by decide +kernel
theorem dX12_rounds_15 : decode cX12_rounds 15 = .ok (.iconst 0, 1) := by decide +kernel
theorem dX12_rounds_16 : decode cX12_rounds 16 = .ok (.istore_n 2, 1) := by decide +kernel
theorem dX12_rounds_17 : decode cX12_rounds 17 = .ok (.iconst 0, 1) := by decide +kernel
theorem dX12_rounds_18 : decode cX12_rounds 18 = .ok (.istore_n 3, 1) := by decide +kernel
theorem dX12_rounds_19 : decode cX12_rounds 19 = .ok (.iload_n 3, 1) := by decide +kernel
theorem dX12_rounds_20 : decode cX12_rounds 20 = .ok (.iload_n 1, 1) := by decide +kernel
theorem dX12_rounds_21 : decode cX12_rounds 21 = .ok (.aload_n 0, 1) := by decide +kernel
theorem dX12_rounds_22 : decode cX12_rounds 22 = .ok (.getfield 7, 3) := by decide +kernel
theorem dX12_rounds_25 : decode cX12_rounds 25 = .ok (.imul, 1) := by decide +kernel
theorem dX12_rounds_26 : decode cX12_rounds 26 = .ok (.aload_n 0, 1) := by decide +kernel
theorem dX12_rounds_27 : decode cX12_rounds 27 = .ok (.getfield 7, 3) := by decide +kernel
theorem dX12_rounds_30 : decode cX12_rounds 30 = .ok (.imul, 1) := by decide +kernel
theorem dX12_rounds_31 : decode cX12_rounds 31 = .ok (.if_icmp .ge 56, 3) := by decide +kernel
theorem dX12_rounds_34 : decode cX12_rounds 34 = .ok (.iload_n 3, 1) := by decide +kernel
theorem dX12_rounds_35 : decode cX12_rounds 35 = .ok (.aload_n 0, 1) := by decide +kernel
theorem dX12_rounds_36 : decode cX12_rounds 36 = .ok (.getfield 7, 3) := by decide +kernel
theorem dX12_rounds_39 : decode cX12_rounds 39 = .ok (.idiv, 1) := by decide +kernel
theorem dX12_rounds_40 : decode cX12_rounds 40 = .ok (.aload_n 0, 1) := by decide +kernel
theorem dX12_rounds_41 : decode cX12_rounds 41 = .ok (.getfield 7, 3) := by decide +kernel
theorem dX12_rounds_44 : decode cX12_rounds 44 = .ok (.irem, 1) := by decide +kernel
theorem dX12_rounds_45 : decode cX12_rounds 45 = .ok (.istore 4, 2) := by decide +kernel
theorem dX12_rounds_47 : decode cX12_rounds 47 = .ok (.iload_n 3, 1) := by decide +kernel
theorem dX12_rounds_48 : decode cX12_rounds 48 = .ok (.aload_n 0, 1) := by decide +kernel
theorem dX12_rounds_49 : decode cX12_rounds 49 = .ok (.getfield 7, 3) := by decide +kernel
theorem dX12_rounds_52 : decode cX12_rounds 52 = .ok (.irem, 1) := by decide +kernel
theorem dX12_rounds_53 : decode cX12_rounds 53 = .ok (.istore 5, 2) := by decide +kernel
theorem dX12_rounds_55 : decode cX12_rounds 55 = .ok (.iload_n 2, 1) := by decide +kernel
theorem dX12_rounds_56 : decode cX12_rounds 56 = .ok (.iload 4, 2) := by decide +kernel
theorem dX12_rounds_58 : decode cX12_rounds 58 = .ok (.iload 5, 2) := by decide +kernel
theorem dX12_rounds_60 : decode cX12_rounds 60 = .ok (.if_icmp .eq 18, 3) := by decide +kernel
theorem dX12_rounds_63 : decode cX12_rounds 63 = .ok (.aload_n 0, 1) := by decide +kernel
theorem dX12_rounds_64 : decode cX12_rounds 64 = .ok (.iload 4, 2) := by decide +kernel
theorem dX12_rounds_66 : decode cX12_rounds 66 = .ok (.iload 5, 2) := by decide +kernel
theorem dX12_rounds_68 : decode cX12_rounds 68 = .ok (.invokevirtual 168, 3) := by decide +kernel
theorem dX12_rounds_71 : decode cX12_rounds 71 = .ok (.ifCond .lt 7, 3) := by decide +kernel
theorem dX12_rounds_74 : decode cX12_rounds 74 = .ok (.iconst 1, 1) := by decide +kernel
theorem dX12_rounds_75 : decode cX12_rounds 75 = .ok (.goto 4, 3) := by decide +kernel
theorem dX12_rounds_78 : decode cX12_rounds 78 = .ok (.iconst 0, 1) := by decide +kernel
theorem dX12_rounds_79 : decode cX12_rounds 79 = .ok (.iadd, 1) := by decide +kernel
theorem dX12_rounds_80 : decode cX12_rounds 80 = .ok (.istore_n 2, 1) := by decide +kernel
theorem dX12_rounds_81 : decode cX12_rounds 81 = .ok (.iinc 3 1, 3) := by decide +kernel
theorem dX12_rounds_84 : decode cX12_rounds 84 = .ok (.goto (-65), 3) := by decide +kernel
theorem dX12_rounds_87 : decode cX12_rounds 87 = .ok (.iload_n 2, 1) := by decide +kernel
theorem dX12_rounds_88 : decode cX12_rounds 88 = .ok (.ireturn, 1) := by decide +kernel
theorem dX12_noGuesses_0 : decode cX12_noGuesses 0 = .ok (.iconst 0, 1) := by decide +kernel
theorem dX12_noGuesses_1 : decode cX12_noGuesses 1 = .ok (.istore_n 3, 1) := by decide +kernel
theorem dX12_noGuesses_2 : decode cX12_noGuesses 2 = .ok (.iload_n 3, 1) := by decide +kernel
theorem dX12_noGuesses_3 : decode cX12_noGuesses 3 = .ok (.bipush 6, 2) := by decide +kernel
theorem dX12_noGuesses_5 : decode cX12_noGuesses 5 = .ok (.if_icmp .ge 73, 3) := by decide +kernel
theorem dX12_noGuesses_8 : decode cX12_noGuesses 8 = .ok (.aload_n 0, 1) := by decide +kernel
theorem dX12_noGuesses_9 : decode cX12_noGuesses 9 = .ok (.getfield 19, 3) := by decide +kernel
theorem dX12_noGuesses_12 : decode cX12_noGuesses 12 = .ok (.sipush 406, 3) := by decide +kernel
theorem dX12_noGuesses_15 : decode cX12_noGuesses 15 = .ok (.iload_n 1, 1) := by decide +kernel
theorem dX12_noGuesses_16 : decode cX12_noGuesses 16 = .ok (.iload_n 3, 1) := by decide +kernel
theorem dX12_noGuesses_17 : decode cX12_noGuesses 17 = .ok (.iload_n 2, 1) := by decide +kernel
theorem dX12_noGuesses_18 : decode cX12_noGuesses 18 = .ok (.invokestatic 139, 3) := by decide +kernel
theorem dX12_noGuesses_21 : decode cX12_noGuesses 21 = .ok (.iadd, 1) := by decide +kernel
theorem dX12_noGuesses_22 : decode cX12_noGuesses 22 = .ok (.iconst (-1), 1) := by decide +kernel
theorem dX12_noGuesses_23 : decode cX12_noGuesses 23 = .ok (.iastore, 1) := by decide +kernel
theorem dX12_noGuesses_24 : decode cX12_noGuesses 24 = .ok (.aload_n 0, 1) := by decide +kernel
theorem dX12_noGuesses_25 : decode cX12_noGuesses 25 = .ok (.getfield 19, 3) := by decide +kernel
theorem dX12_noGuesses_28 : decode cX12_noGuesses 28 = .ok (.sipush 406, 3) := by decide +kernel
theorem dX12_noGuesses_31 : decode cX12_noGuesses 31 = .ok (.iload_n 2, 1) := by decide +kernel
theorem dX12_noGuesses_32 : decode cX12_noGuesses 32 = .ok (.iload_n 3, 1) := by decide +kernel
theorem dX12_noGuesses_33 : decode cX12_noGuesses 33 = .ok (.iload_n 1, 1) := by decide +kernel
theorem dX12_noGuesses_34 : decode cX12_noGuesses 34 = .ok (.invokestatic 139, 3) := by decide +kernel
theorem dX12_noGuesses_37 : decode cX12_noGuesses 37 = .ok (.iadd, 1) := by decide +kernel
theorem dX12_noGuesses_38 : decode cX12_noGuesses 38 = .ok (.iconst (-1), 1) := by decide +kernel
theorem dX12_noGuesses_39 : decode cX12_noGuesses 39 = .ok (.iastore, 1) := by decide +kernel
theorem dX12_noGuesses_40 : decode cX12_noGuesses 40 = .ok (.aload_n 0, 1) := by decide +kernel
theorem dX12_noGuesses_41 : decode cX12_noGuesses 41 = .ok (.getfield 19, 3) := by decide +kernel
theorem dX12_noGuesses_44 : decode cX12_noGuesses 44 = .ok (.sipush 190, 3) := by decide +kernel
theorem dX12_noGuesses_47 : decode cX12_noGuesses 47 = .ok (.iload_n 1, 1) := by decide +kernel
theorem dX12_noGuesses_48 : decode cX12_noGuesses 48 = .ok (.iload_n 3, 1) := by decide +kernel
theorem dX12_noGuesses_49 : decode cX12_noGuesses 49 = .ok (.iload_n 2, 1) := by decide +kernel
theorem dX12_noGuesses_50 : decode cX12_noGuesses 50 = .ok (.invokestatic 139, 3) := by decide +kernel
theorem dX12_noGuesses_53 : decode cX12_noGuesses 53 = .ok (.iadd, 1) := by decide +kernel
theorem dX12_noGuesses_54 : decode cX12_noGuesses 54 = .ok (.iconst 0, 1) := by decide +kernel
theorem dX12_noGuesses_55 : decode cX12_noGuesses 55 = .ok (.iastore, 1) := by decide +kernel
theorem dX12_noGuesses_56 : decode cX12_noGuesses 56 = .ok (.aload_n 0, 1) := by decide +kernel
theorem dX12_noGuesses_57 : decode cX12_noGuesses 57 = .ok (.getfield 19, 3) := by decide +kernel
theorem dX12_noGuesses_60 : decode cX12_noGuesses 60 = .ok (.sipush 190, 3) := by decide +kernel
theorem dX12_noGuesses_63 : decode cX12_noGuesses 63 = .ok (.iload_n 2, 1) := by decide +kernel
theorem dX12_noGuesses_64 : decode cX12_noGuesses 64 = .ok (.iload_n 3, 1) := by decide +kernel
theorem dX12_noGuesses_65 : decode cX12_noGuesses 65 = .ok (.iload_n 1, 1) := by decide +kernel
theorem dX12_noGuesses_66 : decode cX12_noGuesses 66 = .ok (.invokestatic 139, 3) := by decide +kernel
theorem dX12_noGuesses_69 : decode cX12_noGuesses 69 = .ok (.iadd, 1) := by decide +kernel
theorem dX12_noGuesses_70 : decode cX12_noGuesses 70 = .ok (.iconst 0, 1) := by decide +kernel
theorem dX12_noGuesses_71 : decode cX12_noGuesses 71 = .ok (.iastore, 1) := by decide +kernel
theorem dX12_noGuesses_72 : decode cX12_noGuesses 72 = .ok (.iinc 3 1, 3) := by decide +kernel
theorem dX12_noGuesses_75 : decode cX12_noGuesses 75 = .ok (.goto (-73), 3) := by decide +kernel
theorem dX12_noGuesses_78 : decode cX12_noGuesses 78 = .ok (.return_, 1) := by decide +kernel
theorem dX12_cuts_0 : decode cX12_cuts 0 = .ok (.aload_n 0, 1) := by decide +kernel
theorem dX12_cuts_1 : decode cX12_cuts 1 = .ok (.iload_n 1, 1) := by decide +kernel
theorem dX12_cuts_2 : decode cX12_cuts 2 = .ok (.invokevirtual 135, 3) := by decide +kernel
theorem dX12_cuts_5 : decode cX12_cuts 5 = .ok (.istore_n 2, 1) := by decide +kernel
theorem dX12_cuts_6 : decode cX12_cuts 6 = .ok (.iload_n 2, 1) := by decide +kernel
theorem dX12_cuts_7 : decode cX12_cuts 7 = .ok (.bipush (-9), 2) := by decide +kernel
theorem dX12_cuts_9 : decode cX12_cuts 9 = .ok (.if_icmp .ne 5, 3) := by decide +kernel
theorem dX12_cuts_12 : decode cX12_cuts 12 = .ok (.iconst (-1), 1) := by decide +kernel
end
section
theorem dX12_cuts_13 : decode cX12_cuts 13 = .ok (.ireturn, 1) := by decide +kernel
theorem dX12_cuts_14 : decode cX12_cuts 14 = .ok (.aload_n 0, 1) := by decide +kernel
theorem dX12_cuts_15 : decode cX12_cuts 15 = .ok (.invokevirtual 165, 3) := by decide +kernel
theorem dX12_cuts_18 : decode cX12_cuts 18 = .ok (.aload_n 0, 1) := by decide +kernel
theorem dX12_cuts_19 : decode cX12_cuts 19 = .ok (.getfield 19, 3) := by decide +kernel
theorem dX12_cuts_22 : decode cX12_cuts 22 = .ok (.bipush 118, 2) := by decide +kernel
theorem dX12_cuts_24 : decode cX12_cuts 24 = .ok (.iload_n 2, 1) := by decide +kernel
theorem dX12_cuts_25 : decode cX12_cuts 25 = .ok (.iadd, 1) := by decide +kernel
theorem dX12_cuts_26 : decode cX12_cuts 26 = .ok (.iconst 0, 1) := by decide +kernel
theorem dX12_cuts_27 : decode cX12_cuts 27 = .ok (.iastore, 1) := by decide +kernel
theorem dX12_cuts_28 : decode cX12_cuts 28 = .ok (.aload_n 0, 1) := by decide +kernel
theorem dX12_cuts_29 : decode cX12_cuts 29 = .ok (.getfield 19, 3) := by decide +kernel
theorem dX12_cuts_32 : decode cX12_cuts 32 = .ok (.sipush 154, 3) := by decide +kernel
theorem dX12_cuts_35 : decode cX12_cuts 35 = .ok (.iload_n 2, 1) := by decide +kernel
theorem dX12_cuts_36 : decode cX12_cuts 36 = .ok (.iadd, 1) := by decide +kernel
theorem dX12_cuts_37 : decode cX12_cuts 37 = .ok (.iconst 0, 1) := by decide +kernel
theorem dX12_cuts_38 : decode cX12_cuts 38 = .ok (.iastore, 1) := by decide +kernel
theorem dX12_cuts_39 : decode cX12_cuts 39 = .ok (.aload_n 0, 1) := by decide +kernel
theorem dX12_cuts_40 : decode cX12_cuts 40 = .ok (.iload_n 2, 1) := by decide +kernel
theorem dX12_cuts_41 : decode cX12_cuts 41 = .ok (.bipush 6, 2) := by decide +kernel
theorem dX12_cuts_43 : decode cX12_cuts 43 = .ok (.idiv, 1) := by decide +kernel
theorem dX12_cuts_44 : decode cX12_cuts 44 = .ok (.iload_n 2, 1) := by decide +kernel
theorem dX12_cuts_45 : decode cX12_cuts 45 = .ok (.bipush 6, 2) := by decide +kernel
theorem dX12_cuts_47 : decode cX12_cuts 47 = .ok (.irem, 1) := by decide +kernel
theorem dX12_cuts_48 : decode cX12_cuts 48 = .ok (.invokevirtual 171, 3) := by decide +kernel
theorem dX12_cuts_51 : decode cX12_cuts 51 = .ok (.aload_n 0, 1) := by decide +kernel
theorem dX12_cuts_52 : decode cX12_cuts 52 = .ok (.invokevirtual 175, 3) := by decide +kernel
theorem dX12_cuts_55 : decode cX12_cuts 55 = .ok (.ireturn, 1) := by decide +kernel
theorem dX12_lays_0 : decode cX12_lays 0 = .ok (.aload_n 0, 1) := by decide +kernel
theorem dX12_lays_1 : decode cX12_lays 1 = .ok (.iload_n 1, 1) := by decide +kernel
theorem dX12_lays_2 : decode cX12_lays 2 = .ok (.invokevirtual 162, 3) := by decide +kernel
theorem dX12_lays_5 : decode cX12_lays 5 = .ok (.ifCond .eq 26, 3) := by decide +kernel
theorem dX12_lays_8 : decode cX12_lays 8 = .ok (.aload_n 0, 1) := by decide +kernel
theorem dX12_lays_9 : decode cX12_lays 9 = .ok (.iload_n 2, 1) := by decide +kernel
theorem dX12_lays_10 : decode cX12_lays 10 = .ok (.invokevirtual 162, 3) := by decide +kernel
theorem dX12_lays_13 : decode cX12_lays 13 = .ok (.ifCond .eq 18, 3) := by decide +kernel
theorem dX12_lays_16 : decode cX12_lays 16 = .ok (.iload_n 1, 1) := by decide +kernel
theorem dX12_lays_17 : decode cX12_lays 17 = .ok (.iload_n 2, 1) := by decide +kernel
theorem dX12_lays_18 : decode cX12_lays 18 = .ok (.if_icmp .eq 13, 3) := by decide +kernel
theorem dX12_lays_21 : decode cX12_lays 21 = .ok (.iload_n 3, 1) := by decide +kernel
theorem dX12_lays_22 : decode cX12_lays 22 = .ok (.iconst 1, 1) := by decide +kernel
theorem dX12_lays_23 : decode cX12_lays 23 = .ok (.bipush 9, 2) := by decide +kernel
theorem dX12_lays_25 : decode cX12_lays 25 = .ok (.invokestatic 58, 3) := by decide +kernel
theorem dX12_lays_28 : decode cX12_lays 28 = .ok (.ifCond .ne 5, 3) := by decide +kernel
theorem dX12_lays_31 : decode cX12_lays 31 = .ok (.iconst (-1), 1) := by decide +kernel
theorem dX12_lays_32 : decode cX12_lays 32 = .ok (.ireturn, 1) := by decide +kernel
theorem dX12_lays_33 : decode cX12_lays 33 = .ok (.aload_n 0, 1) := by decide +kernel
theorem dX12_lays_34 : decode cX12_lays 34 = .ok (.iload_n 1, 1) := by decide +kernel
theorem dX12_lays_35 : decode cX12_lays 35 = .ok (.iload_n 2, 1) := by decide +kernel
theorem dX12_lays_36 : decode cX12_lays 36 = .ok (.invokevirtual 143, 3) := by decide +kernel
theorem dX12_lays_39 : decode cX12_lays 39 = .ok (.ifCond .le 6, 3) := by decide +kernel
theorem dX12_lays_42 : decode cX12_lays 42 = .ok (.bipush (-2), 2) := by decide +kernel
theorem dX12_lays_44 : decode cX12_lays 44 = .ok (.ireturn, 1) := by decide +kernel
theorem dX12_lays_45 : decode cX12_lays 45 = .ok (.aload_n 0, 1) := by decide +kernel
theorem dX12_lays_46 : decode cX12_lays 46 = .ok (.invokevirtual 175, 3) := by decide +kernel
theorem dX12_lays_49 : decode cX12_lays 49 = .ok (.bipush 10, 2) := by decide +kernel
theorem dX12_lays_51 : decode cX12_lays 51 = .ok (.if_icmp .ne 6, 3) := by decide +kernel
theorem dX12_lays_54 : decode cX12_lays 54 = .ok (.bipush (-3), 2) := by decide +kernel
theorem dX12_lays_56 : decode cX12_lays 56 = .ok (.ireturn, 1) := by decide +kernel
theorem dX12_lays_57 : decode cX12_lays 57 = .ok (.aload_n 0, 1) := by decide +kernel
theorem dX12_lays_58 : decode cX12_lays 58 = .ok (.invokevirtual 165, 3) := by decide +kernel
theorem dX12_lays_61 : decode cX12_lays 61 = .ok (.aload_n 0, 1) := by decide +kernel
theorem dX12_lays_62 : decode cX12_lays 62 = .ok (.getfield 19, 3) := by decide +kernel
theorem dX12_lays_65 : decode cX12_lays 65 = .ok (.bipush 118, 2) := by decide +kernel
theorem dX12_lays_67 : decode cX12_lays 67 = .ok (.iload_n 1, 1) := by decide +kernel
theorem dX12_lays_68 : decode cX12_lays 68 = .ok (.iload_n 2, 1) := by decide +kernel
theorem dX12_lays_69 : decode cX12_lays 69 = .ok (.invokestatic 62, 3) := by decide +kernel
theorem dX12_lays_72 : decode cX12_lays 72 = .ok (.iadd, 1) := by decide +kernel
theorem dX12_lays_73 : decode cX12_lays 73 = .ok (.iload_n 3, 1) := by decide +kernel
theorem dX12_lays_74 : decode cX12_lays 74 = .ok (.iastore, 1) := by decide +kernel
theorem dX12_lays_75 : decode cX12_lays 75 = .ok (.aload_n 0, 1) := by decide +kernel
theorem dX12_lays_76 : decode cX12_lays 76 = .ok (.invokevirtual 175, 3) := by decide +kernel
theorem dX12_lays_79 : decode cX12_lays 79 = .ok (.ireturn, 1) := by decide +kernel
theorem dX12_changes_0 : decode cX12_changes 0 = .ok (.aload_n 0, 1) := by decide +kernel
theorem dX12_changes_1 : decode cX12_changes 1 = .ok (.iload_n 1, 1) := by decide +kernel
theorem dX12_changes_2 : decode cX12_changes 2 = .ok (.invokevirtual 135, 3) := by decide +kernel
theorem dX12_changes_5 : decode cX12_changes 5 = .ok (.istore_n 3, 1) := by decide +kernel
theorem dX12_changes_6 : decode cX12_changes 6 = .ok (.iload_n 3, 1) := by decide +kernel
theorem dX12_changes_7 : decode cX12_changes 7 = .ok (.bipush (-9), 2) := by decide +kernel
theorem dX12_changes_9 : decode cX12_changes 9 = .ok (.if_icmp .eq 13, 3) := by decide +kernel
theorem dX12_changes_12 : decode cX12_changes 12 = .ok (.iload_n 2, 1) := by decide +kernel
theorem dX12_changes_13 : decode cX12_changes 13 = .ok (.iconst 1, 1) := by decide +kernel
theorem dX12_changes_14 : decode cX12_changes 14 = .ok (.bipush 9, 2) := by decide +kernel
theorem dX12_changes_16 : decode cX12_changes 16 = .ok (.invokestatic 58, 3) := by decide +kernel
theorem dX12_changes_19 : decode cX12_changes 19 = .ok (.ifCond .ne 5, 3) := by decide +kernel
theorem dX12_changes_22 : decode cX12_changes 22 = .ok (.iconst (-1), 1) := by decide +kernel
theorem dX12_changes_23 : decode cX12_changes 23 = .ok (.ireturn, 1) := by decide +kernel
theorem dX12_changes_24 : decode cX12_changes 24 = .ok (.aload_n 0, 1) := by decide +kernel
theorem dX12_changes_25 : decode cX12_changes 25 = .ok (.getfield 19, 3) := by decide +kernel
theorem dX12_changes_28 : decode cX12_changes 28 = .ok (.bipush 118, 2) := by decide +kernel
theorem dX12_changes_30 : decode cX12_changes 30 = .ok (.iload_n 3, 1) := by decide +kernel
theorem dX12_changes_31 : decode cX12_changes 31 = .ok (.iadd, 1) := by decide +kernel
theorem dX12_changes_32 : decode cX12_changes 32 = .ok (.iaload, 1) := by decide +kernel
theorem dX12_changes_33 : decode cX12_changes 33 = .ok (.istore 4, 2) := by decide +kernel
theorem dX12_changes_35 : decode cX12_changes 35 = .ok (.iload 4, 2) := by decide +kernel
theorem dX12_changes_37 : decode cX12_changes 37 = .ok (.iload_n 2, 1) := by decide +kernel
theorem dX12_changes_38 : decode cX12_changes 38 = .ok (.if_icmp .ne 6, 3) := by decide +kernel
theorem dX12_changes_41 : decode cX12_changes 41 = .ok (.bipush (-2), 2) := by decide +kernel
theorem dX12_changes_43 : decode cX12_changes 43 = .ok (.ireturn, 1) := by decide +kernel
theorem dX12_changes_44 : decode cX12_changes 44 = .ok (.aload_n 0, 1) := by decide +kernel
theorem dX12_changes_45 : decode cX12_changes 45 = .ok (.invokevirtual 165, 3) := by decide +kernel
theorem dX12_changes_48 : decode cX12_changes 48 = .ok (.aload_n 0, 1) := by decide +kernel
theorem dX12_changes_49 : decode cX12_changes 49 = .ok (.getfield 19, 3) := by decide +kernel
theorem dX12_changes_52 : decode cX12_changes 52 = .ok (.bipush 118, 2) := by decide +kernel
theorem dX12_changes_54 : decode cX12_changes 54 = .ok (.iload_n 3, 1) := by decide +kernel
theorem dX12_changes_55 : decode cX12_changes 55 = .ok (.iadd, 1) := by decide +kernel
theorem dX12_changes_56 : decode cX12_changes 56 = .ok (.iload_n 2, 1) := by decide +kernel
theorem dX12_changes_57 : decode cX12_changes 57 = .ok (.iastore, 1) := by decide +kernel
theorem dX12_changes_58 : decode cX12_changes 58 = .ok (.iload 4, 2) := by decide +kernel
theorem dX12_changes_60 : decode cX12_changes 60 = .ok (.ireturn, 1) := by decide +kernel
theorem dX12_undo_0 : decode cX12_undo 0 = .ok (.aload_n 0, 1) := by decide +kernel
theorem dX12_undo_1 : decode cX12_undo 1 = .ok (.getfield 129, 3) := by decide +kernel
theorem dX12_undo_4 : decode cX12_undo 4 = .ok (.ifCond .ne 6, 3) := by decide +kernel
theorem dX12_undo_7 : decode cX12_undo 7 = .ok (.bipush (-2), 2) := by decide +kernel
theorem dX12_undo_9 : decode cX12_undo 9 = .ok (.ireturn, 1) := by decide +kernel
theorem dX12_undo_10 : decode cX12_undo 10 = .ok (.aload_n 0, 1) := by decide +kernel
theorem dX12_undo_11 : decode cX12_undo 11 = .ok (.aload_n 0, 1) := by decide +kernel
theorem dX12_undo_12 : decode cX12_undo 12 = .ok (.getfield 149, 3) := by decide +kernel
theorem dX12_undo_15 : decode cX12_undo 15 = .ok (.bipush 8, 2) := by decide +kernel
theorem dX12_undo_17 : decode cX12_undo 17 = .ok (.iadd, 1) := by decide +kernel
theorem dX12_undo_18 : decode cX12_undo 18 = .ok (.iconst 1, 1) := by decide +kernel
theorem dX12_undo_19 : decode cX12_undo 19 = .ok (.isub, 1) := by decide +kernel
theorem dX12_undo_20 : decode cX12_undo 20 = .ok (.bipush 8, 2) := by decide +kernel
theorem dX12_undo_22 : decode cX12_undo 22 = .ok (.irem, 1) := by decide +kernel
theorem dX12_undo_23 : decode cX12_undo 23 = .ok (.putfield 149, 3) := by decide +kernel
theorem dX12_undo_26 : decode cX12_undo 26 = .ok (.aload_n 0, 1) := by decide +kernel
theorem dX12_undo_27 : decode cX12_undo 27 = .ok (.dup, 1) := by decide +kernel
theorem dX12_undo_28 : decode cX12_undo 28 = .ok (.getfield 129, 3) := by decide +kernel
theorem dX12_undo_31 : decode cX12_undo 31 = .ok (.iconst 1, 1) := by decide +kernel
theorem dX12_undo_32 : decode cX12_undo 32 = .ok (.isub, 1) := by decide +kernel
theorem dX12_undo_33 : decode cX12_undo 33 = .ok (.putfield 129, 3) := by decide +kernel
theorem dX12_undo_36 : decode cX12_undo 36 = .ok (.iconst 0, 1) := by decide +kernel
theorem dX12_undo_37 : decode cX12_undo 37 = .ok (.istore_n 1, 1) := by decide +kernel
theorem dX12_undo_38 : decode cX12_undo 38 = .ok (.iload_n 1, 1) := by decide +kernel
theorem dX12_undo_39 : decode cX12_undo 39 = .ok (.sipush 622, 3) := by decide +kernel
theorem dX12_undo_42 : decode cX12_undo 42 = .ok (.if_icmp .ge 30, 3) := by decide +kernel
theorem dX12_undo_45 : decode cX12_undo 45 = .ok (.aload_n 0, 1) := by decide +kernel
theorem dX12_undo_46 : decode cX12_undo 46 = .ok (.getfield 19, 3) := by decide +kernel
theorem dX12_undo_49 : decode cX12_undo 49 = .ok (.iload_n 1, 1) := by decide +kernel
theorem dX12_undo_50 : decode cX12_undo 50 = .ok (.aload_n 0, 1) := by decide +kernel
theorem dX12_undo_51 : decode cX12_undo 51 = .ok (.getfield 23, 3) := by decide +kernel
theorem dX12_undo_54 : decode cX12_undo 54 = .ok (.sipush 622, 3) := by decide +kernel
theorem dX12_undo_57 : decode cX12_undo 57 = .ok (.aload_n 0, 1) := by decide +kernel
theorem dX12_undo_58 : decode cX12_undo 58 = .ok (.getfield 149, 3) := by decide +kernel
theorem dX12_undo_61 : decode cX12_undo 61 = .ok (.imul, 1) := by decide +kernel
theorem dX12_undo_62 : decode cX12_undo 62 = .ok (.iload_n 1, 1) := by decide +kernel
theorem dX12_undo_63 : decode cX12_undo 63 = .ok (.iadd, 1) := by decide +kernel
theorem dX12_undo_64 : decode cX12_undo 64 = .ok (.iaload, 1) := by decide +kernel
theorem dX12_undo_65 : decode cX12_undo 65 = .ok (.iastore, 1) := by decide +kernel
theorem dX12_undo_66 : decode cX12_undo 66 = .ok (.iinc 1 1, 3) := by decide +kernel
theorem dX12_undo_69 : decode cX12_undo 69 = .ok (.goto (-31), 3) := by decide +kernel
theorem dX12_undo_72 : decode cX12_undo 72 = .ok (.aload_n 0, 1) := by decide +kernel
theorem dX12_undo_73 : decode cX12_undo 73 = .ok (.getfield 129, 3) := by decide +kernel
theorem dX12_undo_76 : decode cX12_undo 76 = .ok (.ireturn, 1) := by decide +kernel
theorem dX12_whyNoGuess_0 : decode cX12_whyNoGuess 0 = .ok (.aload_n 0, 1) := by decide +kernel
theorem dX12_whyNoGuess_1 : decode cX12_whyNoGuess 1 = .ok (.iload_n 1, 1) := by decide +kernel
theorem dX12_whyNoGuess_2 : decode cX12_whyNoGuess 2 = .ok (.invokevirtual 162, 3) := by decide +kernel
theorem dX12_whyNoGuess_5 : decode cX12_whyNoGuess 5 = .ok (.ifCond .eq 24, 3) := by decide +kernel
theorem dX12_whyNoGuess_8 : decode cX12_whyNoGuess 8 = .ok (.aload_n 0, 1) := by decide +kernel
theorem dX12_whyNoGuess_9 : decode cX12_whyNoGuess 9 = .ok (.iload_n 2, 1) := by decide +kernel
theorem dX12_whyNoGuess_10 : decode cX12_whyNoGuess 10 = .ok (.invokevirtual 162, 3) := by decide +kernel
theorem dX12_whyNoGuess_13 : decode cX12_whyNoGuess 13 = .ok (.ifCond .eq 16, 3) := by decide +kernel
theorem dX12_whyNoGuess_16 : decode cX12_whyNoGuess 16 = .ok (.aload_n 0, 1) := by decide +kernel
theorem dX12_whyNoGuess_17 : decode cX12_whyNoGuess 17 = .ok (.iload_n 3, 1) := by decide +kernel
theorem dX12_whyNoGuess_18 : decode cX12_whyNoGuess 18 = .ok (.invokevirtual 162, 3) := by decide +kernel
theorem dX12_whyNoGuess_21 : decode cX12_whyNoGuess 21 = .ok (.ifCond .eq 8, 3) := by decide +kernel
theorem dX12_whyNoGuess_24 : decode cX12_whyNoGuess 24 = .ok (.iload_n 1, 1) := by decide +kernel
theorem dX12_whyNoGuess_25 : decode cX12_whyNoGuess 25 = .ok (.iload_n 2, 1) := by decide +kernel
theorem dX12_whyNoGuess_26 : decode cX12_whyNoGuess 26 = .ok (.if_icmp .ne 5, 3) := by decide +kernel
theorem dX12_whyNoGuess_29 : decode cX12_whyNoGuess 29 = .ok (.iconst (-1), 1) := by decide +kernel
theorem dX12_whyNoGuess_30 : decode cX12_whyNoGuess 30 = .ok (.ireturn, 1) := by decide +kernel
theorem dX12_whyNoGuess_31 : decode cX12_whyNoGuess 31 = .ok (.aload_n 0, 1) := by decide +kernel
theorem dX12_whyNoGuess_32 : decode cX12_whyNoGuess 32 = .ok (.iload_n 1, 1) := by decide +kernel
theorem dX12_whyNoGuess_33 : decode cX12_whyNoGuess 33 = .ok (.iload_n 3, 1) := by decide +kernel
theorem dX12_whyNoGuess_34 : decode cX12_whyNoGuess 34 = .ok (.invokevirtual 143, 3) := by decide +kernel
theorem dX12_whyNoGuess_37 : decode cX12_whyNoGuess 37 = .ok (.ifCond .le 7, 3) := by decide +kernel
theorem dX12_whyNoGuess_40 : decode cX12_whyNoGuess 40 = .ok (.iconst 0, 1) := by decide +kernel
theorem dX12_whyNoGuess_41 : decode cX12_whyNoGuess 41 = .ok (.goto 5, 3) := by decide +kernel
theorem dX12_whyNoGuess_44 : decode cX12_whyNoGuess 44 = .ok (.bipush (-2), 2) := by decide +kernel
theorem dX12_whyNoGuess_46 : decode cX12_whyNoGuess 46 = .ok (.ireturn, 1) := by decide +kernel
theorem dX12_guess_0 : decode cX12_guess 0 = .ok (.aload_n 0, 1) := by decide +kernel
theorem dX12_guess_1 : decode cX12_guess 1 = .ok (.iload_n 1, 1) := by decide +kernel
theorem dX12_guess_2 : decode cX12_guess 2 = .ok (.iload_n 2, 1) := by decide +kernel
theorem dX12_guess_3 : decode cX12_guess 3 = .ok (.iload_n 3, 1) := by decide +kernel
theorem dX12_guess_4 : decode cX12_guess 4 = .ok (.invokevirtual 179, 3) := by decide +kernel
theorem dX12_guess_7 : decode cX12_guess 7 = .ok (.istore 4, 2) := by decide +kernel
theorem dX12_guess_9 : decode cX12_guess 9 = .ok (.iload 4, 2) := by decide +kernel
theorem dX12_guess_11 : decode cX12_guess 11 = .ok (.ifCond .eq 8, 3) := by decide +kernel
theorem dX12_guess_14 : decode cX12_guess 14 = .ok (.iload 4, 2) := by decide +kernel
theorem dX12_guess_16 : decode cX12_guess 16 = .ok (.goto 10, 3) := by decide +kernel
theorem dX12_guess_19 : decode cX12_guess 19 = .ok (.aload_n 0, 1) := by decide +kernel
theorem dX12_guess_20 : decode cX12_guess 20 = .ok (.iload_n 1, 1) := by decide +kernel
theorem dX12_guess_21 : decode cX12_guess 21 = .ok (.iload_n 2, 1) := by decide +kernel
theorem dX12_guess_22 : decode cX12_guess 22 = .ok (.iload_n 3, 1) := by decide +kernel
theorem dX12_guess_23 : decode cX12_guess 23 = .ok (.invokevirtual 146, 3) := by decide +kernel
theorem dX12_guess_26 : decode cX12_guess 26 = .ok (.ireturn, 1) := by decide +kernel
theorem dX12_mended_0 : decode cX12_mended 0 = .ok (.aload_n 0, 1) := by decide +kernel
theorem dX12_mended_1 : decode cX12_mended 1 = .ok (.iload_n 1, 1) := by decide +kernel
theorem dX12_mended_2 : decode cX12_mended 2 = .ok (.iload_n 2, 1) := by decide +kernel
theorem dX12_mended_3 : decode cX12_mended 3 = .ok (.iload_n 3, 1) := by decide +kernel
theorem dX12_mended_4 : decode cX12_mended 4 = .ok (.invokevirtual 179, 3) := by decide +kernel
theorem dX12_mended_7 : decode cX12_mended 7 = .ok (.istore 4, 2) := by decide +kernel
theorem dX12_mended_9 : decode cX12_mended 9 = .ok (.iload 4, 2) := by decide +kernel
theorem dX12_mended_11 : decode cX12_mended 11 = .ok (.ifCond .eq 6, 3) := by decide +kernel
theorem dX12_mended_14 : decode cX12_mended 14 = .ok (.iload 4, 2) := by decide +kernel
theorem dX12_mended_16 : decode cX12_mended 16 = .ok (.ireturn, 1) := by decide +kernel
theorem dX12_mended_17 : decode cX12_mended 17 = .ok (.aload_n 0, 1) := by decide +kernel
theorem dX12_mended_18 : decode cX12_mended 18 = .ok (.getfield 19, 3) := by decide +kernel
theorem dX12_mended_21 : decode cX12_mended 21 = .ok (.sipush 406, 3) := by decide +kernel
theorem dX12_mended_24 : decode cX12_mended 24 = .ok (.iload_n 1, 1) := by decide +kernel
theorem dX12_mended_25 : decode cX12_mended 25 = .ok (.iload_n 2, 1) := by decide +kernel
theorem dX12_mended_26 : decode cX12_mended 26 = .ok (.iload_n 3, 1) := by decide +kernel
theorem dX12_mended_27 : decode cX12_mended 27 = .ok (.invokestatic 139, 3) := by decide +kernel
theorem dX12_mended_30 : decode cX12_mended 30 = .ok (.iadd, 1) := by decide +kernel
theorem dX12_mended_31 : decode cX12_mended 31 = .ok (.iaload, 1) := by decide +kernel
theorem dX12_mended_32 : decode cX12_mended 32 = .ok (.istore 5, 2) := by decide +kernel
theorem dX12_mended_34 : decode cX12_mended 34 = .ok (.iload 5, 2) := by decide +kernel
theorem dX12_mended_36 : decode cX12_mended 36 = .ok (.ifCond .ge 8, 3) := by decide +kernel
theorem dX12_mended_39 : decode cX12_mended 39 = .ok (.bipush (-9), 2) := by decide +kernel
theorem dX12_mended_41 : decode cX12_mended 41 = .ok (.goto 5, 3) := by decide +kernel
theorem dX12_mended_44 : decode cX12_mended 44 = .ok (.iload 5, 2) := by decide +kernel
theorem dX12_mended_46 : decode cX12_mended 46 = .ok (.ireturn, 1) := by decide +kernel
theorem dX12_best_0 : decode cX12_best 0 = .ok (.aload_n 0, 1) := by decide +kernel
theorem dX12_best_1 : decode cX12_best 1 = .ok (.iload_n 1, 1) := by decide +kernel
theorem dX12_best_2 : decode cX12_best 2 = .ok (.invokevirtual 162, 3) := by decide +kernel
theorem dX12_best_5 : decode cX12_best 5 = .ok (.ifCond .eq 25, 3) := by decide +kernel
theorem dX12_best_8 : decode cX12_best 8 = .ok (.aload_n 0, 1) := by decide +kernel
theorem dX12_best_9 : decode cX12_best 9 = .ok (.iload_n 2, 1) := by decide +kernel
theorem dX12_best_10 : decode cX12_best 10 = .ok (.invokevirtual 162, 3) := by decide +kernel
theorem dX12_best_13 : decode cX12_best 13 = .ok (.ifCond .eq 17, 3) := by decide +kernel
theorem dX12_best_16 : decode cX12_best 16 = .ok (.iload_n 1, 1) := by decide +kernel
theorem dX12_best_17 : decode cX12_best 17 = .ok (.iload_n 2, 1) := by decide +kernel
theorem dX12_best_18 : decode cX12_best 18 = .ok (.if_icmp .eq 12, 3) := by decide +kernel
theorem dX12_best_21 : decode cX12_best 21 = .ok (.aload_n 0, 1) := by decide +kernel
theorem dX12_best_22 : decode cX12_best 22 = .ok (.iload_n 1, 1) := by decide +kernel
theorem dX12_best_23 : decode cX12_best 23 = .ok (.iload_n 2, 1) := by decide +kernel
theorem dX12_best_24 : decode cX12_best 24 = .ok (.invokevirtual 155, 3) := by decide +kernel
theorem dX12_best_27 : decode cX12_best 27 = .ok (.goto 4, 3) := by decide +kernel
theorem dX12_best_30 : decode cX12_best 30 = .ok (.iconst (-1), 1) := by decide +kernel
theorem dX12_best_31 : decode cX12_best 31 = .ok (.ireturn, 1) := by decide +kernel
theorem dX12_node_0 : decode cX12_node 0 = .ok (.aload_n 0, 1) := by decide +kernel
theorem dX12_node_1 : decode cX12_node 1 = .ok (.iload_n 1, 1) := by decide +kernel
theorem dX12_node_2 : decode cX12_node 2 = .ok (.invokevirtual 162, 3) := by decide +kernel
theorem dX12_node_5 : decode cX12_node 5 = .ok (.ifCond .eq 12, 3) := by decide +kernel
theorem dX12_node_8 : decode cX12_node 8 = .ok (.iload_n 2, 1) := by decide +kernel
theorem dX12_node_9 : decode cX12_node 9 = .ok (.iconst 0, 1) := by decide +kernel
theorem dX12_node_10 : decode cX12_node 10 = .ok (.iconst 2, 1) := by decide +kernel
theorem dX12_node_11 : decode cX12_node 11 = .ok (.invokestatic 58, 3) := by decide +kernel
theorem dX12_node_14 : decode cX12_node 14 = .ok (.ifCond .ne 5, 3) := by decide +kernel
theorem dX12_node_17 : decode cX12_node 17 = .ok (.iconst (-1), 1) := by decide +kernel
theorem dX12_node_18 : decode cX12_node 18 = .ok (.ireturn, 1) := by decide +kernel
theorem dX12_node_19 : decode cX12_node 19 = .ok (.iconst 0, 1) := by decide +kernel
theorem dX12_node_20 : decode cX12_node 20 = .ok (.istore_n 3, 1) := by decide +kernel
theorem dX12_node_21 : decode cX12_node 21 = .ok (.iconst 0, 1) := by decide +kernel
theorem dX12_node_22 : decode cX12_node 22 = .ok (.istore 4, 2) := by decide +kernel
theorem dX12_node_24 : decode cX12_node 24 = .ok (.iload 4, 2) := by decide +kernel
theorem dX12_node_26 : decode cX12_node 26 = .ok (.aload_n 0, 1) := by decide +kernel
theorem dX12_node_27 : decode cX12_node 27 = .ok (.getfield 7, 3) := by decide +kernel
theorem dX12_node_30 : decode cX12_node 30 = .ok (.if_icmp .ge 27, 3) := by decide +kernel
theorem dX12_node_33 : decode cX12_node 33 = .ok (.iload_n 3, 1) := by decide +kernel
theorem dX12_node_34 : decode cX12_node 34 = .ok (.aload_n 0, 1) := by decide +kernel
theorem dX12_node_35 : decode cX12_node 35 = .ok (.iload_n 1, 1) := by decide +kernel
theorem dX12_node_36 : decode cX12_node 36 = .ok (.iload 4, 2) := by decide +kernel
theorem dX12_node_38 : decode cX12_node 38 = .ok (.invokevirtual 143, 3) := by decide +kernel
theorem dX12_node_41 : decode cX12_node 41 = .ok (.ifCond .le 7, 3) := by decide +kernel
theorem dX12_node_44 : decode cX12_node 44 = .ok (.iconst 1, 1) := by decide +kernel
theorem dX12_node_45 : decode cX12_node 45 = .ok (.goto 4, 3) := by decide +kernel
theorem dX12_node_48 : decode cX12_node 48 = .ok (.iconst 0, 1) := by decide +kernel
theorem dX12_node_49 : decode cX12_node 49 = .ok (.iadd, 1) := by decide +kernel
theorem dX12_node_50 : decode cX12_node 50 = .ok (.istore_n 3, 1) := by decide +kernel
theorem dX12_node_51 : decode cX12_node 51 = .ok (.iinc 4 1, 3) := by decide +kernel
theorem dX12_node_54 : decode cX12_node 54 = .ok (.goto (-30), 3) := by decide +kernel
theorem dX12_node_57 : decode cX12_node 57 = .ok (.iload_n 2, 1) := by decide +kernel
theorem dX12_node_58 : decode cX12_node 58 = .ok (.ifCond .ne 15, 3) := by decide +kernel
theorem dX12_node_61 : decode cX12_node 61 = .ok (.aload_n 0, 1) := by decide +kernel
theorem dX12_node_62 : decode cX12_node 62 = .ok (.getfield 19, 3) := by decide +kernel
theorem dX12_node_65 : decode cX12_node 65 = .ok (.bipush 106, 2) := by decide +kernel
theorem dX12_node_67 : decode cX12_node 67 = .ok (.iload_n 1, 1) := by decide +kernel
theorem dX12_node_68 : decode cX12_node 68 = .ok (.iadd, 1) := by decide +kernel
theorem dX12_node_69 : decode cX12_node 69 = .ok (.iaload, 1) := by decide +kernel
theorem dX12_node_70 : decode cX12_node 70 = .ok (.goto 21, 3) := by decide +kernel
theorem dX12_node_73 : decode cX12_node 73 = .ok (.iload_n 2, 1) := by decide +kernel
theorem dX12_node_74 : decode cX12_node 74 = .ok (.iconst 1, 1) := by decide +kernel
theorem dX12_node_75 : decode cX12_node 75 = .ok (.if_icmp .ne 15, 3) := by decide +kernel
theorem dX12_node_78 : decode cX12_node 78 = .ok (.aload_n 0, 1) := by decide +kernel
theorem dX12_node_79 : decode cX12_node 79 = .ok (.getfield 19, 3) := by decide +kernel
theorem dX12_node_82 : decode cX12_node 82 = .ok (.bipush 112, 2) := by decide +kernel
theorem dX12_node_84 : decode cX12_node 84 = .ok (.iload_n 1, 1) := by decide +kernel
theorem dX12_node_85 : decode cX12_node 85 = .ok (.iadd, 1) := by decide +kernel
theorem dX12_node_86 : decode cX12_node 86 = .ok (.iaload, 1) := by decide +kernel
theorem dX12_node_87 : decode cX12_node 87 = .ok (.goto 4, 3) := by decide +kernel
theorem dX12_node_90 : decode cX12_node 90 = .ok (.iload_n 3, 1) := by decide +kernel
theorem dX12_node_91 : decode cX12_node 91 = .ok (.ireturn, 1) := by decide +kernel
theorem dX12_used_0 : decode cX12_used 0 = .ok (.aload_n 0, 1) := by decide +kernel
theorem dX12_used_1 : decode cX12_used 1 = .ok (.iload_n 1, 1) := by decide +kernel
theorem dX12_used_2 : decode cX12_used 2 = .ok (.invokevirtual 135, 3) := by decide +kernel
theorem dX12_used_5 : decode cX12_used 5 = .ok (.istore_n 2, 1) := by decide +kernel
theorem dX12_used_6 : decode cX12_used 6 = .ok (.iload_n 2, 1) := by decide +kernel
theorem dX12_used_7 : decode cX12_used 7 = .ok (.bipush (-9), 2) := by decide +kernel
theorem dX12_used_9 : decode cX12_used 9 = .ok (.if_icmp .ne 7, 3) := by decide +kernel
theorem dX12_used_12 : decode cX12_used 12 = .ok (.iconst (-1), 1) := by decide +kernel
theorem dX12_used_13 : decode cX12_used 13 = .ok (.goto 13, 3) := by decide +kernel
theorem dX12_used_16 : decode cX12_used 16 = .ok (.aload_n 0, 1) := by decide +kernel
theorem dX12_used_17 : decode cX12_used 17 = .ok (.getfield 19, 3) := by decide +kernel
theorem dX12_used_20 : decode cX12_used 20 = .ok (.sipush 154, 3) := by decide +kernel
theorem dX12_used_23 : decode cX12_used 23 = .ok (.iload_n 2, 1) := by decide +kernel
theorem dX12_used_24 : decode cX12_used 24 = .ok (.iadd, 1) := by decide +kernel
theorem dX12_used_25 : decode cX12_used 25 = .ok (.iaload, 1) := by decide +kernel
theorem dX12_used_26 : decode cX12_used 26 = .ok (.ireturn, 1) := by decide +kernel
theorem dX12_way_0 : decode cX12_way 0 = .ok (.iload_n 1, 1) := by decide +kernel
theorem dX12_way_1 : decode cX12_way 1 = .ok (.iconst (-1), 1) := by decide +kernel
theorem dX12_way_2 : decode cX12_way 2 = .ok (.if_icmp .ge 5, 3) := by decide +kernel
theorem dX12_way_5 : decode cX12_way 5 = .ok (.iconst (-1), 1) := by decide +kernel
theorem dX12_way_6 : decode cX12_way 6 = .ok (.ireturn, 1) := by decide +kernel
theorem dX12_way_7 : decode cX12_way 7 = .ok (.aload_n 0, 1) := by decide +kernel
theorem dX12_way_8 : decode cX12_way 8 = .ok (.getfield 19, 3) := by decide +kernel
theorem dX12_way_11 : decode cX12_way 11 = .ok (.iconst 1, 1) := by decide +kernel
theorem dX12_way_12 : decode cX12_way 12 = .ok (.iaload, 1) := by decide +kernel
theorem dX12_way_13 : decode cX12_way 13 = .ok (.istore_n 2, 1) := by decide +kernel
theorem dX12_way_14 : decode cX12_way 14 = .ok (.iload_n 2, 1) := by decide +kernel
theorem dX12_way_15 : decode cX12_way 15 = .ok (.ifCond .lt 8, 3) := by decide +kernel
theorem dX12_way_18 : decode cX12_way 18 = .ok (.iload_n 1, 1) := by decide +kernel
theorem dX12_way_19 : decode cX12_way 19 = .ok (.iload_n 2, 1) := by decide +kernel
theorem dX12_way_20 : decode cX12_way 20 = .ok (.if_icmp .le 6, 3) := by decide +kernel
theorem dX12_way_23 : decode cX12_way 23 = .ok (.bipush (-9), 2) := by decide +kernel
theorem dX12_way_25 : decode cX12_way 25 = .ok (.ireturn, 1) := by decide +kernel
theorem dX12_way_26 : decode cX12_way 26 = .ok (.iload_n 1, 1) := by decide +kernel
theorem dX12_way_27 : decode cX12_way 27 = .ok (.ifCond .ge 7, 3) := by decide +kernel
theorem dX12_way_30 : decode cX12_way 30 = .ok (.iload_n 2, 1) := by decide +kernel
theorem dX12_way_31 : decode cX12_way 31 = .ok (.goto 11, 3) := by decide +kernel
theorem dX12_way_34 : decode cX12_way 34 = .ok (.aload_n 0, 1) := by decide +kernel
theorem dX12_way_35 : decode cX12_way 35 = .ok (.getfield 19, 3) := by decide +kernel
theorem dX12_way_38 : decode cX12_way 38 = .ok (.iconst 2, 1) := by decide +kernel
theorem dX12_way_39 : decode cX12_way 39 = .ok (.iload_n 1, 1) := by decide +kernel
theorem dX12_way_40 : decode cX12_way 40 = .ok (.iadd, 1) := by decide +kernel
theorem dX12_way_41 : decode cX12_way 41 = .ok (.iaload, 1) := by decide +kernel
theorem dX12_way_42 : decode cX12_way 42 = .ok (.ireturn, 1) := by decide +kernel
theorem dX12_laysPath_0 : decode cX12_laysPath 0 = .ok (.aload_n 0, 1) := by decide +kernel
theorem dX12_laysPath_1 : decode cX12_laysPath 1 = .ok (.getfield 39, 3) := by decide +kernel
theorem dX12_laysPath_4 : decode cX12_laysPath 4 = .ok (.iconst 0, 1) := by decide +kernel
theorem dX12_laysPath_5 : decode cX12_laysPath 5 = .ok (.iload_n 1, 1) := by decide +kernel
theorem dX12_laysPath_6 : decode cX12_laysPath 6 = .ok (.iastore, 1) := by decide +kernel
theorem dX12_laysPath_7 : decode cX12_laysPath 7 = .ok (.aload_n 0, 1) := by decide +kernel
theorem dX12_laysPath_8 : decode cX12_laysPath 8 = .ok (.iconst 1, 1) := by decide +kernel
theorem dX12_laysPath_9 : decode cX12_laysPath 9 = .ok (.putfield 182, 3) := by decide +kernel
theorem dX12_laysPath_12 : decode cX12_laysPath 12 = .ok (.aload_n 0, 1) := by decide +kernel
theorem dX12_laysPath_13 : decode cX12_laysPath 13 = .ok (.iconst 0, 1) := by decide +kernel
theorem dX12_laysPath_14 : decode cX12_laysPath 14 = .ok (.putfield 185, 3) := by decide +kernel
theorem dX12_laysPath_17 : decode cX12_laysPath 17 = .ok (.iconst 1, 1) := by decide +kernel
theorem dX12_laysPath_18 : decode cX12_laysPath 18 = .ok (.iload_n 1, 1) := by decide +kernel
theorem dX12_laysPath_19 : decode cX12_laysPath 19 = .ok (.ishl, 1) := by decide +kernel
theorem dX12_laysPath_20 : decode cX12_laysPath 20 = .ok (.istore_n 3, 1) := by decide +kernel
theorem dX12_laysPath_21 : decode cX12_laysPath 21 = .ok (.iload_n 1, 1) := by decide +kernel
theorem dX12_laysPath_22 : decode cX12_laysPath 22 = .ok (.istore 4, 2) := by decide +kernel
theorem dX12_laysPath_24 : decode cX12_laysPath 24 = .ok (.iload 4, 2) := by decide +kernel
theorem dX12_laysPath_26 : decode cX12_laysPath 26 = .ok (.iload_n 2, 1) := by decide +kernel
theorem dX12_laysPath_27 : decode cX12_laysPath 27 = .ok (.if_icmp .eq 82, 3) := by decide +kernel
theorem dX12_laysPath_30 : decode cX12_laysPath 30 = .ok (.aload_n 0, 1) := by decide +kernel
theorem dX12_laysPath_31 : decode cX12_laysPath 31 = .ok (.iload 4, 2) := by decide +kernel
theorem dX12_laysPath_33 : decode cX12_laysPath 33 = .ok (.iload_n 2, 1) := by decide +kernel
theorem dX12_laysPath_34 : decode cX12_laysPath 34 = .ok (.invokevirtual 155, 3) := by decide +kernel
theorem dX12_laysPath_37 : decode cX12_laysPath 37 = .ok (.istore 5, 2) := by decide +kernel
theorem dX12_laysPath_39 : decode cX12_laysPath 39 = .ok (.iload 5, 2) := by decide +kernel
theorem dX12_laysPath_41 : decode cX12_laysPath 41 = .ok (.bipush (-9), 2) := by decide +kernel
theorem dX12_laysPath_43 : decode cX12_laysPath 43 = .ok (.if_icmp .eq 12, 3) := by decide +kernel
theorem dX12_laysPath_46 : decode cX12_laysPath 46 = .ok (.iload_n 3, 1) := by decide +kernel
theorem dX12_laysPath_47 : decode cX12_laysPath 47 = .ok (.iload 5, 2) := by decide +kernel
theorem dX12_laysPath_49 : decode cX12_laysPath 49 = .ok (.invokestatic 188, 3) := by decide +kernel
theorem dX12_laysPath_52 : decode cX12_laysPath 52 = .ok (.ifCond .eq 5, 3) := by decide +kernel
theorem dX12_laysPath_55 : decode cX12_laysPath 55 = .ok (.iconst 0, 1) := by decide +kernel
theorem dX12_laysPath_56 : decode cX12_laysPath 56 = .ok (.ireturn, 1) := by decide +kernel
theorem dX12_laysPath_57 : decode cX12_laysPath 57 = .ok (.aload_n 0, 1) := by decide +kernel
theorem dX12_laysPath_58 : decode cX12_laysPath 58 = .ok (.dup, 1) := by decide +kernel
theorem dX12_laysPath_59 : decode cX12_laysPath 59 = .ok (.getfield 185, 3) := by decide +kernel
theorem dX12_laysPath_62 : decode cX12_laysPath 62 = .ok (.aload_n 0, 1) := by decide +kernel
theorem dX12_laysPath_63 : decode cX12_laysPath 63 = .ok (.iload 4, 2) := by decide +kernel
theorem dX12_laysPath_65 : decode cX12_laysPath 65 = .ok (.iload 5, 2) := by decide +kernel
theorem dX12_laysPath_67 : decode cX12_laysPath 67 = .ok (.invokevirtual 143, 3) := by decide +kernel
theorem dX12_laysPath_70 : decode cX12_laysPath 70 = .ok (.iadd, 1) := by decide +kernel
theorem dX12_laysPath_71 : decode cX12_laysPath 71 = .ok (.putfield 185, 3) := by decide +kernel
theorem dX12_laysPath_74 : decode cX12_laysPath 74 = .ok (.iload_n 3, 1) := by decide +kernel
theorem dX12_laysPath_75 : decode cX12_laysPath 75 = .ok (.iconst 1, 1) := by decide +kernel
theorem dX12_laysPath_76 : decode cX12_laysPath 76 = .ok (.iload 5, 2) := by decide +kernel
theorem dX12_laysPath_78 : decode cX12_laysPath 78 = .ok (.ishl, 1) := by decide +kernel
theorem dX12_laysPath_79 : decode cX12_laysPath 79 = .ok (.ior, 1) := by decide +kernel
theorem dX12_laysPath_80 : decode cX12_laysPath 80 = .ok (.istore_n 3, 1) := by decide +kernel
theorem dX12_laysPath_81 : decode cX12_laysPath 81 = .ok (.aload_n 0, 1) := by decide +kernel
theorem dX12_laysPath_82 : decode cX12_laysPath 82 = .ok (.getfield 39, 3) := by decide +kernel
theorem dX12_laysPath_85 : decode cX12_laysPath 85 = .ok (.aload_n 0, 1) := by decide +kernel
theorem dX12_laysPath_86 : decode cX12_laysPath 86 = .ok (.getfield 182, 3) := by decide +kernel
theorem dX12_laysPath_89 : decode cX12_laysPath 89 = .ok (.iload 5, 2) := by decide +kernel
theorem dX12_laysPath_91 : decode cX12_laysPath 91 = .ok (.iastore, 1) := by decide +kernel
theorem dX12_laysPath_92 : decode cX12_laysPath 92 = .ok (.aload_n 0, 1) := by decide +kernel
theorem dX12_laysPath_93 : decode cX12_laysPath 93 = .ok (.dup, 1) := by decide +kernel
theorem dX12_laysPath_94 : decode cX12_laysPath 94 = .ok (.getfield 182, 3) := by decide +kernel
theorem dX12_laysPath_97 : decode cX12_laysPath 97 = .ok (.iconst 1, 1) := by decide +kernel
theorem dX12_laysPath_98 : decode cX12_laysPath 98 = .ok (.iadd, 1) := by decide +kernel
theorem dX12_laysPath_99 : decode cX12_laysPath 99 = .ok (.putfield 182, 3) := by decide +kernel
theorem dX12_laysPath_102 : decode cX12_laysPath 102 = .ok (.iload 5, 2) := by decide +kernel
theorem dX12_laysPath_104 : decode cX12_laysPath 104 = .ok (.istore 4, 2) := by decide +kernel
theorem dX12_laysPath_106 : decode cX12_laysPath 106 = .ok (.goto (-82), 3) := by decide +kernel
theorem dX12_laysPath_109 : decode cX12_laysPath 109 = .ok (.iconst 1, 1) := by decide +kernel
theorem dX12_laysPath_110 : decode cX12_laysPath 110 = .ok (.ireturn, 1) := by decide +kernel
theorem dX12_path_0 : decode cX12_path 0 = .ok (.aload_n 0, 1) := by decide +kernel
theorem dX12_path_1 : decode cX12_path 1 = .ok (.iload_n 1, 1) := by decide +kernel
theorem dX12_path_2 : decode cX12_path 2 = .ok (.invokevirtual 162, 3) := by decide +kernel
theorem dX12_path_5 : decode cX12_path 5 = .ok (.ifCond .eq 21, 3) := by decide +kernel
theorem dX12_path_8 : decode cX12_path 8 = .ok (.aload_n 0, 1) := by decide +kernel
theorem dX12_path_9 : decode cX12_path 9 = .ok (.iload_n 2, 1) := by decide +kernel
theorem dX12_path_10 : decode cX12_path 10 = .ok (.invokevirtual 162, 3) := by decide +kernel
theorem dX12_path_13 : decode cX12_path 13 = .ok (.ifCond .eq 13, 3) := by decide +kernel
theorem dX12_path_16 : decode cX12_path 16 = .ok (.iload_n 1, 1) := by decide +kernel
theorem dX12_path_17 : decode cX12_path 17 = .ok (.iload_n 2, 1) := by decide +kernel
theorem dX12_path_18 : decode cX12_path 18 = .ok (.if_icmp .eq 8, 3) := by decide +kernel
theorem dX12_path_21 : decode cX12_path 21 = .ok (.iload_n 3, 1) := by decide +kernel
theorem dX12_path_22 : decode cX12_path 22 = .ok (.iconst (-1), 1) := by decide +kernel
theorem dX12_path_23 : decode cX12_path 23 = .ok (.if_icmp .ge 5, 3) := by decide +kernel
theorem dX12_path_26 : decode cX12_path 26 = .ok (.iconst (-1), 1) := by decide +kernel
theorem dX12_path_27 : decode cX12_path 27 = .ok (.ireturn, 1) := by decide +kernel
theorem dX12_path_28 : decode cX12_path 28 = .ok (.aload_n 0, 1) := by decide +kernel
theorem dX12_path_29 : decode cX12_path 29 = .ok (.iload_n 1, 1) := by decide +kernel
theorem dX12_path_30 : decode cX12_path 30 = .ok (.iload_n 2, 1) := by decide +kernel
theorem dX12_path_31 : decode cX12_path 31 = .ok (.invokevirtual 191, 3) := by decide +kernel
theorem dX12_path_34 : decode cX12_path 34 = .ok (.pop, 1) := by decide +kernel
theorem dX12_path_35 : decode cX12_path 35 = .ok (.iload_n 3, 1) := by decide +kernel
theorem dX12_path_36 : decode cX12_path 36 = .ok (.ifCond .ge 10, 3) := by decide +kernel
theorem dX12_path_39 : decode cX12_path 39 = .ok (.aload_n 0, 1) := by decide +kernel
theorem dX12_path_40 : decode cX12_path 40 = .ok (.getfield 182, 3) := by decide +kernel
theorem dX12_path_43 : decode cX12_path 43 = .ok (.goto 22, 3) := by decide +kernel
theorem dX12_path_46 : decode cX12_path 46 = .ok (.iload_n 3, 1) := by decide +kernel
theorem dX12_path_47 : decode cX12_path 47 = .ok (.aload_n 0, 1) := by decide +kernel
theorem dX12_path_48 : decode cX12_path 48 = .ok (.getfield 182, 3) := by decide +kernel
theorem dX12_path_51 : decode cX12_path 51 = .ok (.if_icmp .ge 12, 3) := by decide +kernel
theorem dX12_path_54 : decode cX12_path 54 = .ok (.aload_n 0, 1) := by decide +kernel
theorem dX12_path_55 : decode cX12_path 55 = .ok (.getfield 39, 3) := by decide +kernel
theorem dX12_path_58 : decode cX12_path 58 = .ok (.iload_n 3, 1) := by decide +kernel
theorem dX12_path_59 : decode cX12_path 59 = .ok (.iaload, 1) := by decide +kernel
theorem dX12_path_60 : decode cX12_path 60 = .ok (.goto 5, 3) := by decide +kernel
theorem dX12_path_63 : decode cX12_path 63 = .ok (.bipush (-9), 2) := by decide +kernel
theorem dX12_path_65 : decode cX12_path 65 = .ok (.ireturn, 1) := by decide +kernel
theorem dX12_astray_0 : decode cX12_astray 0 = .ok (.aload_n 0, 1) := by decide +kernel
theorem dX12_astray_1 : decode cX12_astray 1 = .ok (.iload_n 1, 1) := by decide +kernel
theorem dX12_astray_2 : decode cX12_astray 2 = .ok (.invokevirtual 162, 3) := by decide +kernel
theorem dX12_astray_5 : decode cX12_astray 5 = .ok (.ifCond .ne 5, 3) := by decide +kernel
theorem dX12_astray_8 : decode cX12_astray 8 = .ok (.iconst (-1), 1) := by decide +kernel
theorem dX12_astray_9 : decode cX12_astray 9 = .ok (.ireturn, 1) := by decide +kernel
theorem dX12_astray_10 : decode cX12_astray 10 = .ok (.iconst 0, 1) := by decide +kernel
theorem dX12_astray_11 : decode cX12_astray 11 = .ok (.istore_n 2, 1) := by decide +kernel
theorem dX12_astray_12 : decode cX12_astray 12 = .ok (.iconst 0, 1) := by decide +kernel
theorem dX12_astray_13 : decode cX12_astray 13 = .ok (.istore_n 3, 1) := by decide +kernel
theorem dX12_astray_14 : decode cX12_astray 14 = .ok (.iload_n 3, 1) := by decide +kernel
theorem dX12_astray_15 : decode cX12_astray 15 = .ok (.aload_n 0, 1) := by decide +kernel
theorem dX12_astray_16 : decode cX12_astray 16 = .ok (.getfield 7, 3) := by decide +kernel
theorem dX12_astray_19 : decode cX12_astray 19 = .ok (.if_icmp .ge 31, 3) := by decide +kernel
theorem dX12_astray_22 : decode cX12_astray 22 = .ok (.iload_n 2, 1) := by decide +kernel
theorem dX12_astray_23 : decode cX12_astray 23 = .ok (.iload_n 3, 1) := by decide +kernel
theorem dX12_astray_24 : decode cX12_astray 24 = .ok (.iload_n 1, 1) := by decide +kernel
theorem dX12_astray_25 : decode cX12_astray 25 = .ok (.if_icmp .eq 16, 3) := by decide +kernel
theorem dX12_astray_28 : decode cX12_astray 28 = .ok (.aload_n 0, 1) := by decide +kernel
theorem dX12_astray_29 : decode cX12_astray 29 = .ok (.iload_n 3, 1) := by decide +kernel
theorem dX12_astray_30 : decode cX12_astray 30 = .ok (.iload_n 1, 1) := by decide +kernel
theorem dX12_astray_31 : decode cX12_astray 31 = .ok (.invokevirtual 191, 3) := by decide +kernel
theorem dX12_astray_34 : decode cX12_astray 34 = .ok (.ifCond .ne 7, 3) := by decide +kernel
theorem dX12_astray_37 : decode cX12_astray 37 = .ok (.iconst 1, 1) := by decide +kernel
theorem dX12_astray_38 : decode cX12_astray 38 = .ok (.goto 4, 3) := by decide +kernel
theorem dX12_astray_41 : decode cX12_astray 41 = .ok (.iconst 0, 1) := by decide +kernel
theorem dX12_astray_42 : decode cX12_astray 42 = .ok (.iadd, 1) := by decide +kernel
theorem dX12_astray_43 : decode cX12_astray 43 = .ok (.istore_n 2, 1) := by decide +kernel
theorem dX12_astray_44 : decode cX12_astray 44 = .ok (.iinc 3 1, 3) := by decide +kernel
theorem dX12_astray_47 : decode cX12_astray 47 = .ok (.goto (-33), 3) := by decide +kernel
theorem dX12_astray_50 : decode cX12_astray 50 = .ok (.iload_n 2, 1) := by decide +kernel
theorem dX12_astray_51 : decode cX12_astray 51 = .ok (.ireturn, 1) := by decide +kernel
theorem dX12_laysFar_0 : decode cX12_laysFar 0 = .ok (.iconst 0, 1) := by decide +kernel
theorem dX12_laysFar_1 : decode cX12_laysFar 1 = .ok (.istore_n 2, 1) := by decide +kernel
theorem dX12_laysFar_2 : decode cX12_laysFar 2 = .ok (.iload_n 2, 1) := by decide +kernel
theorem dX12_laysFar_3 : decode cX12_laysFar 3 = .ok (.aload_n 0, 1) := by decide +kernel
theorem dX12_laysFar_4 : decode cX12_laysFar 4 = .ok (.getfield 7, 3) := by decide +kernel
theorem dX12_laysFar_7 : decode cX12_laysFar 7 = .ok (.if_icmp .ge 84, 3) := by decide +kernel
theorem dX12_laysFar_10 : decode cX12_laysFar 10 = .ok (.iconst 0, 1) := by decide +kernel
theorem dX12_laysFar_11 : decode cX12_laysFar 11 = .ok (.istore_n 3, 1) := by decide +kernel
theorem dX12_laysFar_12 : decode cX12_laysFar 12 = .ok (.iload_n 3, 1) := by decide +kernel
theorem dX12_laysFar_13 : decode cX12_laysFar 13 = .ok (.aload_n 0, 1) := by decide +kernel
theorem dX12_laysFar_14 : decode cX12_laysFar 14 = .ok (.getfield 7, 3) := by decide +kernel
theorem dX12_laysFar_17 : decode cX12_laysFar 17 = .ok (.if_icmp .ge 68, 3) := by decide +kernel
theorem dX12_laysFar_20 : decode cX12_laysFar 20 = .ok (.iload_n 2, 1) := by decide +kernel
theorem dX12_laysFar_21 : decode cX12_laysFar 21 = .ok (.iload_n 3, 1) := by decide +kernel
theorem dX12_laysFar_22 : decode cX12_laysFar 22 = .ok (.if_icmp .eq 12, 3) := by decide +kernel
theorem dX12_laysFar_25 : decode cX12_laysFar 25 = .ok (.iload_n 2, 1) := by decide +kernel
theorem dX12_laysFar_26 : decode cX12_laysFar 26 = .ok (.iload_n 3, 1) := by decide +kernel
theorem dX12_laysFar_27 : decode cX12_laysFar 27 = .ok (.invokestatic 62, 3) := by decide +kernel
theorem dX12_laysFar_30 : decode cX12_laysFar 30 = .ok (.iload_n 1, 1) := by decide +kernel
theorem dX12_laysFar_31 : decode cX12_laysFar 31 = .ok (.if_icmp .ne 7, 3) := by decide +kernel
theorem dX12_laysFar_34 : decode cX12_laysFar 34 = .ok (.iconst 0, 1) := by decide +kernel
theorem dX12_laysFar_35 : decode cX12_laysFar 35 = .ok (.goto 9, 3) := by decide +kernel
theorem dX12_laysFar_38 : decode cX12_laysFar 38 = .ok (.aload_n 0, 1) := by decide +kernel
theorem dX12_laysFar_39 : decode cX12_laysFar 39 = .ok (.iload_n 2, 1) := by decide +kernel
theorem dX12_laysFar_40 : decode cX12_laysFar 40 = .ok (.iload_n 3, 1) := by decide +kernel
theorem dX12_laysFar_41 : decode cX12_laysFar 41 = .ok (.invokevirtual 143, 3) := by decide +kernel
theorem dX12_laysFar_44 : decode cX12_laysFar 44 = .ok (.istore 4, 2) := by decide +kernel
theorem dX12_laysFar_46 : decode cX12_laysFar 46 = .ok (.aload_n 0, 1) := by decide +kernel
theorem dX12_laysFar_47 : decode cX12_laysFar 47 = .ok (.getfield 42, 3) := by decide +kernel
theorem dX12_laysFar_50 : decode cX12_laysFar 50 = .ok (.bipush 6, 2) := by decide +kernel
theorem dX12_laysFar_52 : decode cX12_laysFar 52 = .ok (.iload_n 2, 1) := by decide +kernel
theorem dX12_laysFar_53 : decode cX12_laysFar 53 = .ok (.imul, 1) := by decide +kernel
theorem dX12_laysFar_54 : decode cX12_laysFar 54 = .ok (.iload_n 3, 1) := by decide +kernel
theorem dX12_laysFar_55 : decode cX12_laysFar 55 = .ok (.iadd, 1) := by decide +kernel
theorem dX12_laysFar_56 : decode cX12_laysFar 56 = .ok (.iload_n 2, 1) := by decide +kernel
theorem dX12_laysFar_57 : decode cX12_laysFar 57 = .ok (.iload_n 3, 1) := by decide +kernel
theorem dX12_laysFar_58 : decode cX12_laysFar 58 = .ok (.if_icmp .ne 7, 3) := by decide +kernel
theorem dX12_laysFar_61 : decode cX12_laysFar 61 = .ok (.iconst 0, 1) := by decide +kernel
theorem dX12_laysFar_62 : decode cX12_laysFar 62 = .ok (.goto 16, 3) := by decide +kernel
theorem dX12_laysFar_65 : decode cX12_laysFar 65 = .ok (.iload 4, 2) := by decide +kernel
theorem dX12_laysFar_67 : decode cX12_laysFar 67 = .ok (.ifCond .le 8, 3) := by decide +kernel
theorem dX12_laysFar_70 : decode cX12_laysFar 70 = .ok (.iload 4, 2) := by decide +kernel
theorem dX12_laysFar_72 : decode cX12_laysFar 72 = .ok (.goto 6, 3) := by decide +kernel
theorem dX12_laysFar_75 : decode cX12_laysFar 75 = .ok (.sipush 1000, 3) := by decide +kernel
theorem dX12_laysFar_78 : decode cX12_laysFar 78 = .ok (.iastore, 1) := by decide +kernel
theorem dX12_laysFar_79 : decode cX12_laysFar 79 = .ok (.iinc 3 1, 3) := by decide +kernel
theorem dX12_laysFar_82 : decode cX12_laysFar 82 = .ok (.goto (-70), 3) := by decide +kernel
theorem dX12_laysFar_85 : decode cX12_laysFar 85 = .ok (.iinc 2 1, 3) := by decide +kernel
theorem dX12_laysFar_88 : decode cX12_laysFar 88 = .ok (.goto (-86), 3) := by decide +kernel
theorem dX12_laysFar_91 : decode cX12_laysFar 91 = .ok (.iconst 0, 1) := by decide +kernel
theorem dX12_laysFar_92 : decode cX12_laysFar 92 = .ok (.istore_n 2, 1) := by decide +kernel
theorem dX12_laysFar_93 : decode cX12_laysFar 93 = .ok (.iload_n 2, 1) := by decide +kernel
theorem dX12_laysFar_94 : decode cX12_laysFar 94 = .ok (.aload_n 0, 1) := by decide +kernel
theorem dX12_laysFar_95 : decode cX12_laysFar 95 = .ok (.getfield 7, 3) := by decide +kernel
theorem dX12_laysFar_98 : decode cX12_laysFar 98 = .ok (.if_icmp .ge 115, 3) := by decide +kernel
theorem dX12_laysFar_101 : decode cX12_laysFar 101 = .ok (.iconst 0, 1) := by decide +kernel
theorem dX12_laysFar_102 : decode cX12_laysFar 102 = .ok (.istore_n 3, 1) := by decide +kernel
theorem dX12_laysFar_103 : decode cX12_laysFar 103 = .ok (.iload_n 3, 1) := by decide +kernel
theorem dX12_laysFar_104 : decode cX12_laysFar 104 = .ok (.aload_n 0, 1) := by decide +kernel
theorem dX12_laysFar_105 : decode cX12_laysFar 105 = .ok (.getfield 7, 3) := by decide +kernel
theorem dX12_laysFar_108 : decode cX12_laysFar 108 = .ok (.if_icmp .ge 99, 3) := by decide +kernel
theorem dX12_laysFar_111 : decode cX12_laysFar 111 = .ok (.iconst 0, 1) := by decide +kernel
theorem dX12_laysFar_112 : decode cX12_laysFar 112 = .ok (.istore 4, 2) := by decide +kernel
theorem dX12_laysFar_114 : decode cX12_laysFar 114 = .ok (.iload 4, 2) := by decide +kernel
theorem dX12_laysFar_116 : decode cX12_laysFar 116 = .ok (.aload_n 0, 1) := by decide +kernel
theorem dX12_laysFar_117 : decode cX12_laysFar 117 = .ok (.getfield 7, 3) := by decide +kernel
theorem dX12_laysFar_120 : decode cX12_laysFar 120 = .ok (.if_icmp .ge 81, 3) := by decide +kernel
theorem dX12_laysFar_123 : decode cX12_laysFar 123 = .ok (.aload_n 0, 1) := by decide +kernel
theorem dX12_laysFar_124 : decode cX12_laysFar 124 = .ok (.getfield 42, 3) := by decide +kernel
theorem dX12_laysFar_127 : decode cX12_laysFar 127 = .ok (.bipush 6, 2) := by decide +kernel
theorem dX12_laysFar_129 : decode cX12_laysFar 129 = .ok (.iload_n 3, 1) := by decide +kernel
theorem dX12_laysFar_130 : decode cX12_laysFar 130 = .ok (.imul, 1) := by decide +kernel
theorem dX12_laysFar_131 : decode cX12_laysFar 131 = .ok (.iload_n 2, 1) := by decide +kernel
theorem dX12_laysFar_132 : decode cX12_laysFar 132 = .ok (.iadd, 1) := by decide +kernel
theorem dX12_laysFar_133 : decode cX12_laysFar 133 = .ok (.iaload, 1) := by decide +kernel
theorem dX12_laysFar_134 : decode cX12_laysFar 134 = .ok (.aload_n 0, 1) := by decide +kernel
theorem dX12_laysFar_135 : decode cX12_laysFar 135 = .ok (.getfield 42, 3) := by decide +kernel
theorem dX12_laysFar_138 : decode cX12_laysFar 138 = .ok (.bipush 6, 2) := by decide +kernel
theorem dX12_laysFar_140 : decode cX12_laysFar 140 = .ok (.iload_n 2, 1) := by decide +kernel
theorem dX12_laysFar_141 : decode cX12_laysFar 141 = .ok (.imul, 1) := by decide +kernel
theorem dX12_laysFar_142 : decode cX12_laysFar 142 = .ok (.iload 4, 2) := by decide +kernel
theorem dX12_laysFar_144 : decode cX12_laysFar 144 = .ok (.iadd, 1) := by decide +kernel
theorem dX12_laysFar_145 : decode cX12_laysFar 145 = .ok (.iaload, 1) := by decide +kernel
theorem dX12_laysFar_146 : decode cX12_laysFar 146 = .ok (.iadd, 1) := by decide +kernel
theorem dX12_laysFar_147 : decode cX12_laysFar 147 = .ok (.istore 5, 2) := by decide +kernel
theorem dX12_laysFar_149 : decode cX12_laysFar 149 = .ok (.aload_n 0, 1) := by decide +kernel
theorem dX12_laysFar_150 : decode cX12_laysFar 150 = .ok (.getfield 42, 3) := by decide +kernel
theorem dX12_laysFar_153 : decode cX12_laysFar 153 = .ok (.bipush 6, 2) := by decide +kernel
theorem dX12_laysFar_155 : decode cX12_laysFar 155 = .ok (.iload_n 3, 1) := by decide +kernel
theorem dX12_laysFar_156 : decode cX12_laysFar 156 = .ok (.imul, 1) := by decide +kernel
theorem dX12_laysFar_157 : decode cX12_laysFar 157 = .ok (.iload 4, 2) := by decide +kernel
theorem dX12_laysFar_159 : decode cX12_laysFar 159 = .ok (.iadd, 1) := by decide +kernel
theorem dX12_laysFar_160 : decode cX12_laysFar 160 = .ok (.iload 5, 2) := by decide +kernel
theorem dX12_laysFar_162 : decode cX12_laysFar 162 = .ok (.aload_n 0, 1) := by decide +kernel
theorem dX12_laysFar_163 : decode cX12_laysFar 163 = .ok (.getfield 42, 3) := by decide +kernel
theorem dX12_laysFar_166 : decode cX12_laysFar 166 = .ok (.bipush 6, 2) := by decide +kernel
theorem dX12_laysFar_168 : decode cX12_laysFar 168 = .ok (.iload_n 3, 1) := by decide +kernel
theorem dX12_laysFar_169 : decode cX12_laysFar 169 = .ok (.imul, 1) := by decide +kernel
theorem dX12_laysFar_170 : decode cX12_laysFar 170 = .ok (.iload 4, 2) := by decide +kernel
theorem dX12_laysFar_172 : decode cX12_laysFar 172 = .ok (.iadd, 1) := by decide +kernel
theorem dX12_laysFar_173 : decode cX12_laysFar 173 = .ok (.iaload, 1) := by decide +kernel
theorem dX12_laysFar_174 : decode cX12_laysFar 174 = .ok (.if_icmp .ge 8, 3) := by decide +kernel
theorem dX12_laysFar_177 : decode cX12_laysFar 177 = .ok (.iload 5, 2) := by decide +kernel
theorem dX12_laysFar_179 : decode cX12_laysFar 179 = .ok (.goto 15, 3) := by decide +kernel
theorem dX12_laysFar_182 : decode cX12_laysFar 182 = .ok (.aload_n 0, 1) := by decide +kernel
theorem dX12_laysFar_183 : decode cX12_laysFar 183 = .ok (.getfield 42, 3) := by decide +kernel
theorem dX12_laysFar_186 : decode cX12_laysFar 186 = .ok (.bipush 6, 2) := by decide +kernel
theorem dX12_laysFar_188 : decode cX12_laysFar 188 = .ok (.iload_n 3, 1) := by decide +kernel
theorem dX12_laysFar_189 : decode cX12_laysFar 189 = .ok (.imul, 1) := by decide +kernel
theorem dX12_laysFar_190 : decode cX12_laysFar 190 = .ok (.iload 4, 2) := by decide +kernel
theorem dX12_laysFar_192 : decode cX12_laysFar 192 = .ok (.iadd, 1) := by decide +kernel
theorem dX12_laysFar_193 : decode cX12_laysFar 193 = .ok (.iaload, 1) := by decide +kernel
theorem dX12_laysFar_194 : decode cX12_laysFar 194 = .ok (.iastore, 1) := by decide +kernel
theorem dX12_laysFar_195 : decode cX12_laysFar 195 = .ok (.iinc 4 1, 3) := by decide +kernel
theorem dX12_laysFar_198 : decode cX12_laysFar 198 = .ok (.goto (-84), 3) := by decide +kernel
theorem dX12_laysFar_201 : decode cX12_laysFar 201 = .ok (.iinc 3 1, 3) := by decide +kernel
theorem dX12_laysFar_204 : decode cX12_laysFar 204 = .ok (.goto (-101), 3) := by decide +kernel
theorem dX12_laysFar_207 : decode cX12_laysFar 207 = .ok (.iinc 2 1, 3) := by decide +kernel
theorem dX12_laysFar_210 : decode cX12_laysFar 210 = .ok (.goto (-117), 3) := by decide +kernel
theorem dX12_laysFar_213 : decode cX12_laysFar 213 = .ok (.return_, 1) := by decide +kernel
theorem dX12_farOf_0 : decode cX12_farOf 0 = .ok (.aload_n 0, 1) := by decide +kernel
theorem dX12_farOf_1 : decode cX12_farOf 1 = .ok (.getfield 42, 3) := by decide +kernel
theorem dX12_farOf_4 : decode cX12_farOf 4 = .ok (.bipush 6, 2) := by decide +kernel
theorem dX12_farOf_6 : decode cX12_farOf 6 = .ok (.iload_n 1, 1) := by decide +kernel
theorem dX12_farOf_7 : decode cX12_farOf 7 = .ok (.imul, 1) := by decide +kernel
theorem dX12_farOf_8 : decode cX12_farOf 8 = .ok (.iload_n 2, 1) := by decide +kernel
theorem dX12_farOf_9 : decode cX12_farOf 9 = .ok (.iadd, 1) := by decide +kernel
theorem dX12_farOf_10 : decode cX12_farOf 10 = .ok (.iaload, 1) := by decide +kernel
theorem dX12_farOf_11 : decode cX12_farOf 11 = .ok (.istore_n 3, 1) := by decide +kernel
theorem dX12_farOf_12 : decode cX12_farOf 12 = .ok (.iload_n 3, 1) := by decide +kernel
theorem dX12_farOf_13 : decode cX12_farOf 13 = .ok (.sipush 1000, 3) := by decide +kernel
theorem dX12_farOf_16 : decode cX12_farOf 16 = .ok (.if_icmp .lt 8, 3) := by decide +kernel
theorem dX12_farOf_19 : decode cX12_farOf 19 = .ok (.bipush (-9), 2) := by decide +kernel
theorem dX12_farOf_21 : decode cX12_farOf 21 = .ok (.goto 4, 3) := by decide +kernel
theorem dX12_farOf_24 : decode cX12_farOf 24 = .ok (.iload_n 3, 1) := by decide +kernel
theorem dX12_farOf_25 : decode cX12_farOf 25 = .ok (.ireturn, 1) := by decide +kernel
theorem dX12_least_0 : decode cX12_least 0 = .ok (.aload_n 0, 1) := by decide +kernel
theorem dX12_least_1 : decode cX12_least 1 = .ok (.iload_n 1, 1) := by decide +kernel
theorem dX12_least_2 : decode cX12_least 2 = .ok (.invokevirtual 162, 3) := by decide +kernel
theorem dX12_least_5 : decode cX12_least 5 = .ok (.ifCond .eq 11, 3) := by decide +kernel
theorem dX12_least_8 : decode cX12_least 8 = .ok (.aload_n 0, 1) := by decide +kernel
theorem dX12_least_9 : decode cX12_least 9 = .ok (.iload_n 2, 1) := by decide +kernel
theorem dX12_least_10 : decode cX12_least 10 = .ok (.invokevirtual 162, 3) := by decide +kernel
theorem dX12_least_13 : decode cX12_least 13 = .ok (.ifCond .ne 5, 3) := by decide +kernel
theorem dX12_least_16 : decode cX12_least 16 = .ok (.iconst (-1), 1) := by decide +kernel
theorem dX12_least_17 : decode cX12_least 17 = .ok (.ireturn, 1) := by decide +kernel
theorem dX12_least_18 : decode cX12_least 18 = .ok (.aload_n 0, 1) := by decide +kernel
theorem dX12_least_19 : decode cX12_least 19 = .ok (.bipush (-9), 2) := by decide +kernel
theorem dX12_least_21 : decode cX12_least 21 = .ok (.invokevirtual 194, 3) := by decide +kernel
theorem dX12_least_24 : decode cX12_least 24 = .ok (.aload_n 0, 1) := by decide +kernel
theorem dX12_least_25 : decode cX12_least 25 = .ok (.iload_n 1, 1) := by decide +kernel
theorem dX12_least_26 : decode cX12_least 26 = .ok (.iload_n 2, 1) := by decide +kernel
theorem dX12_least_27 : decode cX12_least 27 = .ok (.invokevirtual 198, 3) := by decide +kernel
theorem dX12_least_30 : decode cX12_least 30 = .ok (.ireturn, 1) := by decide +kernel
theorem dX12_right_0 : decode cX12_right 0 = .ok (.aload_n 0, 1) := by decide +kernel
theorem dX12_right_1 : decode cX12_right 1 = .ok (.bipush (-9), 2) := by decide +kernel
theorem dX12_right_3 : decode cX12_right 3 = .ok (.invokevirtual 194, 3) := by decide +kernel
theorem dX12_right_6 : decode cX12_right 6 = .ok (.iconst 0, 1) := by decide +kernel
theorem dX12_right_7 : decode cX12_right 7 = .ok (.istore_n 1, 1) := by decide +kernel
theorem dX12_right_8 : decode cX12_right 8 = .ok (.iconst 0, 1) := by decide +kernel
theorem dX12_right_9 : decode cX12_right 9 = .ok (.istore_n 2, 1) := by decide +kernel
theorem dX12_right_10 : decode cX12_right 10 = .ok (.iload_n 2, 1) := by decide +kernel
theorem dX12_right_11 : decode cX12_right 11 = .ok (.aload_n 0, 1) := by decide +kernel
theorem dX12_right_12 : decode cX12_right 12 = .ok (.getfield 7, 3) := by decide +kernel
theorem dX12_right_15 : decode cX12_right 15 = .ok (.if_icmp .ge 60, 3) := by decide +kernel
theorem dX12_right_18 : decode cX12_right 18 = .ok (.iconst 0, 1) := by decide +kernel
theorem dX12_right_19 : decode cX12_right 19 = .ok (.istore_n 3, 1) := by decide +kernel
theorem dX12_right_20 : decode cX12_right 20 = .ok (.iload_n 3, 1) := by decide +kernel
theorem dX12_right_21 : decode cX12_right 21 = .ok (.aload_n 0, 1) := by decide +kernel
theorem dX12_right_22 : decode cX12_right 22 = .ok (.getfield 7, 3) := by decide +kernel
theorem dX12_right_25 : decode cX12_right 25 = .ok (.if_icmp .ge 44, 3) := by decide +kernel
theorem dX12_right_28 : decode cX12_right 28 = .ok (.iload_n 1, 1) := by decide +kernel
theorem dX12_right_29 : decode cX12_right 29 = .ok (.iload_n 2, 1) := by decide +kernel
theorem dX12_right_30 : decode cX12_right 30 = .ok (.iload_n 3, 1) := by decide +kernel
theorem dX12_right_31 : decode cX12_right 31 = .ok (.if_icmp .eq 29, 3) := by decide +kernel
theorem dX12_right_34 : decode cX12_right 34 = .ok (.aload_n 0, 1) := by decide +kernel
theorem dX12_right_35 : decode cX12_right 35 = .ok (.iload_n 2, 1) := by decide +kernel
theorem dX12_right_36 : decode cX12_right 36 = .ok (.iload_n 3, 1) := by decide +kernel
theorem dX12_right_37 : decode cX12_right 37 = .ok (.invokevirtual 191, 3) := by decide +kernel
theorem dX12_right_40 : decode cX12_right 40 = .ok (.ifCond .eq 20, 3) := by decide +kernel
theorem dX12_right_43 : decode cX12_right 43 = .ok (.aload_n 0, 1) := by decide +kernel
theorem dX12_right_44 : decode cX12_right 44 = .ok (.getfield 185, 3) := by decide +kernel
theorem dX12_right_47 : decode cX12_right 47 = .ok (.aload_n 0, 1) := by decide +kernel
theorem dX12_right_48 : decode cX12_right 48 = .ok (.iload_n 2, 1) := by decide +kernel
theorem dX12_right_49 : decode cX12_right 49 = .ok (.iload_n 3, 1) := by decide +kernel
theorem dX12_right_50 : decode cX12_right 50 = .ok (.invokevirtual 198, 3) := by decide +kernel
theorem dX12_right_53 : decode cX12_right 53 = .ok (.if_icmp .ne 7, 3) := by decide +kernel
theorem dX12_right_56 : decode cX12_right 56 = .ok (.iconst 1, 1) := by decide +kernel
theorem dX12_right_57 : decode cX12_right 57 = .ok (.goto 4, 3) := by decide +kernel
theorem dX12_right_60 : decode cX12_right 60 = .ok (.iconst 0, 1) := by decide +kernel
theorem dX12_right_61 : decode cX12_right 61 = .ok (.iadd, 1) := by decide +kernel
theorem dX12_right_62 : decode cX12_right 62 = .ok (.istore_n 1, 1) := by decide +kernel
theorem dX12_right_63 : decode cX12_right 63 = .ok (.iinc 3 1, 3) := by decide +kernel
theorem dX12_right_66 : decode cX12_right 66 = .ok (.goto (-46), 3) := by decide +kernel
theorem dX12_right_69 : decode cX12_right 69 = .ok (.iinc 2 1, 3) := by decide +kernel
theorem dX12_right_72 : decode cX12_right 72 = .ok (.goto (-62), 3) := by decide +kernel
theorem dX12_right_75 : decode cX12_right 75 = .ok (.iload_n 1, 1) := by decide +kernel
theorem dX12_right_76 : decode cX12_right 76 = .ok (.ireturn, 1) := by decide +kernel
theorem dX12_hurtOf_0 : decode cX12_hurtOf 0 = .ok (.aload_n 0, 1) := by decide +kernel
theorem dX12_hurtOf_1 : decode cX12_hurtOf 1 = .ok (.iload_n 1, 1) := by decide +kernel
theorem dX12_hurtOf_2 : decode cX12_hurtOf 2 = .ok (.invokevirtual 194, 3) := by decide +kernel
theorem dX12_hurtOf_5 : decode cX12_hurtOf 5 = .ok (.iconst 0, 1) := by decide +kernel
theorem dX12_hurtOf_6 : decode cX12_hurtOf 6 = .ok (.istore_n 2, 1) := by decide +kernel
theorem dX12_hurtOf_7 : decode cX12_hurtOf 7 = .ok (.iconst 0, 1) := by decide +kernel
theorem dX12_hurtOf_8 : decode cX12_hurtOf 8 = .ok (.istore_n 3, 1) := by decide +kernel
theorem dX12_hurtOf_9 : decode cX12_hurtOf 9 = .ok (.iload_n 3, 1) := by decide +kernel
theorem dX12_hurtOf_10 : decode cX12_hurtOf 10 = .ok (.aload_n 0, 1) := by decide +kernel
theorem dX12_hurtOf_11 : decode cX12_hurtOf 11 = .ok (.getfield 7, 3) := by decide +kernel
theorem dX12_hurtOf_14 : decode cX12_hurtOf 14 = .ok (.if_icmp .ge 53, 3) := by decide +kernel
theorem dX12_hurtOf_17 : decode cX12_hurtOf 17 = .ok (.iconst 0, 1) := by decide +kernel
theorem dX12_hurtOf_18 : decode cX12_hurtOf 18 = .ok (.istore 4, 2) := by decide +kernel
theorem dX12_hurtOf_20 : decode cX12_hurtOf 20 = .ok (.iload 4, 2) := by decide +kernel
theorem dX12_hurtOf_22 : decode cX12_hurtOf 22 = .ok (.aload_n 0, 1) := by decide +kernel
theorem dX12_hurtOf_23 : decode cX12_hurtOf 23 = .ok (.getfield 7, 3) := by decide +kernel
theorem dX12_hurtOf_26 : decode cX12_hurtOf 26 = .ok (.if_icmp .ge 35, 3) := by decide +kernel
theorem dX12_hurtOf_29 : decode cX12_hurtOf 29 = .ok (.aload_n 0, 1) := by decide +kernel
theorem dX12_hurtOf_30 : decode cX12_hurtOf 30 = .ok (.iload_n 3, 1) := by decide +kernel
theorem dX12_hurtOf_31 : decode cX12_hurtOf 31 = .ok (.iload 4, 2) := by decide +kernel
theorem dX12_hurtOf_33 : decode cX12_hurtOf 33 = .ok (.invokevirtual 198, 3) := by decide +kernel
theorem dX12_hurtOf_36 : decode cX12_hurtOf 36 = .ok (.istore 5, 2) := by decide +kernel
theorem dX12_hurtOf_38 : decode cX12_hurtOf 38 = .ok (.iload_n 2, 1) := by decide +kernel
theorem dX12_hurtOf_39 : decode cX12_hurtOf 39 = .ok (.iload 5, 2) := by decide +kernel
theorem dX12_hurtOf_41 : decode cX12_hurtOf 41 = .ok (.bipush (-9), 2) := by decide +kernel
theorem dX12_hurtOf_43 : decode cX12_hurtOf 43 = .ok (.if_icmp .ne 8, 3) := by decide +kernel
theorem dX12_hurtOf_46 : decode cX12_hurtOf 46 = .ok (.bipush 100, 2) := by decide +kernel
theorem dX12_hurtOf_48 : decode cX12_hurtOf 48 = .ok (.goto 5, 3) := by decide +kernel
theorem dX12_hurtOf_51 : decode cX12_hurtOf 51 = .ok (.iload 5, 2) := by decide +kernel
theorem dX12_hurtOf_53 : decode cX12_hurtOf 53 = .ok (.iadd, 1) := by decide +kernel
theorem dX12_hurtOf_54 : decode cX12_hurtOf 54 = .ok (.istore_n 2, 1) := by decide +kernel
theorem dX12_hurtOf_55 : decode cX12_hurtOf 55 = .ok (.iinc 4 1, 3) := by decide +kernel
theorem dX12_hurtOf_58 : decode cX12_hurtOf 58 = .ok (.goto (-38), 3) := by decide +kernel
theorem dX12_hurtOf_61 : decode cX12_hurtOf 61 = .ok (.iinc 3 1, 3) := by decide +kernel
theorem dX12_hurtOf_64 : decode cX12_hurtOf 64 = .ok (.goto (-55), 3) := by decide +kernel
theorem dX12_hurtOf_67 : decode cX12_hurtOf 67 = .ok (.iload_n 2, 1) := by decide +kernel
theorem dX12_hurtOf_68 : decode cX12_hurtOf 68 = .ok (.ireturn, 1) := by decide +kernel
theorem dX12_hurt_0 : decode cX12_hurt 0 = .ok (.aload_n 0, 1) := by decide +kernel
theorem dX12_hurt_1 : decode cX12_hurt 1 = .ok (.iload_n 1, 1) := by decide +kernel
theorem dX12_hurt_2 : decode cX12_hurt 2 = .ok (.invokevirtual 135, 3) := by decide +kernel
theorem dX12_hurt_5 : decode cX12_hurt 5 = .ok (.istore_n 2, 1) := by decide +kernel
theorem dX12_hurt_6 : decode cX12_hurt 6 = .ok (.iload_n 2, 1) := by decide +kernel
theorem dX12_hurt_7 : decode cX12_hurt 7 = .ok (.bipush (-9), 2) := by decide +kernel
theorem dX12_hurt_9 : decode cX12_hurt 9 = .ok (.if_icmp .ne 7, 3) := by decide +kernel
theorem dX12_hurt_12 : decode cX12_hurt 12 = .ok (.iconst (-1), 1) := by decide +kernel
theorem dX12_hurt_13 : decode cX12_hurt 13 = .ok (.goto 8, 3) := by decide +kernel
theorem dX12_hurt_16 : decode cX12_hurt 16 = .ok (.aload_n 0, 1) := by decide +kernel
theorem dX12_hurt_17 : decode cX12_hurt 17 = .ok (.iload_n 2, 1) := by decide +kernel
theorem dX12_hurt_18 : decode cX12_hurt 18 = .ok (.invokevirtual 201, 3) := by decide +kernel
theorem dX12_hurt_21 : decode cX12_hurt 21 = .ok (.ireturn, 1) := by decide +kernel
theorem dX12_worst_0 : decode cX12_worst 0 = .ok (.bipush (-9), 2) := by decide +kernel
theorem dX12_worst_2 : decode cX12_worst 2 = .ok (.istore_n 1, 1) := by decide +kernel
theorem dX12_worst_3 : decode cX12_worst 3 = .ok (.iconst (-1), 1) := by decide +kernel
theorem dX12_worst_4 : decode cX12_worst 4 = .ok (.istore_n 2, 1) := by decide +kernel
theorem dX12_worst_5 : decode cX12_worst 5 = .ok (.aload_n 0, 1) := by decide +kernel
theorem dX12_worst_6 : decode cX12_worst 6 = .ok (.invokevirtual 175, 3) := by decide +kernel
theorem dX12_worst_9 : decode cX12_worst 9 = .ok (.istore_n 3, 1) := by decide +kernel
theorem dX12_worst_10 : decode cX12_worst 10 = .ok (.iconst 0, 1) := by decide +kernel
theorem dX12_worst_11 : decode cX12_worst 11 = .ok (.istore 4, 2) := by decide +kernel
theorem dX12_worst_13 : decode cX12_worst 13 = .ok (.iload 4, 2) := by decide +kernel
theorem dX12_worst_15 : decode cX12_worst 15 = .ok (.iload_n 3, 1) := by decide +kernel
theorem dX12_worst_16 : decode cX12_worst 16 = .ok (.if_icmp .ge 47, 3) := by decide +kernel
theorem dX12_worst_19 : decode cX12_worst 19 = .ok (.aload_n 0, 1) := by decide +kernel
theorem dX12_worst_20 : decode cX12_worst 20 = .ok (.aload_n 0, 1) := by decide +kernel
theorem dX12_worst_21 : decode cX12_worst 21 = .ok (.iload 4, 2) := by decide +kernel
theorem dX12_worst_23 : decode cX12_worst 23 = .ok (.invokevirtual 135, 3) := by decide +kernel
theorem dX12_worst_26 : decode cX12_worst 26 = .ok (.invokevirtual 201, 3) := by decide +kernel
theorem dX12_worst_29 : decode cX12_worst 29 = .ok (.istore 5, 2) := by decide +kernel
theorem dX12_worst_31 : decode cX12_worst 31 = .ok (.iload 5, 2) := by decide +kernel
theorem dX12_worst_33 : decode cX12_worst 33 = .ok (.iload_n 2, 1) := by decide +kernel
theorem dX12_worst_34 : decode cX12_worst 34 = .ok (.if_icmp .le 8, 3) := by decide +kernel
theorem dX12_worst_37 : decode cX12_worst 37 = .ok (.iload 4, 2) := by decide +kernel
theorem dX12_worst_39 : decode cX12_worst 39 = .ok (.goto 4, 3) := by decide +kernel
theorem dX12_worst_42 : decode cX12_worst 42 = .ok (.iload_n 1, 1) := by decide +kernel
theorem dX12_worst_43 : decode cX12_worst 43 = .ok (.istore_n 1, 1) := by decide +kernel
theorem dX12_worst_44 : decode cX12_worst 44 = .ok (.iload 5, 2) := by decide +kernel
theorem dX12_worst_46 : decode cX12_worst 46 = .ok (.iload_n 2, 1) := by decide +kernel
theorem dX12_worst_47 : decode cX12_worst 47 = .ok (.if_icmp .le 8, 3) := by decide +kernel
theorem dX12_worst_50 : decode cX12_worst 50 = .ok (.iload 5, 2) := by decide +kernel
theorem dX12_worst_52 : decode cX12_worst 52 = .ok (.goto 4, 3) := by decide +kernel
theorem dX12_worst_55 : decode cX12_worst 55 = .ok (.iload_n 2, 1) := by decide +kernel
theorem dX12_worst_56 : decode cX12_worst 56 = .ok (.istore_n 2, 1) := by decide +kernel
theorem dX12_worst_57 : decode cX12_worst 57 = .ok (.iinc 4 1, 3) := by decide +kernel
theorem dX12_worst_60 : decode cX12_worst 60 = .ok (.goto (-47), 3) := by decide +kernel
theorem dX12_worst_63 : decode cX12_worst 63 = .ok (.iload_n 1, 1) := by decide +kernel
theorem dX12_worst_64 : decode cX12_worst 64 = .ok (.ireturn, 1) := by decide +kernel
theorem dX12_sees_0 : decode cX12_sees 0 = .ok (.aload_n 0, 1) := by decide +kernel
theorem dX12_sees_1 : decode cX12_sees 1 = .ok (.iload_n 1, 1) := by decide +kernel
theorem dX12_sees_2 : decode cX12_sees 2 = .ok (.invokevirtual 162, 3) := by decide +kernel
theorem dX12_sees_5 : decode cX12_sees 5 = .ok (.ifCond .eq 26, 3) := by decide +kernel
theorem dX12_sees_8 : decode cX12_sees 8 = .ok (.aload_n 0, 1) := by decide +kernel
theorem dX12_sees_9 : decode cX12_sees 9 = .ok (.iload_n 2, 1) := by decide +kernel
theorem dX12_sees_10 : decode cX12_sees 10 = .ok (.invokevirtual 162, 3) := by decide +kernel
theorem dX12_sees_13 : decode cX12_sees 13 = .ok (.ifCond .eq 18, 3) := by decide +kernel
theorem dX12_sees_16 : decode cX12_sees 16 = .ok (.iload_n 1, 1) := by decide +kernel
theorem dX12_sees_17 : decode cX12_sees 17 = .ok (.iload_n 2, 1) := by decide +kernel
theorem dX12_sees_18 : decode cX12_sees 18 = .ok (.if_icmp .eq 13, 3) := by decide +kernel
theorem dX12_sees_21 : decode cX12_sees 21 = .ok (.iload_n 3, 1) := by decide +kernel
theorem dX12_sees_22 : decode cX12_sees 22 = .ok (.iconst 0, 1) := by decide +kernel
theorem dX12_sees_23 : decode cX12_sees 23 = .ok (.bipush 99, 2) := by decide +kernel
theorem dX12_sees_25 : decode cX12_sees 25 = .ok (.invokestatic 58, 3) := by decide +kernel
theorem dX12_sees_28 : decode cX12_sees 28 = .ok (.ifCond .ne 5, 3) := by decide +kernel
theorem dX12_sees_31 : decode cX12_sees 31 = .ok (.iconst (-1), 1) := by decide +kernel
theorem dX12_sees_32 : decode cX12_sees 32 = .ok (.ireturn, 1) := by decide +kernel
theorem dX12_sees_33 : decode cX12_sees 33 = .ok (.aload_n 0, 1) := by decide +kernel
theorem dX12_sees_34 : decode cX12_sees 34 = .ok (.getfield 132, 3) := by decide +kernel
theorem dX12_sees_37 : decode cX12_sees 37 = .ok (.bipush 6, 2) := by decide +kernel
theorem dX12_sees_39 : decode cX12_sees 39 = .ok (.if_icmp .ne 6, 3) := by decide +kernel
theorem dX12_sees_42 : decode cX12_sees 42 = .ok (.bipush (-3), 2) := by decide +kernel
theorem dX12_sees_44 : decode cX12_sees 44 = .ok (.ireturn, 1) := by decide +kernel
theorem dX12_sees_45 : decode cX12_sees 45 = .ok (.aload_n 0, 1) := by decide +kernel
theorem dX12_sees_46 : decode cX12_sees 46 = .ok (.getfield 45, 3) := by decide +kernel
theorem dX12_sees_49 : decode cX12_sees 49 = .ok (.aload_n 0, 1) := by decide +kernel
theorem dX12_sees_50 : decode cX12_sees 50 = .ok (.getfield 132, 3) := by decide +kernel
theorem dX12_sees_53 : decode cX12_sees 53 = .ok (.iload_n 1, 1) := by decide +kernel
theorem dX12_sees_54 : decode cX12_sees 54 = .ok (.iastore, 1) := by decide +kernel
theorem dX12_sees_55 : decode cX12_sees 55 = .ok (.aload_n 0, 1) := by decide +kernel
theorem dX12_sees_56 : decode cX12_sees 56 = .ok (.getfield 48, 3) := by decide +kernel
theorem dX12_sees_59 : decode cX12_sees 59 = .ok (.aload_n 0, 1) := by decide +kernel
theorem dX12_sees_60 : decode cX12_sees 60 = .ok (.getfield 132, 3) := by decide +kernel
theorem dX12_sees_63 : decode cX12_sees 63 = .ok (.iload_n 2, 1) := by decide +kernel
theorem dX12_sees_64 : decode cX12_sees 64 = .ok (.iastore, 1) := by decide +kernel
theorem dX12_sees_65 : decode cX12_sees 65 = .ok (.aload_n 0, 1) := by decide +kernel
theorem dX12_sees_66 : decode cX12_sees 66 = .ok (.getfield 51, 3) := by decide +kernel
theorem dX12_sees_69 : decode cX12_sees 69 = .ok (.aload_n 0, 1) := by decide +kernel
theorem dX12_sees_70 : decode cX12_sees 70 = .ok (.getfield 132, 3) := by decide +kernel
theorem dX12_sees_73 : decode cX12_sees 73 = .ok (.iload_n 3, 1) := by decide +kernel
theorem dX12_sees_74 : decode cX12_sees 74 = .ok (.iastore, 1) := by decide +kernel
theorem dX12_sees_75 : decode cX12_sees 75 = .ok (.aload_n 0, 1) := by decide +kernel
theorem dX12_sees_76 : decode cX12_sees 76 = .ok (.dup, 1) := by decide +kernel
theorem dX12_sees_77 : decode cX12_sees 77 = .ok (.getfield 132, 3) := by decide +kernel
theorem dX12_sees_80 : decode cX12_sees 80 = .ok (.iconst 1, 1) := by decide +kernel
theorem dX12_sees_81 : decode cX12_sees 81 = .ok (.iadd, 1) := by decide +kernel
theorem dX12_sees_82 : decode cX12_sees 82 = .ok (.putfield 132, 3) := by decide +kernel
theorem dX12_sees_85 : decode cX12_sees 85 = .ok (.aload_n 0, 1) := by decide +kernel
theorem dX12_sees_86 : decode cX12_sees 86 = .ok (.getfield 132, 3) := by decide +kernel
theorem dX12_sees_89 : decode cX12_sees 89 = .ok (.ireturn, 1) := by decide +kernel
theorem dX12_forget_0 : decode cX12_forget 0 = .ok (.aload_n 0, 1) := by decide +kernel
theorem dX12_forget_1 : decode cX12_forget 1 = .ok (.getfield 132, 3) := by decide +kernel
theorem dX12_forget_4 : decode cX12_forget 4 = .ok (.istore_n 1, 1) := by decide +kernel
theorem dX12_forget_5 : decode cX12_forget 5 = .ok (.aload_n 0, 1) := by decide +kernel
theorem dX12_forget_6 : decode cX12_forget 6 = .ok (.iconst 0, 1) := by decide +kernel
theorem dX12_forget_7 : decode cX12_forget 7 = .ok (.putfield 132, 3) := by decide +kernel
theorem dX12_forget_10 : decode cX12_forget 10 = .ok (.iload_n 1, 1) := by decide +kernel
theorem dX12_forget_11 : decode cX12_forget 11 = .ok (.ireturn, 1) := by decide +kernel
theorem dX12_unseen_0 : decode cX12_unseen 0 = .ok (.iconst 0, 1) := by decide +kernel
theorem dX12_unseen_1 : decode cX12_unseen 1 = .ok (.istore_n 1, 1) := by decide +kernel
theorem dX12_unseen_2 : decode cX12_unseen 2 = .ok (.aload_n 0, 1) := by decide +kernel
theorem dX12_unseen_3 : decode cX12_unseen 3 = .ok (.invokevirtual 175, 3) := by decide +kernel
theorem dX12_unseen_6 : decode cX12_unseen 6 = .ok (.istore_n 2, 1) := by decide +kernel
theorem dX12_unseen_7 : decode cX12_unseen 7 = .ok (.iconst 0, 1) := by decide +kernel
theorem dX12_unseen_8 : decode cX12_unseen 8 = .ok (.istore_n 3, 1) := by decide +kernel
theorem dX12_unseen_9 : decode cX12_unseen 9 = .ok (.iload_n 3, 1) := by decide +kernel
theorem dX12_unseen_10 : decode cX12_unseen 10 = .ok (.iload_n 2, 1) := by decide +kernel
theorem dX12_unseen_11 : decode cX12_unseen 11 = .ok (.if_icmp .ge 109, 3) := by decide +kernel
theorem dX12_unseen_14 : decode cX12_unseen 14 = .ok (.aload_n 0, 1) := by decide +kernel
theorem dX12_unseen_15 : decode cX12_unseen 15 = .ok (.aload_n 0, 1) := by decide +kernel
theorem dX12_unseen_16 : decode cX12_unseen 16 = .ok (.iload_n 3, 1) := by decide +kernel
theorem dX12_unseen_17 : decode cX12_unseen 17 = .ok (.invokevirtual 135, 3) := by decide +kernel
theorem dX12_unseen_20 : decode cX12_unseen 20 = .ok (.invokevirtual 194, 3) := by decide +kernel
theorem dX12_unseen_23 : decode cX12_unseen 23 = .ok (.iconst 1, 1) := by decide +kernel
theorem dX12_unseen_24 : decode cX12_unseen 24 = .ok (.istore 4, 2) := by decide +kernel
theorem dX12_unseen_26 : decode cX12_unseen 26 = .ok (.iconst 0, 1) := by decide +kernel
theorem dX12_unseen_27 : decode cX12_unseen 27 = .ok (.istore 5, 2) := by decide +kernel
theorem dX12_unseen_29 : decode cX12_unseen 29 = .ok (.iload 5, 2) := by decide +kernel
theorem dX12_unseen_31 : decode cX12_unseen 31 = .ok (.aload_n 0, 1) := by decide +kernel
theorem dX12_unseen_32 : decode cX12_unseen 32 = .ok (.getfield 132, 3) := by decide +kernel
theorem dX12_unseen_35 : decode cX12_unseen 35 = .ok (.if_icmp .ge 64, 3) := by decide +kernel
theorem dX12_unseen_38 : decode cX12_unseen 38 = .ok (.aload_n 0, 1) := by decide +kernel
theorem dX12_unseen_39 : decode cX12_unseen 39 = .ok (.aload_n 0, 1) := by decide +kernel
theorem dX12_unseen_40 : decode cX12_unseen 40 = .ok (.getfield 45, 3) := by decide +kernel
theorem dX12_unseen_43 : decode cX12_unseen 43 = .ok (.iload 5, 2) := by decide +kernel
theorem dX12_unseen_45 : decode cX12_unseen 45 = .ok (.iaload, 1) := by decide +kernel
theorem dX12_unseen_46 : decode cX12_unseen 46 = .ok (.aload_n 0, 1) := by decide +kernel
theorem dX12_unseen_47 : decode cX12_unseen 47 = .ok (.getfield 48, 3) := by decide +kernel
theorem dX12_unseen_50 : decode cX12_unseen 50 = .ok (.iload 5, 2) := by decide +kernel
theorem dX12_unseen_52 : decode cX12_unseen 52 = .ok (.iaload, 1) := by decide +kernel
theorem dX12_unseen_53 : decode cX12_unseen 53 = .ok (.invokevirtual 198, 3) := by decide +kernel
theorem dX12_unseen_56 : decode cX12_unseen 56 = .ok (.istore 6, 2) := by decide +kernel
theorem dX12_unseen_58 : decode cX12_unseen 58 = .ok (.iload 4, 2) := by decide +kernel
theorem dX12_unseen_60 : decode cX12_unseen 60 = .ok (.ifCond .eq 30, 3) := by decide +kernel
theorem dX12_unseen_63 : decode cX12_unseen 63 = .ok (.aload_n 0, 1) := by decide +kernel
theorem dX12_unseen_64 : decode cX12_unseen 64 = .ok (.getfield 51, 3) := by decide +kernel
theorem dX12_unseen_67 : decode cX12_unseen 67 = .ok (.iload 5, 2) := by decide +kernel
theorem dX12_unseen_69 : decode cX12_unseen 69 = .ok (.iaload, 1) := by decide +kernel
theorem dX12_unseen_70 : decode cX12_unseen 70 = .ok (.iload 6, 2) := by decide +kernel
theorem dX12_unseen_72 : decode cX12_unseen 72 = .ok (.bipush (-9), 2) := by decide +kernel
theorem dX12_unseen_74 : decode cX12_unseen 74 = .ok (.if_icmp .ne 7, 3) := by decide +kernel
theorem dX12_unseen_77 : decode cX12_unseen 77 = .ok (.iconst 0, 1) := by decide +kernel
theorem dX12_unseen_78 : decode cX12_unseen 78 = .ok (.goto 5, 3) := by decide +kernel
theorem dX12_unseen_81 : decode cX12_unseen 81 = .ok (.iload 6, 2) := by decide +kernel
theorem dX12_unseen_83 : decode cX12_unseen 83 = .ok (.if_icmp .ne 7, 3) := by decide +kernel
theorem dX12_unseen_86 : decode cX12_unseen 86 = .ok (.iconst 1, 1) := by decide +kernel
theorem dX12_unseen_87 : decode cX12_unseen 87 = .ok (.goto 4, 3) := by decide +kernel
theorem dX12_unseen_90 : decode cX12_unseen 90 = .ok (.iconst 0, 1) := by decide +kernel
theorem dX12_unseen_91 : decode cX12_unseen 91 = .ok (.istore 4, 2) := by decide +kernel
theorem dX12_unseen_93 : decode cX12_unseen 93 = .ok (.iinc 5 1, 3) := by decide +kernel
theorem dX12_unseen_96 : decode cX12_unseen 96 = .ok (.goto (-67), 3) := by decide +kernel
theorem dX12_unseen_99 : decode cX12_unseen 99 = .ok (.iload_n 1, 1) := by decide +kernel
theorem dX12_unseen_100 : decode cX12_unseen 100 = .ok (.iload 4, 2) := by decide +kernel
theorem dX12_unseen_102 : decode cX12_unseen 102 = .ok (.ifCond .eq 9, 3) := by decide +kernel
theorem dX12_unseen_105 : decode cX12_unseen 105 = .ok (.iconst 1, 1) := by decide +kernel
theorem dX12_unseen_106 : decode cX12_unseen 106 = .ok (.iload_n 3, 1) := by decide +kernel
theorem dX12_unseen_107 : decode cX12_unseen 107 = .ok (.ishl, 1) := by decide +kernel
theorem dX12_unseen_108 : decode cX12_unseen 108 = .ok (.goto 4, 3) := by decide +kernel
theorem dX12_unseen_111 : decode cX12_unseen 111 = .ok (.iconst 0, 1) := by decide +kernel
theorem dX12_unseen_112 : decode cX12_unseen 112 = .ok (.ior, 1) := by decide +kernel
theorem dX12_unseen_113 : decode cX12_unseen 113 = .ok (.istore_n 1, 1) := by decide +kernel
theorem dX12_unseen_114 : decode cX12_unseen 114 = .ok (.iinc 3 1, 3) := by decide +kernel
theorem dX12_unseen_117 : decode cX12_unseen 117 = .ok (.goto (-108), 3) := by decide +kernel
theorem dX12_unseen_120 : decode cX12_unseen 120 = .ok (.iload_n 1, 1) := by decide +kernel
theorem dX12_unseen_121 : decode cX12_unseen 121 = .ok (.ireturn, 1) := by decide +kernel
theorem dX12_keep_0 : decode cX12_keep 0 = .ok (.iload_n 1, 1) := by decide +kernel
theorem dX12_keep_1 : decode cX12_keep 1 = .ok (.iconst 0, 1) := by decide +kernel
theorem dX12_keep_2 : decode cX12_keep 2 = .ok (.iconst 1, 1) := by decide +kernel
theorem dX12_keep_3 : decode cX12_keep 3 = .ok (.invokestatic 58, 3) := by decide +kernel
theorem dX12_keep_6 : decode cX12_keep 6 = .ok (.ifCond .ne 5, 3) := by decide +kernel
theorem dX12_keep_9 : decode cX12_keep 9 = .ok (.iconst (-1), 1) := by decide +kernel
theorem dX12_keep_10 : decode cX12_keep 10 = .ok (.ireturn, 1) := by decide +kernel
theorem dX12_keep_11 : decode cX12_keep 11 = .ok (.aload_n 0, 1) := by decide +kernel
theorem dX12_keep_12 : decode cX12_keep 12 = .ok (.getfield 26, 3) := by decide +kernel
theorem dX12_keep_15 : decode cX12_keep 15 = .ok (.iload_n 1, 1) := by decide +kernel
theorem dX12_keep_16 : decode cX12_keep 16 = .ok (.iconst 1, 1) := by decide +kernel
theorem dX12_keep_17 : decode cX12_keep 17 = .ok (.bastore, 1) := by decide +kernel
theorem dX12_keep_18 : decode cX12_keep 18 = .ok (.iconst 0, 1) := by decide +kernel
theorem dX12_keep_19 : decode cX12_keep 19 = .ok (.istore_n 2, 1) := by decide +kernel
theorem dX12_keep_20 : decode cX12_keep 20 = .ok (.iload_n 2, 1) := by decide +kernel
theorem dX12_keep_21 : decode cX12_keep 21 = .ok (.sipush 622, 3) := by decide +kernel
theorem dX12_keep_24 : decode cX12_keep 24 = .ok (.if_icmp .ge 27, 3) := by decide +kernel
theorem dX12_keep_27 : decode cX12_keep 27 = .ok (.aload_n 0, 1) := by decide +kernel
theorem dX12_keep_28 : decode cX12_keep 28 = .ok (.getfield 30, 3) := by decide +kernel
theorem dX12_keep_31 : decode cX12_keep 31 = .ok (.sipush 622, 3) := by decide +kernel
theorem dX12_keep_34 : decode cX12_keep 34 = .ok (.iload_n 1, 1) := by decide +kernel
theorem dX12_keep_35 : decode cX12_keep 35 = .ok (.imul, 1) := by decide +kernel
theorem dX12_keep_36 : decode cX12_keep 36 = .ok (.iload_n 2, 1) := by decide +kernel
theorem dX12_keep_37 : decode cX12_keep 37 = .ok (.iadd, 1) := by decide +kernel
theorem dX12_keep_38 : decode cX12_keep 38 = .ok (.aload_n 0, 1) := by decide +kernel
theorem dX12_keep_39 : decode cX12_keep 39 = .ok (.getfield 19, 3) := by decide +kernel
theorem dX12_keep_42 : decode cX12_keep 42 = .ok (.iload_n 2, 1) := by decide +kernel
theorem dX12_keep_43 : decode cX12_keep 43 = .ok (.iaload, 1) := by decide +kernel
theorem dX12_keep_44 : decode cX12_keep 44 = .ok (.iastore, 1) := by decide +kernel
theorem dX12_keep_45 : decode cX12_keep 45 = .ok (.iinc 2 1, 3) := by decide +kernel
theorem dX12_keep_48 : decode cX12_keep 48 = .ok (.goto (-28), 3) := by decide +kernel
theorem dX12_keep_51 : decode cX12_keep 51 = .ok (.aload_n 0, 1) := by decide +kernel
theorem dX12_keep_52 : decode cX12_keep 52 = .ok (.invokevirtual 175, 3) := by decide +kernel
theorem dX12_keep_55 : decode cX12_keep 55 = .ok (.ireturn, 1) := by decide +kernel
theorem dX12_back_0 : decode cX12_back 0 = .ok (.iload_n 1, 1) := by decide +kernel
theorem dX12_back_1 : decode cX12_back 1 = .ok (.iconst 0, 1) := by decide +kernel
theorem dX12_back_2 : decode cX12_back 2 = .ok (.iconst 1, 1) := by decide +kernel
theorem dX12_back_3 : decode cX12_back 3 = .ok (.invokestatic 58, 3) := by decide +kernel
theorem dX12_back_6 : decode cX12_back 6 = .ok (.ifCond .ne 5, 3) := by decide +kernel
theorem dX12_back_9 : decode cX12_back 9 = .ok (.iconst (-1), 1) := by decide +kernel
theorem dX12_back_10 : decode cX12_back 10 = .ok (.ireturn, 1) := by decide +kernel
theorem dX12_back_11 : decode cX12_back 11 = .ok (.aload_n 0, 1) := by decide +kernel
theorem dX12_back_12 : decode cX12_back 12 = .ok (.getfield 26, 3) := by decide +kernel
theorem dX12_back_15 : decode cX12_back 15 = .ok (.iload_n 1, 1) := by decide +kernel
theorem dX12_back_16 : decode cX12_back 16 = .ok (.baload, 1) := by decide +kernel
theorem dX12_back_17 : decode cX12_back 17 = .ok (.ifCond .ne 6, 3) := by decide +kernel
theorem dX12_back_20 : decode cX12_back 20 = .ok (.bipush (-2), 2) := by decide +kernel
theorem dX12_back_22 : decode cX12_back 22 = .ok (.ireturn, 1) := by decide +kernel
theorem dX12_back_23 : decode cX12_back 23 = .ok (.iconst 0, 1) := by decide +kernel
theorem dX12_back_24 : decode cX12_back 24 = .ok (.istore_n 2, 1) := by decide +kernel
theorem dX12_back_25 : decode cX12_back 25 = .ok (.iload_n 2, 1) := by decide +kernel
theorem dX12_back_26 : decode cX12_back 26 = .ok (.sipush 622, 3) := by decide +kernel
theorem dX12_back_29 : decode cX12_back 29 = .ok (.if_icmp .ge 27, 3) := by decide +kernel
theorem dX12_back_32 : decode cX12_back 32 = .ok (.aload_n 0, 1) := by decide +kernel
theorem dX12_back_33 : decode cX12_back 33 = .ok (.getfield 19, 3) := by decide +kernel
theorem dX12_back_36 : decode cX12_back 36 = .ok (.iload_n 2, 1) := by decide +kernel
theorem dX12_back_37 : decode cX12_back 37 = .ok (.aload_n 0, 1) := by decide +kernel
theorem dX12_back_38 : decode cX12_back 38 = .ok (.getfield 30, 3) := by decide +kernel
theorem dX12_back_41 : decode cX12_back 41 = .ok (.sipush 622, 3) := by decide +kernel
theorem dX12_back_44 : decode cX12_back 44 = .ok (.iload_n 1, 1) := by decide +kernel
theorem dX12_back_45 : decode cX12_back 45 = .ok (.imul, 1) := by decide +kernel
theorem dX12_back_46 : decode cX12_back 46 = .ok (.iload_n 2, 1) := by decide +kernel
theorem dX12_back_47 : decode cX12_back 47 = .ok (.iadd, 1) := by decide +kernel
theorem dX12_back_48 : decode cX12_back 48 = .ok (.iaload, 1) := by decide +kernel
theorem dX12_back_49 : decode cX12_back 49 = .ok (.iastore, 1) := by decide +kernel
theorem dX12_back_50 : decode cX12_back 50 = .ok (.iinc 2 1, 3) := by decide +kernel
theorem dX12_back_53 : decode cX12_back 53 = .ok (.goto (-28), 3) := by decide +kernel
theorem dX12_back_56 : decode cX12_back 56 = .ok (.aload_n 0, 1) := by decide +kernel
theorem dX12_back_57 : decode cX12_back 57 = .ok (.iconst 0, 1) := by decide +kernel
theorem dX12_back_58 : decode cX12_back 58 = .ok (.putfield 129, 3) := by decide +kernel
theorem dX12_back_61 : decode cX12_back 61 = .ok (.aload_n 0, 1) := by decide +kernel
theorem dX12_back_62 : decode cX12_back 62 = .ok (.invokevirtual 175, 3) := by decide +kernel
theorem dX12_back_65 : decode cX12_back 65 = .ok (.ireturn, 1) := by decide +kernel
theorem dX12_count_0 : decode cX12_count 0 = .ok (.iload_n 1, 1) := by decide +kernel
theorem dX12_count_1 : decode cX12_count 1 = .ok (.tableswitch 116 0 10 #[59, 64, 69, 74, 79, 84, 89, 94, 101, 106, 111], 59) := by decide +kernel
theorem dX12_count_60 : decode cX12_count 60 = .ok (.aload_n 0, 1) := by decide +kernel
theorem dX12_count_61 : decode cX12_count 61 = .ok (.getfield 7, 3) := by decide +kernel
theorem dX12_count_64 : decode cX12_count 64 = .ok (.ireturn, 1) := by decide +kernel
theorem dX12_count_65 : decode cX12_count 65 = .ok (.aload_n 0, 1) := by decide +kernel
theorem dX12_count_66 : decode cX12_count 66 = .ok (.invokevirtual 175, 3) := by decide +kernel
theorem dX12_count_69 : decode cX12_count 69 = .ok (.ireturn, 1) := by decide +kernel
theorem dX12_count_70 : decode cX12_count 70 = .ok (.aload_n 0, 1) := by decide +kernel
theorem dX12_count_71 : decode cX12_count 71 = .ok (.getfield 120, 3) := by decide +kernel
theorem dX12_count_74 : decode cX12_count 74 = .ok (.ireturn, 1) := by decide +kernel
theorem dX12_count_75 : decode cX12_count 75 = .ok (.aload_n 0, 1) := by decide +kernel
theorem dX12_count_76 : decode cX12_count 76 = .ok (.getfield 123, 3) := by decide +kernel
theorem dX12_count_79 : decode cX12_count 79 = .ok (.ireturn, 1) := by decide +kernel
theorem dX12_count_80 : decode cX12_count 80 = .ok (.aload_n 0, 1) := by decide +kernel
theorem dX12_count_81 : decode cX12_count 81 = .ok (.getfield 13, 3) := by decide +kernel
theorem dX12_count_84 : decode cX12_count 84 = .ok (.ireturn, 1) := by decide +kernel
theorem dX12_count_85 : decode cX12_count 85 = .ok (.aload_n 0, 1) := by decide +kernel
theorem dX12_count_86 : decode cX12_count 86 = .ok (.getfield 16, 3) := by decide +kernel
theorem dX12_count_89 : decode cX12_count 89 = .ok (.ireturn, 1) := by decide +kernel
theorem dX12_count_90 : decode cX12_count 90 = .ok (.aload_n 0, 1) := by decide +kernel
theorem dX12_count_91 : decode cX12_count 91 = .ok (.getfield 126, 3) := by decide +kernel
theorem dX12_count_94 : decode cX12_count 94 = .ok (.ireturn, 1) := by decide +kernel
theorem dX12_count_95 : decode cX12_count 95 = .ok (.aload_n 0, 1) := by decide +kernel
theorem dX12_count_96 : decode cX12_count 96 = .ok (.getfield 19, 3) := by decide +kernel
theorem dX12_count_99 : decode cX12_count 99 = .ok (.iconst 0, 1) := by decide +kernel
theorem dX12_count_100 : decode cX12_count 100 = .ok (.iaload, 1) := by decide +kernel
theorem dX12_count_101 : decode cX12_count 101 = .ok (.ireturn, 1) := by decide +kernel
theorem dX12_count_102 : decode cX12_count 102 = .ok (.aload_n 0, 1) := by decide +kernel
theorem dX12_count_103 : decode cX12_count 103 = .ok (.getfield 132, 3) := by decide +kernel
theorem dX12_count_106 : decode cX12_count 106 = .ok (.ireturn, 1) := by decide +kernel
theorem dX12_count_107 : decode cX12_count 107 = .ok (.aload_n 0, 1) := by decide +kernel
theorem dX12_count_108 : decode cX12_count 108 = .ok (.getfield 66, 3) := by decide +kernel
theorem dX12_count_111 : decode cX12_count 111 = .ok (.ireturn, 1) := by decide +kernel
theorem dX12_count_112 : decode cX12_count 112 = .ok (.aload_n 0, 1) := by decide +kernel
theorem dX12_count_113 : decode cX12_count 113 = .ok (.getfield 129, 3) := by decide +kernel
theorem dX12_count_116 : decode cX12_count 116 = .ok (.ireturn, 1) := by decide +kernel
theorem dX12_count_117 : decode cX12_count 117 = .ok (.iconst (-1), 1) := by decide +kernel
theorem dX12_count_118 : decode cX12_count 118 = .ok (.ireturn, 1) := by decide +kernel
end
section
theorem dL_law_0 : decode cL_law 0 = .ok (.new 7, 3) := by decide +kernel
theorem dL_law_3 : decode cL_law 3 = .ok (.dup, 1) := by decide +kernel
theorem dL_law_4 : decode cL_law 4 = .ok (.invokespecial 9, 3) := by decide +kernel
theorem dL_law_7 : decode cL_law 7 = .ok (.astore_n 1, 1) := by decide +kernel
theorem dL_law_8 : decode cL_law 8 = .ok (.new 10, 3) := by decide +kernel
theorem dL_law_11 : decode cL_law 11 = .ok (.dup, 1) := by decide +kernel
theorem dL_law_12 : decode cL_law 12 = .ok (.invokespecial 12, 3) := by decide +kernel
theorem dL_law_15 : decode cL_law 15 = .ok (.astore_n 2, 1) := by decide +kernel
theorem dL_law_16 : decode cL_law 16 = .ok (.iconst 0, 1) := by decide +kernel
theorem dL_law_17 : decode cL_law 17 = .ok (.istore_n 3, 1) := by decide +kernel
theorem dL_law_18 : decode cL_law 18 = .ok (.iload_n 3, 1) := by decide +kernel
theorem dL_law_19 : decode cL_law 19 = .ok (.aload_n 0, 1) := by decide +kernel
theorem dL_law_20 : decode cL_law 20 = .ok (.arraylength, 1) := by decide +kernel
theorem dL_law_21 : decode cL_law 21 = .ok (.iconst 4, 1) := by decide +kernel
theorem dL_law_22 : decode cL_law 22 = .ok (.isub, 1) := by decide +kernel
theorem dL_law_23 : decode cL_law 23 = .ok (.if_icmp .gt 877, 3) := by decide +kernel
theorem dL_law_26 : decode cL_law 26 = .ok (.aload_n 0, 1) := by decide +kernel
theorem dL_law_27 : decode cL_law 27 = .ok (.iload_n 3, 1) := by decide +kernel
theorem dL_law_28 : decode cL_law 28 = .ok (.iaload, 1) := by decide +kernel
theorem dL_law_29 : decode cL_law 29 = .ok (.bipush 31, 2) := by decide +kernel
theorem dL_law_31 : decode cL_law 31 = .ok (.iand, 1) := by decide +kernel
theorem dL_law_32 : decode cL_law 32 = .ok (.tableswitch 862 0 27 #[128, 151, 164, 177, 210, 243, 266, 289, 332, 365, 378, 421, 464, 497, 530, 553, 576, 619, 642, 675, 688, 711, 724, 767, 780, 793, 816, 839], 128) := by decide +kernel
theorem dL_law_160 : decode cL_law 160 = .ok (.aload_n 1, 1) := by decide +kernel
theorem dL_law_161 : decode cL_law 161 = .ok (.aload_n 0, 1) := by decide +kernel
theorem dL_law_162 : decode cL_law 162 = .ok (.iload_n 3, 1) := by decide +kernel
theorem dL_law_163 : decode cL_law 163 = .ok (.iconst 1, 1) := by decide +kernel
theorem dL_law_164 : decode cL_law 164 = .ok (.iadd, 1) := by decide +kernel
theorem dL_law_165 : decode cL_law 165 = .ok (.iaload, 1) := by decide +kernel
theorem dL_law_166 : decode cL_law 166 = .ok (.invokevirtual 13, 3) := by decide +kernel
theorem dL_law_169 : decode cL_law 169 = .ok (.aload_n 2, 1) := by decide +kernel
theorem dL_law_170 : decode cL_law 170 = .ok (.aload_n 0, 1) := by decide +kernel
theorem dL_law_171 : decode cL_law 171 = .ok (.iload_n 3, 1) := by decide +kernel
theorem dL_law_172 : decode cL_law 172 = .ok (.iconst 1, 1) := by decide +kernel
theorem dL_law_173 : decode cL_law 173 = .ok (.iadd, 1) := by decide +kernel
theorem dL_law_174 : decode cL_law 174 = .ok (.iaload, 1) := by decide +kernel
theorem dL_law_175 : decode cL_law 175 = .ok (.invokevirtual 17, 3) := by decide +kernel
theorem dL_law_178 : decode cL_law 178 = .ok (.if_icmp .eq 716, 3) := by decide +kernel
theorem dL_law_181 : decode cL_law 181 = .ok (.iconst 0, 1) := by decide +kernel
theorem dL_law_182 : decode cL_law 182 = .ok (.ireturn, 1) := by decide +kernel
theorem dL_law_183 : decode cL_law 183 = .ok (.aload_n 1, 1) := by decide +kernel
theorem dL_law_184 : decode cL_law 184 = .ok (.invokevirtual 18, 3) := by decide +kernel
theorem dL_law_187 : decode cL_law 187 = .ok (.aload_n 2, 1) := by decide +kernel
theorem dL_law_188 : decode cL_law 188 = .ok (.invokevirtual 22, 3) := by decide +kernel
theorem dL_law_191 : decode cL_law 191 = .ok (.if_icmp .eq 703, 3) := by decide +kernel
theorem dL_law_194 : decode cL_law 194 = .ok (.iconst 0, 1) := by decide +kernel
theorem dL_law_195 : decode cL_law 195 = .ok (.ireturn, 1) := by decide +kernel
theorem dL_law_196 : decode cL_law 196 = .ok (.aload_n 1, 1) := by decide +kernel
theorem dL_law_197 : decode cL_law 197 = .ok (.invokevirtual 23, 3) := by decide +kernel
theorem dL_law_200 : decode cL_law 200 = .ok (.aload_n 2, 1) := by decide +kernel
theorem dL_law_201 : decode cL_law 201 = .ok (.invokevirtual 26, 3) := by decide +kernel
theorem dL_law_204 : decode cL_law 204 = .ok (.if_icmp .eq 690, 3) := by decide +kernel
theorem dL_law_207 : decode cL_law 207 = .ok (.iconst 0, 1) := by decide +kernel
theorem dL_law_208 : decode cL_law 208 = .ok (.ireturn, 1) := by decide +kernel
theorem dL_law_209 : decode cL_law 209 = .ok (.aload_n 1, 1) := by decide +kernel
theorem dL_law_210 : decode cL_law 210 = .ok (.aload_n 0, 1) := by decide +kernel
theorem dL_law_211 : decode cL_law 211 = .ok (.iload_n 3, 1) := by decide +kernel
theorem dL_law_212 : decode cL_law 212 = .ok (.iconst 1, 1) := by decide +kernel
theorem dL_law_213 : decode cL_law 213 = .ok (.iadd, 1) := by decide +kernel
theorem dL_law_214 : decode cL_law 214 = .ok (.iaload, 1) := by decide +kernel
theorem dL_law_215 : decode cL_law 215 = .ok (.aload_n 0, 1) := by decide +kernel
theorem dL_law_216 : decode cL_law 216 = .ok (.iload_n 3, 1) := by decide +kernel
theorem dL_law_217 : decode cL_law 217 = .ok (.iconst 2, 1) := by decide +kernel
theorem dL_law_218 : decode cL_law 218 = .ok (.iadd, 1) := by decide +kernel
theorem dL_law_219 : decode cL_law 219 = .ok (.iaload, 1) := by decide +kernel
theorem dL_law_220 : decode cL_law 220 = .ok (.invokevirtual 27, 3) := by decide +kernel
theorem dL_law_223 : decode cL_law 223 = .ok (.aload_n 2, 1) := by decide +kernel
theorem dL_law_224 : decode cL_law 224 = .ok (.aload_n 0, 1) := by decide +kernel
theorem dL_law_225 : decode cL_law 225 = .ok (.iload_n 3, 1) := by decide +kernel
theorem dL_law_226 : decode cL_law 226 = .ok (.iconst 1, 1) := by decide +kernel
theorem dL_law_227 : decode cL_law 227 = .ok (.iadd, 1) := by decide +kernel
theorem dL_law_228 : decode cL_law 228 = .ok (.iaload, 1) := by decide +kernel
theorem dL_law_229 : decode cL_law 229 = .ok (.aload_n 0, 1) := by decide +kernel
theorem dL_law_230 : decode cL_law 230 = .ok (.iload_n 3, 1) := by decide +kernel
theorem dL_law_231 : decode cL_law 231 = .ok (.iconst 2, 1) := by decide +kernel
theorem dL_law_232 : decode cL_law 232 = .ok (.iadd, 1) := by decide +kernel
theorem dL_law_233 : decode cL_law 233 = .ok (.iaload, 1) := by decide +kernel
theorem dL_law_234 : decode cL_law 234 = .ok (.invokevirtual 31, 3) := by decide +kernel
theorem dL_law_237 : decode cL_law 237 = .ok (.if_icmp .eq 657, 3) := by decide +kernel
theorem dL_law_240 : decode cL_law 240 = .ok (.iconst 0, 1) := by decide +kernel
theorem dL_law_241 : decode cL_law 241 = .ok (.ireturn, 1) := by decide +kernel
theorem dL_law_242 : decode cL_law 242 = .ok (.aload_n 1, 1) := by decide +kernel
theorem dL_law_243 : decode cL_law 243 = .ok (.aload_n 0, 1) := by decide +kernel
theorem dL_law_244 : decode cL_law 244 = .ok (.iload_n 3, 1) := by decide +kernel
theorem dL_law_245 : decode cL_law 245 = .ok (.iconst 1, 1) := by decide +kernel
theorem dL_law_246 : decode cL_law 246 = .ok (.iadd, 1) := by decide +kernel
theorem dL_law_247 : decode cL_law 247 = .ok (.iaload, 1) := by decide +kernel
theorem dL_law_248 : decode cL_law 248 = .ok (.aload_n 0, 1) := by decide +kernel
theorem dL_law_249 : decode cL_law 249 = .ok (.iload_n 3, 1) := by decide +kernel
theorem dL_law_250 : decode cL_law 250 = .ok (.iconst 2, 1) := by decide +kernel
theorem dL_law_251 : decode cL_law 251 = .ok (.iadd, 1) := by decide +kernel
theorem dL_law_252 : decode cL_law 252 = .ok (.iaload, 1) := by decide +kernel
theorem dL_law_253 : decode cL_law 253 = .ok (.invokevirtual 32, 3) := by decide +kernel
theorem dL_law_256 : decode cL_law 256 = .ok (.aload_n 2, 1) := by decide +kernel
theorem dL_law_257 : decode cL_law 257 = .ok (.aload_n 0, 1) := by decide +kernel
theorem dL_law_258 : decode cL_law 258 = .ok (.iload_n 3, 1) := by decide +kernel
theorem dL_law_259 : decode cL_law 259 = .ok (.iconst 1, 1) := by decide +kernel
theorem dL_law_260 : decode cL_law 260 = .ok (.iadd, 1) := by decide +kernel
theorem dL_law_261 : decode cL_law 261 = .ok (.iaload, 1) := by decide +kernel
theorem dL_law_262 : decode cL_law 262 = .ok (.aload_n 0, 1) := by decide +kernel
theorem dL_law_263 : decode cL_law 263 = .ok (.iload_n 3, 1) := by decide +kernel
theorem dL_law_264 : decode cL_law 264 = .ok (.iconst 2, 1) := by decide +kernel
theorem dL_law_265 : decode cL_law 265 = .ok (.iadd, 1) := by decide +kernel
theorem dL_law_266 : decode cL_law 266 = .ok (.iaload, 1) := by decide +kernel
theorem dL_law_267 : decode cL_law 267 = .ok (.invokevirtual 35, 3) := by decide +kernel
theorem dL_law_270 : decode cL_law 270 = .ok (.if_icmp .eq 624, 3) := by decide +kernel
theorem dL_law_273 : decode cL_law 273 = .ok (.iconst 0, 1) := by decide +kernel
theorem dL_law_274 : decode cL_law 274 = .ok (.ireturn, 1) := by decide +kernel
theorem dL_law_275 : decode cL_law 275 = .ok (.aload_n 1, 1) := by decide +kernel
theorem dL_law_276 : decode cL_law 276 = .ok (.aload_n 0, 1) := by decide +kernel
theorem dL_law_277 : decode cL_law 277 = .ok (.iload_n 3, 1) := by decide +kernel
theorem dL_law_278 : decode cL_law 278 = .ok (.iconst 1, 1) := by decide +kernel
theorem dL_law_279 : decode cL_law 279 = .ok (.iadd, 1) := by decide +kernel
theorem dL_law_280 : decode cL_law 280 = .ok (.iaload, 1) := by decide +kernel
theorem dL_law_281 : decode cL_law 281 = .ok (.invokevirtual 36, 3) := by decide +kernel
theorem dL_law_284 : decode cL_law 284 = .ok (.aload_n 2, 1) := by decide +kernel
theorem dL_law_285 : decode cL_law 285 = .ok (.aload_n 0, 1) := by decide +kernel
theorem dL_law_286 : decode cL_law 286 = .ok (.iload_n 3, 1) := by decide +kernel
theorem dL_law_287 : decode cL_law 287 = .ok (.iconst 1, 1) := by decide +kernel
theorem dL_law_288 : decode cL_law 288 = .ok (.iadd, 1) := by decide +kernel
theorem dL_law_289 : decode cL_law 289 = .ok (.iaload, 1) := by decide +kernel
theorem dL_law_290 : decode cL_law 290 = .ok (.invokevirtual 39, 3) := by decide +kernel
theorem dL_law_293 : decode cL_law 293 = .ok (.if_icmp .eq 601, 3) := by decide +kernel
theorem dL_law_296 : decode cL_law 296 = .ok (.iconst 0, 1) := by decide +kernel
theorem dL_law_297 : decode cL_law 297 = .ok (.ireturn, 1) := by decide +kernel
theorem dL_law_298 : decode cL_law 298 = .ok (.aload_n 1, 1) := by decide +kernel
theorem dL_law_299 : decode cL_law 299 = .ok (.aload_n 0, 1) := by decide +kernel
theorem dL_law_300 : decode cL_law 300 = .ok (.iload_n 3, 1) := by decide +kernel
theorem dL_law_301 : decode cL_law 301 = .ok (.iconst 1, 1) := by decide +kernel
theorem dL_law_302 : decode cL_law 302 = .ok (.iadd, 1) := by decide +kernel
theorem dL_law_303 : decode cL_law 303 = .ok (.iaload, 1) := by decide +kernel
theorem dL_law_304 : decode cL_law 304 = .ok (.invokevirtual 40, 3) := by decide +kernel
theorem dL_law_307 : decode cL_law 307 = .ok (.aload_n 2, 1) := by decide +kernel
theorem dL_law_308 : decode cL_law 308 = .ok (.aload_n 0, 1) := by decide +kernel
theorem dL_law_309 : decode cL_law 309 = .ok (.iload_n 3, 1) := by decide +kernel
theorem dL_law_310 : decode cL_law 310 = .ok (.iconst 1, 1) := by decide +kernel
theorem dL_law_311 : decode cL_law 311 = .ok (.iadd, 1) := by decide +kernel
theorem dL_law_312 : decode cL_law 312 = .ok (.iaload, 1) := by decide +kernel
theorem dL_law_313 : decode cL_law 313 = .ok (.invokevirtual 43, 3) := by decide +kernel
theorem dL_law_316 : decode cL_law 316 = .ok (.if_icmp .eq 578, 3) := by decide +kernel
theorem dL_law_319 : decode cL_law 319 = .ok (.iconst 0, 1) := by decide +kernel
theorem dL_law_320 : decode cL_law 320 = .ok (.ireturn, 1) := by decide +kernel
theorem dL_law_321 : decode cL_law 321 = .ok (.aload_n 1, 1) := by decide +kernel
theorem dL_law_322 : decode cL_law 322 = .ok (.aload_n 0, 1) := by decide +kernel
theorem dL_law_323 : decode cL_law 323 = .ok (.iload_n 3, 1) := by decide +kernel
theorem dL_law_324 : decode cL_law 324 = .ok (.iconst 1, 1) := by decide +kernel
theorem dL_law_325 : decode cL_law 325 = .ok (.iadd, 1) := by decide +kernel
theorem dL_law_326 : decode cL_law 326 = .ok (.iaload, 1) := by decide +kernel
theorem dL_law_327 : decode cL_law 327 = .ok (.aload_n 0, 1) := by decide +kernel
theorem dL_law_328 : decode cL_law 328 = .ok (.iload_n 3, 1) := by decide +kernel
theorem dL_law_329 : decode cL_law 329 = .ok (.iconst 2, 1) := by decide +kernel
theorem dL_law_330 : decode cL_law 330 = .ok (.iadd, 1) := by decide +kernel
theorem dL_law_331 : decode cL_law 331 = .ok (.iaload, 1) := by decide +kernel
theorem dL_law_332 : decode cL_law 332 = .ok (.aload_n 0, 1) := by decide +kernel
theorem dL_law_333 : decode cL_law 333 = .ok (.iload_n 3, 1) := by decide +kernel
theorem dL_law_334 : decode cL_law 334 = .ok (.iconst 3, 1) := by decide +kernel
theorem dL_law_335 : decode cL_law 335 = .ok (.iadd, 1) := by decide +kernel
theorem dL_law_336 : decode cL_law 336 = .ok (.iaload, 1) := by decide +kernel
theorem dL_law_337 : decode cL_law 337 = .ok (.invokevirtual 44, 3) := by decide +kernel
theorem dL_law_340 : decode cL_law 340 = .ok (.aload_n 2, 1) := by decide +kernel
theorem dL_law_341 : decode cL_law 341 = .ok (.aload_n 0, 1) := by decide +kernel
theorem dL_law_342 : decode cL_law 342 = .ok (.iload_n 3, 1) := by decide +kernel
theorem dL_law_343 : decode cL_law 343 = .ok (.iconst 1, 1) := by decide +kernel
theorem dL_law_344 : decode cL_law 344 = .ok (.iadd, 1) := by decide +kernel
theorem dL_law_345 : decode cL_law 345 = .ok (.iaload, 1) := by decide +kernel
theorem dL_law_346 : decode cL_law 346 = .ok (.aload_n 0, 1) := by decide +kernel
theorem dL_law_347 : decode cL_law 347 = .ok (.iload_n 3, 1) := by decide +kernel
theorem dL_law_348 : decode cL_law 348 = .ok (.iconst 2, 1) := by decide +kernel
theorem dL_law_349 : decode cL_law 349 = .ok (.iadd, 1) := by decide +kernel
theorem dL_law_350 : decode cL_law 350 = .ok (.iaload, 1) := by decide +kernel
theorem dL_law_351 : decode cL_law 351 = .ok (.aload_n 0, 1) := by decide +kernel
theorem dL_law_352 : decode cL_law 352 = .ok (.iload_n 3, 1) := by decide +kernel
theorem dL_law_353 : decode cL_law 353 = .ok (.iconst 3, 1) := by decide +kernel
theorem dL_law_354 : decode cL_law 354 = .ok (.iadd, 1) := by decide +kernel
theorem dL_law_355 : decode cL_law 355 = .ok (.iaload, 1) := by decide +kernel
theorem dL_law_356 : decode cL_law 356 = .ok (.invokevirtual 48, 3) := by decide +kernel
theorem dL_law_359 : decode cL_law 359 = .ok (.if_icmp .eq 535, 3) := by decide +kernel
theorem dL_law_362 : decode cL_law 362 = .ok (.iconst 0, 1) := by decide +kernel
theorem dL_law_363 : decode cL_law 363 = .ok (.ireturn, 1) := by decide +kernel
theorem dL_law_364 : decode cL_law 364 = .ok (.aload_n 1, 1) := by decide +kernel
theorem dL_law_365 : decode cL_law 365 = .ok (.aload_n 0, 1) := by decide +kernel
theorem dL_law_366 : decode cL_law 366 = .ok (.iload_n 3, 1) := by decide +kernel
theorem dL_law_367 : decode cL_law 367 = .ok (.iconst 1, 1) := by decide +kernel
theorem dL_law_368 : decode cL_law 368 = .ok (.iadd, 1) := by decide +kernel
theorem dL_law_369 : decode cL_law 369 = .ok (.iaload, 1) := by decide +kernel
theorem dL_law_370 : decode cL_law 370 = .ok (.aload_n 0, 1) := by decide +kernel
theorem dL_law_371 : decode cL_law 371 = .ok (.iload_n 3, 1) := by decide +kernel
theorem dL_law_372 : decode cL_law 372 = .ok (.iconst 2, 1) := by decide +kernel
theorem dL_law_373 : decode cL_law 373 = .ok (.iadd, 1) := by decide +kernel
theorem dL_law_374 : decode cL_law 374 = .ok (.iaload, 1) := by decide +kernel
theorem dL_law_375 : decode cL_law 375 = .ok (.invokevirtual 49, 3) := by decide +kernel
theorem dL_law_378 : decode cL_law 378 = .ok (.aload_n 2, 1) := by decide +kernel
theorem dL_law_379 : decode cL_law 379 = .ok (.aload_n 0, 1) := by decide +kernel
theorem dL_law_380 : decode cL_law 380 = .ok (.iload_n 3, 1) := by decide +kernel
theorem dL_law_381 : decode cL_law 381 = .ok (.iconst 1, 1) := by decide +kernel
theorem dL_law_382 : decode cL_law 382 = .ok (.iadd, 1) := by decide +kernel
theorem dL_law_383 : decode cL_law 383 = .ok (.iaload, 1) := by decide +kernel
theorem dL_law_384 : decode cL_law 384 = .ok (.aload_n 0, 1) := by decide +kernel
theorem dL_law_385 : decode cL_law 385 = .ok (.iload_n 3, 1) := by decide +kernel
theorem dL_law_386 : decode cL_law 386 = .ok (.iconst 2, 1) := by decide +kernel
theorem dL_law_387 : decode cL_law 387 = .ok (.iadd, 1) := by decide +kernel
theorem dL_law_388 : decode cL_law 388 = .ok (.iaload, 1) := by decide +kernel
theorem dL_law_389 : decode cL_law 389 = .ok (.invokevirtual 52, 3) := by decide +kernel
theorem dL_law_392 : decode cL_law 392 = .ok (.if_icmp .eq 502, 3) := by decide +kernel
theorem dL_law_395 : decode cL_law 395 = .ok (.iconst 0, 1) := by decide +kernel
theorem dL_law_396 : decode cL_law 396 = .ok (.ireturn, 1) := by decide +kernel
theorem dL_law_397 : decode cL_law 397 = .ok (.aload_n 1, 1) := by decide +kernel
theorem dL_law_398 : decode cL_law 398 = .ok (.invokevirtual 53, 3) := by decide +kernel
theorem dL_law_401 : decode cL_law 401 = .ok (.aload_n 2, 1) := by decide +kernel
theorem dL_law_402 : decode cL_law 402 = .ok (.invokevirtual 56, 3) := by decide +kernel
theorem dL_law_405 : decode cL_law 405 = .ok (.if_icmp .eq 489, 3) := by decide +kernel
theorem dL_law_408 : decode cL_law 408 = .ok (.iconst 0, 1) := by decide +kernel
theorem dL_law_409 : decode cL_law 409 = .ok (.ireturn, 1) := by decide +kernel
theorem dL_law_410 : decode cL_law 410 = .ok (.aload_n 1, 1) := by decide +kernel
theorem dL_law_411 : decode cL_law 411 = .ok (.aload_n 0, 1) := by decide +kernel
theorem dL_law_412 : decode cL_law 412 = .ok (.iload_n 3, 1) := by decide +kernel
theorem dL_law_413 : decode cL_law 413 = .ok (.iconst 1, 1) := by decide +kernel
theorem dL_law_414 : decode cL_law 414 = .ok (.iadd, 1) := by decide +kernel
theorem dL_law_415 : decode cL_law 415 = .ok (.iaload, 1) := by decide +kernel
theorem dL_law_416 : decode cL_law 416 = .ok (.aload_n 0, 1) := by decide +kernel
theorem dL_law_417 : decode cL_law 417 = .ok (.iload_n 3, 1) := by decide +kernel
theorem dL_law_418 : decode cL_law 418 = .ok (.iconst 2, 1) := by decide +kernel
theorem dL_law_419 : decode cL_law 419 = .ok (.iadd, 1) := by decide +kernel
theorem dL_law_420 : decode cL_law 420 = .ok (.iaload, 1) := by decide +kernel
theorem dL_law_421 : decode cL_law 421 = .ok (.aload_n 0, 1) := by decide +kernel
theorem dL_law_422 : decode cL_law 422 = .ok (.iload_n 3, 1) := by decide +kernel
theorem dL_law_423 : decode cL_law 423 = .ok (.iconst 3, 1) := by decide +kernel
theorem dL_law_424 : decode cL_law 424 = .ok (.iadd, 1) := by decide +kernel
theorem dL_law_425 : decode cL_law 425 = .ok (.iaload, 1) := by decide +kernel
theorem dL_law_426 : decode cL_law 426 = .ok (.invokevirtual 57, 3) := by decide +kernel
theorem dL_law_429 : decode cL_law 429 = .ok (.aload_n 2, 1) := by decide +kernel
theorem dL_law_430 : decode cL_law 430 = .ok (.aload_n 0, 1) := by decide +kernel
theorem dL_law_431 : decode cL_law 431 = .ok (.iload_n 3, 1) := by decide +kernel
theorem dL_law_432 : decode cL_law 432 = .ok (.iconst 1, 1) := by decide +kernel
theorem dL_law_433 : decode cL_law 433 = .ok (.iadd, 1) := by decide +kernel
theorem dL_law_434 : decode cL_law 434 = .ok (.iaload, 1) := by decide +kernel
theorem dL_law_435 : decode cL_law 435 = .ok (.aload_n 0, 1) := by decide +kernel
theorem dL_law_436 : decode cL_law 436 = .ok (.iload_n 3, 1) := by decide +kernel
theorem dL_law_437 : decode cL_law 437 = .ok (.iconst 2, 1) := by decide +kernel
theorem dL_law_438 : decode cL_law 438 = .ok (.iadd, 1) := by decide +kernel
theorem dL_law_439 : decode cL_law 439 = .ok (.iaload, 1) := by decide +kernel
theorem dL_law_440 : decode cL_law 440 = .ok (.aload_n 0, 1) := by decide +kernel
theorem dL_law_441 : decode cL_law 441 = .ok (.iload_n 3, 1) := by decide +kernel
theorem dL_law_442 : decode cL_law 442 = .ok (.iconst 3, 1) := by decide +kernel
theorem dL_law_443 : decode cL_law 443 = .ok (.iadd, 1) := by decide +kernel
theorem dL_law_444 : decode cL_law 444 = .ok (.iaload, 1) := by decide +kernel
theorem dL_law_445 : decode cL_law 445 = .ok (.invokevirtual 60, 3) := by decide +kernel
theorem dL_law_448 : decode cL_law 448 = .ok (.if_icmp .eq 446, 3) := by decide +kernel
theorem dL_law_451 : decode cL_law 451 = .ok (.iconst 0, 1) := by decide +kernel
theorem dL_law_452 : decode cL_law 452 = .ok (.ireturn, 1) := by decide +kernel
theorem dL_law_453 : decode cL_law 453 = .ok (.aload_n 1, 1) := by decide +kernel
theorem dL_law_454 : decode cL_law 454 = .ok (.aload_n 0, 1) := by decide +kernel
theorem dL_law_455 : decode cL_law 455 = .ok (.iload_n 3, 1) := by decide +kernel
theorem dL_law_456 : decode cL_law 456 = .ok (.iconst 1, 1) := by decide +kernel
theorem dL_law_457 : decode cL_law 457 = .ok (.iadd, 1) := by decide +kernel
theorem dL_law_458 : decode cL_law 458 = .ok (.iaload, 1) := by decide +kernel
theorem dL_law_459 : decode cL_law 459 = .ok (.aload_n 0, 1) := by decide +kernel
theorem dL_law_460 : decode cL_law 460 = .ok (.iload_n 3, 1) := by decide +kernel
theorem dL_law_461 : decode cL_law 461 = .ok (.iconst 2, 1) := by decide +kernel
theorem dL_law_462 : decode cL_law 462 = .ok (.iadd, 1) := by decide +kernel
theorem dL_law_463 : decode cL_law 463 = .ok (.iaload, 1) := by decide +kernel
theorem dL_law_464 : decode cL_law 464 = .ok (.aload_n 0, 1) := by decide +kernel
theorem dL_law_465 : decode cL_law 465 = .ok (.iload_n 3, 1) := by decide +kernel
theorem dL_law_466 : decode cL_law 466 = .ok (.iconst 3, 1) := by decide +kernel
theorem dL_law_467 : decode cL_law 467 = .ok (.iadd, 1) := by decide +kernel
theorem dL_law_468 : decode cL_law 468 = .ok (.iaload, 1) := by decide +kernel
theorem dL_law_469 : decode cL_law 469 = .ok (.invokevirtual 61, 3) := by decide +kernel
theorem dL_law_472 : decode cL_law 472 = .ok (.aload_n 2, 1) := by decide +kernel
theorem dL_law_473 : decode cL_law 473 = .ok (.aload_n 0, 1) := by decide +kernel
theorem dL_law_474 : decode cL_law 474 = .ok (.iload_n 3, 1) := by decide +kernel
theorem dL_law_475 : decode cL_law 475 = .ok (.iconst 1, 1) := by decide +kernel
theorem dL_law_476 : decode cL_law 476 = .ok (.iadd, 1) := by decide +kernel
theorem dL_law_477 : decode cL_law 477 = .ok (.iaload, 1) := by decide +kernel
theorem dL_law_478 : decode cL_law 478 = .ok (.aload_n 0, 1) := by decide +kernel
theorem dL_law_479 : decode cL_law 479 = .ok (.iload_n 3, 1) := by decide +kernel
theorem dL_law_480 : decode cL_law 480 = .ok (.iconst 2, 1) := by decide +kernel
theorem dL_law_481 : decode cL_law 481 = .ok (.iadd, 1) := by decide +kernel
theorem dL_law_482 : decode cL_law 482 = .ok (.iaload, 1) := by decide +kernel
theorem dL_law_483 : decode cL_law 483 = .ok (.aload_n 0, 1) := by decide +kernel
theorem dL_law_484 : decode cL_law 484 = .ok (.iload_n 3, 1) := by decide +kernel
theorem dL_law_485 : decode cL_law 485 = .ok (.iconst 3, 1) := by decide +kernel
theorem dL_law_486 : decode cL_law 486 = .ok (.iadd, 1) := by decide +kernel
theorem dL_law_487 : decode cL_law 487 = .ok (.iaload, 1) := by decide +kernel
theorem dL_law_488 : decode cL_law 488 = .ok (.invokevirtual 64, 3) := by decide +kernel
theorem dL_law_491 : decode cL_law 491 = .ok (.if_icmp .eq 403, 3) := by decide +kernel
theorem dL_law_494 : decode cL_law 494 = .ok (.iconst 0, 1) := by decide +kernel
theorem dL_law_495 : decode cL_law 495 = .ok (.ireturn, 1) := by decide +kernel
theorem dL_law_496 : decode cL_law 496 = .ok (.aload_n 1, 1) := by decide +kernel
theorem dL_law_497 : decode cL_law 497 = .ok (.aload_n 0, 1) := by decide +kernel
theorem dL_law_498 : decode cL_law 498 = .ok (.iload_n 3, 1) := by decide +kernel
theorem dL_law_499 : decode cL_law 499 = .ok (.iconst 1, 1) := by decide +kernel
theorem dL_law_500 : decode cL_law 500 = .ok (.iadd, 1) := by decide +kernel
theorem dL_law_501 : decode cL_law 501 = .ok (.iaload, 1) := by decide +kernel
theorem dL_law_502 : decode cL_law 502 = .ok (.aload_n 0, 1) := by decide +kernel
theorem dL_law_503 : decode cL_law 503 = .ok (.iload_n 3, 1) := by decide +kernel
theorem dL_law_504 : decode cL_law 504 = .ok (.iconst 2, 1) := by decide +kernel
theorem dL_law_505 : decode cL_law 505 = .ok (.iadd, 1) := by decide +kernel
theorem dL_law_506 : decode cL_law 506 = .ok (.iaload, 1) := by decide +kernel
theorem dL_law_507 : decode cL_law 507 = .ok (.invokevirtual 65, 3) := by decide +kernel
theorem dL_law_510 : decode cL_law 510 = .ok (.aload_n 2, 1) := by decide +kernel
theorem dL_law_511 : decode cL_law 511 = .ok (.aload_n 0, 1) := by decide +kernel
theorem dL_law_512 : decode cL_law 512 = .ok (.iload_n 3, 1) := by decide +kernel
theorem dL_law_513 : decode cL_law 513 = .ok (.iconst 1, 1) := by decide +kernel
theorem dL_law_514 : decode cL_law 514 = .ok (.iadd, 1) := by decide +kernel
theorem dL_law_515 : decode cL_law 515 = .ok (.iaload, 1) := by decide +kernel
theorem dL_law_516 : decode cL_law 516 = .ok (.aload_n 0, 1) := by decide +kernel
theorem dL_law_517 : decode cL_law 517 = .ok (.iload_n 3, 1) := by decide +kernel
theorem dL_law_518 : decode cL_law 518 = .ok (.iconst 2, 1) := by decide +kernel
theorem dL_law_519 : decode cL_law 519 = .ok (.iadd, 1) := by decide +kernel
theorem dL_law_520 : decode cL_law 520 = .ok (.iaload, 1) := by decide +kernel
theorem dL_law_521 : decode cL_law 521 = .ok (.invokevirtual 68, 3) := by decide +kernel
theorem dL_law_524 : decode cL_law 524 = .ok (.if_icmp .eq 370, 3) := by decide +kernel
theorem dL_law_527 : decode cL_law 527 = .ok (.iconst 0, 1) := by decide +kernel
theorem dL_law_528 : decode cL_law 528 = .ok (.ireturn, 1) := by decide +kernel
theorem dL_law_529 : decode cL_law 529 = .ok (.aload_n 1, 1) := by decide +kernel
theorem dL_law_530 : decode cL_law 530 = .ok (.aload_n 0, 1) := by decide +kernel
theorem dL_law_531 : decode cL_law 531 = .ok (.iload_n 3, 1) := by decide +kernel
theorem dL_law_532 : decode cL_law 532 = .ok (.iconst 1, 1) := by decide +kernel
theorem dL_law_533 : decode cL_law 533 = .ok (.iadd, 1) := by decide +kernel
theorem dL_law_534 : decode cL_law 534 = .ok (.iaload, 1) := by decide +kernel
theorem dL_law_535 : decode cL_law 535 = .ok (.aload_n 0, 1) := by decide +kernel
theorem dL_law_536 : decode cL_law 536 = .ok (.iload_n 3, 1) := by decide +kernel
theorem dL_law_537 : decode cL_law 537 = .ok (.iconst 2, 1) := by decide +kernel
theorem dL_law_538 : decode cL_law 538 = .ok (.iadd, 1) := by decide +kernel
theorem dL_law_539 : decode cL_law 539 = .ok (.iaload, 1) := by decide +kernel
theorem dL_law_540 : decode cL_law 540 = .ok (.invokevirtual 69, 3) := by decide +kernel
theorem dL_law_543 : decode cL_law 543 = .ok (.aload_n 2, 1) := by decide +kernel
theorem dL_law_544 : decode cL_law 544 = .ok (.aload_n 0, 1) := by decide +kernel
theorem dL_law_545 : decode cL_law 545 = .ok (.iload_n 3, 1) := by decide +kernel
theorem dL_law_546 : decode cL_law 546 = .ok (.iconst 1, 1) := by decide +kernel
theorem dL_law_547 : decode cL_law 547 = .ok (.iadd, 1) := by decide +kernel
theorem dL_law_548 : decode cL_law 548 = .ok (.iaload, 1) := by decide +kernel
theorem dL_law_549 : decode cL_law 549 = .ok (.aload_n 0, 1) := by decide +kernel
theorem dL_law_550 : decode cL_law 550 = .ok (.iload_n 3, 1) := by decide +kernel
theorem dL_law_551 : decode cL_law 551 = .ok (.iconst 2, 1) := by decide +kernel
theorem dL_law_552 : decode cL_law 552 = .ok (.iadd, 1) := by decide +kernel
theorem dL_law_553 : decode cL_law 553 = .ok (.iaload, 1) := by decide +kernel
theorem dL_law_554 : decode cL_law 554 = .ok (.invokevirtual 72, 3) := by decide +kernel
theorem dL_law_557 : decode cL_law 557 = .ok (.if_icmp .eq 337, 3) := by decide +kernel
theorem dL_law_560 : decode cL_law 560 = .ok (.iconst 0, 1) := by decide +kernel
theorem dL_law_561 : decode cL_law 561 = .ok (.ireturn, 1) := by decide +kernel
theorem dL_law_562 : decode cL_law 562 = .ok (.aload_n 1, 1) := by decide +kernel
theorem dL_law_563 : decode cL_law 563 = .ok (.aload_n 0, 1) := by decide +kernel
theorem dL_law_564 : decode cL_law 564 = .ok (.iload_n 3, 1) := by decide +kernel
theorem dL_law_565 : decode cL_law 565 = .ok (.iconst 1, 1) := by decide +kernel
theorem dL_law_566 : decode cL_law 566 = .ok (.iadd, 1) := by decide +kernel
theorem dL_law_567 : decode cL_law 567 = .ok (.iaload, 1) := by decide +kernel
theorem dL_law_568 : decode cL_law 568 = .ok (.invokevirtual 73, 3) := by decide +kernel
theorem dL_law_571 : decode cL_law 571 = .ok (.aload_n 2, 1) := by decide +kernel
theorem dL_law_572 : decode cL_law 572 = .ok (.aload_n 0, 1) := by decide +kernel
theorem dL_law_573 : decode cL_law 573 = .ok (.iload_n 3, 1) := by decide +kernel
theorem dL_law_574 : decode cL_law 574 = .ok (.iconst 1, 1) := by decide +kernel
theorem dL_law_575 : decode cL_law 575 = .ok (.iadd, 1) := by decide +kernel
theorem dL_law_576 : decode cL_law 576 = .ok (.iaload, 1) := by decide +kernel
theorem dL_law_577 : decode cL_law 577 = .ok (.invokevirtual 76, 3) := by decide +kernel
theorem dL_law_580 : decode cL_law 580 = .ok (.if_icmp .eq 314, 3) := by decide +kernel
theorem dL_law_583 : decode cL_law 583 = .ok (.iconst 0, 1) := by decide +kernel
theorem dL_law_584 : decode cL_law 584 = .ok (.ireturn, 1) := by decide +kernel
theorem dL_law_585 : decode cL_law 585 = .ok (.aload_n 1, 1) := by decide +kernel
theorem dL_law_586 : decode cL_law 586 = .ok (.aload_n 0, 1) := by decide +kernel
theorem dL_law_587 : decode cL_law 587 = .ok (.iload_n 3, 1) := by decide +kernel
theorem dL_law_588 : decode cL_law 588 = .ok (.iconst 1, 1) := by decide +kernel
theorem dL_law_589 : decode cL_law 589 = .ok (.iadd, 1) := by decide +kernel
theorem dL_law_590 : decode cL_law 590 = .ok (.iaload, 1) := by decide +kernel
theorem dL_law_591 : decode cL_law 591 = .ok (.invokevirtual 77, 3) := by decide +kernel
theorem dL_law_594 : decode cL_law 594 = .ok (.aload_n 2, 1) := by decide +kernel
theorem dL_law_595 : decode cL_law 595 = .ok (.aload_n 0, 1) := by decide +kernel
theorem dL_law_596 : decode cL_law 596 = .ok (.iload_n 3, 1) := by decide +kernel
theorem dL_law_597 : decode cL_law 597 = .ok (.iconst 1, 1) := by decide +kernel
theorem dL_law_598 : decode cL_law 598 = .ok (.iadd, 1) := by decide +kernel
theorem dL_law_599 : decode cL_law 599 = .ok (.iaload, 1) := by decide +kernel
theorem dL_law_600 : decode cL_law 600 = .ok (.invokevirtual 80, 3) := by decide +kernel
theorem dL_law_603 : decode cL_law 603 = .ok (.if_icmp .eq 291, 3) := by decide +kernel
theorem dL_law_606 : decode cL_law 606 = .ok (.iconst 0, 1) := by decide +kernel
theorem dL_law_607 : decode cL_law 607 = .ok (.ireturn, 1) := by decide +kernel
theorem dL_law_608 : decode cL_law 608 = .ok (.aload_n 1, 1) := by decide +kernel
theorem dL_law_609 : decode cL_law 609 = .ok (.aload_n 0, 1) := by decide +kernel
theorem dL_law_610 : decode cL_law 610 = .ok (.iload_n 3, 1) := by decide +kernel
theorem dL_law_611 : decode cL_law 611 = .ok (.iconst 1, 1) := by decide +kernel
theorem dL_law_612 : decode cL_law 612 = .ok (.iadd, 1) := by decide +kernel
theorem dL_law_613 : decode cL_law 613 = .ok (.iaload, 1) := by decide +kernel
theorem dL_law_614 : decode cL_law 614 = .ok (.aload_n 0, 1) := by decide +kernel
theorem dL_law_615 : decode cL_law 615 = .ok (.iload_n 3, 1) := by decide +kernel
theorem dL_law_616 : decode cL_law 616 = .ok (.iconst 2, 1) := by decide +kernel
theorem dL_law_617 : decode cL_law 617 = .ok (.iadd, 1) := by decide +kernel
theorem dL_law_618 : decode cL_law 618 = .ok (.iaload, 1) := by decide +kernel
theorem dL_law_619 : decode cL_law 619 = .ok (.aload_n 0, 1) := by decide +kernel
theorem dL_law_620 : decode cL_law 620 = .ok (.iload_n 3, 1) := by decide +kernel
theorem dL_law_621 : decode cL_law 621 = .ok (.iconst 3, 1) := by decide +kernel
theorem dL_law_622 : decode cL_law 622 = .ok (.iadd, 1) := by decide +kernel
theorem dL_law_623 : decode cL_law 623 = .ok (.iaload, 1) := by decide +kernel
theorem dL_law_624 : decode cL_law 624 = .ok (.invokevirtual 81, 3) := by decide +kernel
theorem dL_law_627 : decode cL_law 627 = .ok (.aload_n 2, 1) := by decide +kernel
theorem dL_law_628 : decode cL_law 628 = .ok (.aload_n 0, 1) := by decide +kernel
theorem dL_law_629 : decode cL_law 629 = .ok (.iload_n 3, 1) := by decide +kernel
theorem dL_law_630 : decode cL_law 630 = .ok (.iconst 1, 1) := by decide +kernel
theorem dL_law_631 : decode cL_law 631 = .ok (.iadd, 1) := by decide +kernel
theorem dL_law_632 : decode cL_law 632 = .ok (.iaload, 1) := by decide +kernel
theorem dL_law_633 : decode cL_law 633 = .ok (.aload_n 0, 1) := by decide +kernel
theorem dL_law_634 : decode cL_law 634 = .ok (.iload_n 3, 1) := by decide +kernel
theorem dL_law_635 : decode cL_law 635 = .ok (.iconst 2, 1) := by decide +kernel
theorem dL_law_636 : decode cL_law 636 = .ok (.iadd, 1) := by decide +kernel
theorem dL_law_637 : decode cL_law 637 = .ok (.iaload, 1) := by decide +kernel
theorem dL_law_638 : decode cL_law 638 = .ok (.aload_n 0, 1) := by decide +kernel
theorem dL_law_639 : decode cL_law 639 = .ok (.iload_n 3, 1) := by decide +kernel
theorem dL_law_640 : decode cL_law 640 = .ok (.iconst 3, 1) := by decide +kernel
theorem dL_law_641 : decode cL_law 641 = .ok (.iadd, 1) := by decide +kernel
theorem dL_law_642 : decode cL_law 642 = .ok (.iaload, 1) := by decide +kernel
theorem dL_law_643 : decode cL_law 643 = .ok (.invokevirtual 84, 3) := by decide +kernel
theorem dL_law_646 : decode cL_law 646 = .ok (.if_icmp .eq 248, 3) := by decide +kernel
theorem dL_law_649 : decode cL_law 649 = .ok (.iconst 0, 1) := by decide +kernel
theorem dL_law_650 : decode cL_law 650 = .ok (.ireturn, 1) := by decide +kernel
theorem dL_law_651 : decode cL_law 651 = .ok (.aload_n 1, 1) := by decide +kernel
theorem dL_law_652 : decode cL_law 652 = .ok (.aload_n 0, 1) := by decide +kernel
theorem dL_law_653 : decode cL_law 653 = .ok (.iload_n 3, 1) := by decide +kernel
theorem dL_law_654 : decode cL_law 654 = .ok (.iconst 1, 1) := by decide +kernel
theorem dL_law_655 : decode cL_law 655 = .ok (.iadd, 1) := by decide +kernel
theorem dL_law_656 : decode cL_law 656 = .ok (.iaload, 1) := by decide +kernel
theorem dL_law_657 : decode cL_law 657 = .ok (.invokevirtual 85, 3) := by decide +kernel
theorem dL_law_660 : decode cL_law 660 = .ok (.aload_n 2, 1) := by decide +kernel
theorem dL_law_661 : decode cL_law 661 = .ok (.aload_n 0, 1) := by decide +kernel
theorem dL_law_662 : decode cL_law 662 = .ok (.iload_n 3, 1) := by decide +kernel
theorem dL_law_663 : decode cL_law 663 = .ok (.iconst 1, 1) := by decide +kernel
theorem dL_law_664 : decode cL_law 664 = .ok (.iadd, 1) := by decide +kernel
theorem dL_law_665 : decode cL_law 665 = .ok (.iaload, 1) := by decide +kernel
theorem dL_law_666 : decode cL_law 666 = .ok (.invokevirtual 88, 3) := by decide +kernel
theorem dL_law_669 : decode cL_law 669 = .ok (.if_icmp .eq 225, 3) := by decide +kernel
theorem dL_law_672 : decode cL_law 672 = .ok (.iconst 0, 1) := by decide +kernel
theorem dL_law_673 : decode cL_law 673 = .ok (.ireturn, 1) := by decide +kernel
theorem dL_law_674 : decode cL_law 674 = .ok (.aload_n 1, 1) := by decide +kernel
theorem dL_law_675 : decode cL_law 675 = .ok (.aload_n 0, 1) := by decide +kernel
theorem dL_law_676 : decode cL_law 676 = .ok (.iload_n 3, 1) := by decide +kernel
theorem dL_law_677 : decode cL_law 677 = .ok (.iconst 1, 1) := by decide +kernel
theorem dL_law_678 : decode cL_law 678 = .ok (.iadd, 1) := by decide +kernel
theorem dL_law_679 : decode cL_law 679 = .ok (.iaload, 1) := by decide +kernel
theorem dL_law_680 : decode cL_law 680 = .ok (.aload_n 0, 1) := by decide +kernel
theorem dL_law_681 : decode cL_law 681 = .ok (.iload_n 3, 1) := by decide +kernel
theorem dL_law_682 : decode cL_law 682 = .ok (.iconst 2, 1) := by decide +kernel
theorem dL_law_683 : decode cL_law 683 = .ok (.iadd, 1) := by decide +kernel
theorem dL_law_684 : decode cL_law 684 = .ok (.iaload, 1) := by decide +kernel
theorem dL_law_685 : decode cL_law 685 = .ok (.invokevirtual 89, 3) := by decide +kernel
theorem dL_law_688 : decode cL_law 688 = .ok (.aload_n 2, 1) := by decide +kernel
theorem dL_law_689 : decode cL_law 689 = .ok (.aload_n 0, 1) := by decide +kernel
theorem dL_law_690 : decode cL_law 690 = .ok (.iload_n 3, 1) := by decide +kernel
theorem dL_law_691 : decode cL_law 691 = .ok (.iconst 1, 1) := by decide +kernel
theorem dL_law_692 : decode cL_law 692 = .ok (.iadd, 1) := by decide +kernel
theorem dL_law_693 : decode cL_law 693 = .ok (.iaload, 1) := by decide +kernel
theorem dL_law_694 : decode cL_law 694 = .ok (.aload_n 0, 1) := by decide +kernel
theorem dL_law_695 : decode cL_law 695 = .ok (.iload_n 3, 1) := by decide +kernel
theorem dL_law_696 : decode cL_law 696 = .ok (.iconst 2, 1) := by decide +kernel
theorem dL_law_697 : decode cL_law 697 = .ok (.iadd, 1) := by decide +kernel
theorem dL_law_698 : decode cL_law 698 = .ok (.iaload, 1) := by decide +kernel
theorem dL_law_699 : decode cL_law 699 = .ok (.invokevirtual 92, 3) := by decide +kernel
theorem dL_law_702 : decode cL_law 702 = .ok (.if_icmp .eq 192, 3) := by decide +kernel
theorem dL_law_705 : decode cL_law 705 = .ok (.iconst 0, 1) := by decide +kernel
theorem dL_law_706 : decode cL_law 706 = .ok (.ireturn, 1) := by decide +kernel
theorem dL_law_707 : decode cL_law 707 = .ok (.aload_n 1, 1) := by decide +kernel
theorem dL_law_708 : decode cL_law 708 = .ok (.invokevirtual 93, 3) := by decide +kernel
theorem dL_law_711 : decode cL_law 711 = .ok (.aload_n 2, 1) := by decide +kernel
theorem dL_law_712 : decode cL_law 712 = .ok (.invokevirtual 96, 3) := by decide +kernel
theorem dL_law_715 : decode cL_law 715 = .ok (.if_icmp .eq 179, 3) := by decide +kernel
theorem dL_law_718 : decode cL_law 718 = .ok (.iconst 0, 1) := by decide +kernel
theorem dL_law_719 : decode cL_law 719 = .ok (.ireturn, 1) := by decide +kernel
theorem dL_law_720 : decode cL_law 720 = .ok (.aload_n 1, 1) := by decide +kernel
theorem dL_law_721 : decode cL_law 721 = .ok (.aload_n 0, 1) := by decide +kernel
theorem dL_law_722 : decode cL_law 722 = .ok (.iload_n 3, 1) := by decide +kernel
theorem dL_law_723 : decode cL_law 723 = .ok (.iconst 1, 1) := by decide +kernel
theorem dL_law_724 : decode cL_law 724 = .ok (.iadd, 1) := by decide +kernel
theorem dL_law_725 : decode cL_law 725 = .ok (.iaload, 1) := by decide +kernel
theorem dL_law_726 : decode cL_law 726 = .ok (.invokevirtual 97, 3) := by decide +kernel
theorem dL_law_729 : decode cL_law 729 = .ok (.aload_n 2, 1) := by decide +kernel
theorem dL_law_730 : decode cL_law 730 = .ok (.aload_n 0, 1) := by decide +kernel
theorem dL_law_731 : decode cL_law 731 = .ok (.iload_n 3, 1) := by decide +kernel
theorem dL_law_732 : decode cL_law 732 = .ok (.iconst 1, 1) := by decide +kernel
theorem dL_law_733 : decode cL_law 733 = .ok (.iadd, 1) := by decide +kernel
theorem dL_law_734 : decode cL_law 734 = .ok (.iaload, 1) := by decide +kernel
theorem dL_law_735 : decode cL_law 735 = .ok (.invokevirtual 100, 3) := by decide +kernel
theorem dL_law_738 : decode cL_law 738 = .ok (.if_icmp .eq 156, 3) := by decide +kernel
theorem dL_law_741 : decode cL_law 741 = .ok (.iconst 0, 1) := by decide +kernel
theorem dL_law_742 : decode cL_law 742 = .ok (.ireturn, 1) := by decide +kernel
theorem dL_law_743 : decode cL_law 743 = .ok (.aload_n 1, 1) := by decide +kernel
theorem dL_law_744 : decode cL_law 744 = .ok (.invokevirtual 101, 3) := by decide +kernel
theorem dL_law_747 : decode cL_law 747 = .ok (.aload_n 2, 1) := by decide +kernel
theorem dL_law_748 : decode cL_law 748 = .ok (.invokevirtual 104, 3) := by decide +kernel
theorem dL_law_751 : decode cL_law 751 = .ok (.if_icmp .eq 143, 3) := by decide +kernel
theorem dL_law_754 : decode cL_law 754 = .ok (.iconst 0, 1) := by decide +kernel
theorem dL_law_755 : decode cL_law 755 = .ok (.ireturn, 1) := by decide +kernel
theorem dL_law_756 : decode cL_law 756 = .ok (.aload_n 1, 1) := by decide +kernel
theorem dL_law_757 : decode cL_law 757 = .ok (.aload_n 0, 1) := by decide +kernel
theorem dL_law_758 : decode cL_law 758 = .ok (.iload_n 3, 1) := by decide +kernel
theorem dL_law_759 : decode cL_law 759 = .ok (.iconst 1, 1) := by decide +kernel
theorem dL_law_760 : decode cL_law 760 = .ok (.iadd, 1) := by decide +kernel
theorem dL_law_761 : decode cL_law 761 = .ok (.iaload, 1) := by decide +kernel
theorem dL_law_762 : decode cL_law 762 = .ok (.aload_n 0, 1) := by decide +kernel
theorem dL_law_763 : decode cL_law 763 = .ok (.iload_n 3, 1) := by decide +kernel
theorem dL_law_764 : decode cL_law 764 = .ok (.iconst 2, 1) := by decide +kernel
theorem dL_law_765 : decode cL_law 765 = .ok (.iadd, 1) := by decide +kernel
theorem dL_law_766 : decode cL_law 766 = .ok (.iaload, 1) := by decide +kernel
theorem dL_law_767 : decode cL_law 767 = .ok (.aload_n 0, 1) := by decide +kernel
theorem dL_law_768 : decode cL_law 768 = .ok (.iload_n 3, 1) := by decide +kernel
theorem dL_law_769 : decode cL_law 769 = .ok (.iconst 3, 1) := by decide +kernel
theorem dL_law_770 : decode cL_law 770 = .ok (.iadd, 1) := by decide +kernel
theorem dL_law_771 : decode cL_law 771 = .ok (.iaload, 1) := by decide +kernel
theorem dL_law_772 : decode cL_law 772 = .ok (.invokevirtual 105, 3) := by decide +kernel
theorem dL_law_775 : decode cL_law 775 = .ok (.aload_n 2, 1) := by decide +kernel
theorem dL_law_776 : decode cL_law 776 = .ok (.aload_n 0, 1) := by decide +kernel
theorem dL_law_777 : decode cL_law 777 = .ok (.iload_n 3, 1) := by decide +kernel
theorem dL_law_778 : decode cL_law 778 = .ok (.iconst 1, 1) := by decide +kernel
theorem dL_law_779 : decode cL_law 779 = .ok (.iadd, 1) := by decide +kernel
theorem dL_law_780 : decode cL_law 780 = .ok (.iaload, 1) := by decide +kernel
theorem dL_law_781 : decode cL_law 781 = .ok (.aload_n 0, 1) := by decide +kernel
theorem dL_law_782 : decode cL_law 782 = .ok (.iload_n 3, 1) := by decide +kernel
theorem dL_law_783 : decode cL_law 783 = .ok (.iconst 2, 1) := by decide +kernel
theorem dL_law_784 : decode cL_law 784 = .ok (.iadd, 1) := by decide +kernel
theorem dL_law_785 : decode cL_law 785 = .ok (.iaload, 1) := by decide +kernel
theorem dL_law_786 : decode cL_law 786 = .ok (.aload_n 0, 1) := by decide +kernel
theorem dL_law_787 : decode cL_law 787 = .ok (.iload_n 3, 1) := by decide +kernel
theorem dL_law_788 : decode cL_law 788 = .ok (.iconst 3, 1) := by decide +kernel
theorem dL_law_789 : decode cL_law 789 = .ok (.iadd, 1) := by decide +kernel
theorem dL_law_790 : decode cL_law 790 = .ok (.iaload, 1) := by decide +kernel
theorem dL_law_791 : decode cL_law 791 = .ok (.invokevirtual 108, 3) := by decide +kernel
theorem dL_law_794 : decode cL_law 794 = .ok (.if_icmp .eq 100, 3) := by decide +kernel
theorem dL_law_797 : decode cL_law 797 = .ok (.iconst 0, 1) := by decide +kernel
theorem dL_law_798 : decode cL_law 798 = .ok (.ireturn, 1) := by decide +kernel
theorem dL_law_799 : decode cL_law 799 = .ok (.aload_n 1, 1) := by decide +kernel
theorem dL_law_800 : decode cL_law 800 = .ok (.invokevirtual 109, 3) := by decide +kernel
theorem dL_law_803 : decode cL_law 803 = .ok (.aload_n 2, 1) := by decide +kernel
theorem dL_law_804 : decode cL_law 804 = .ok (.invokevirtual 112, 3) := by decide +kernel
theorem dL_law_807 : decode cL_law 807 = .ok (.if_icmp .eq 87, 3) := by decide +kernel
theorem dL_law_810 : decode cL_law 810 = .ok (.iconst 0, 1) := by decide +kernel
theorem dL_law_811 : decode cL_law 811 = .ok (.ireturn, 1) := by decide +kernel
theorem dL_law_812 : decode cL_law 812 = .ok (.aload_n 1, 1) := by decide +kernel
theorem dL_law_813 : decode cL_law 813 = .ok (.invokevirtual 113, 3) := by decide +kernel
theorem dL_law_816 : decode cL_law 816 = .ok (.aload_n 2, 1) := by decide +kernel
theorem dL_law_817 : decode cL_law 817 = .ok (.invokevirtual 116, 3) := by decide +kernel
theorem dL_law_820 : decode cL_law 820 = .ok (.if_icmp .eq 74, 3) := by decide +kernel
theorem dL_law_823 : decode cL_law 823 = .ok (.iconst 0, 1) := by decide +kernel
theorem dL_law_824 : decode cL_law 824 = .ok (.ireturn, 1) := by decide +kernel
theorem dL_law_825 : decode cL_law 825 = .ok (.aload_n 1, 1) := by decide +kernel
theorem dL_law_826 : decode cL_law 826 = .ok (.aload_n 0, 1) := by decide +kernel
theorem dL_law_827 : decode cL_law 827 = .ok (.iload_n 3, 1) := by decide +kernel
theorem dL_law_828 : decode cL_law 828 = .ok (.iconst 1, 1) := by decide +kernel
theorem dL_law_829 : decode cL_law 829 = .ok (.iadd, 1) := by decide +kernel
theorem dL_law_830 : decode cL_law 830 = .ok (.iaload, 1) := by decide +kernel
theorem dL_law_831 : decode cL_law 831 = .ok (.invokevirtual 117, 3) := by decide +kernel
theorem dL_law_834 : decode cL_law 834 = .ok (.aload_n 2, 1) := by decide +kernel
theorem dL_law_835 : decode cL_law 835 = .ok (.aload_n 0, 1) := by decide +kernel
theorem dL_law_836 : decode cL_law 836 = .ok (.iload_n 3, 1) := by decide +kernel
theorem dL_law_837 : decode cL_law 837 = .ok (.iconst 1, 1) := by decide +kernel
theorem dL_law_838 : decode cL_law 838 = .ok (.iadd, 1) := by decide +kernel
theorem dL_law_839 : decode cL_law 839 = .ok (.iaload, 1) := by decide +kernel
theorem dL_law_840 : decode cL_law 840 = .ok (.invokevirtual 120, 3) := by decide +kernel
theorem dL_law_843 : decode cL_law 843 = .ok (.if_icmp .eq 51, 3) := by decide +kernel
theorem dL_law_846 : decode cL_law 846 = .ok (.iconst 0, 1) := by decide +kernel
theorem dL_law_847 : decode cL_law 847 = .ok (.ireturn, 1) := by decide +kernel
theorem dL_law_848 : decode cL_law 848 = .ok (.aload_n 1, 1) := by decide +kernel
theorem dL_law_849 : decode cL_law 849 = .ok (.aload_n 0, 1) := by decide +kernel
theorem dL_law_850 : decode cL_law 850 = .ok (.iload_n 3, 1) := by decide +kernel
theorem dL_law_851 : decode cL_law 851 = .ok (.iconst 1, 1) := by decide +kernel
theorem dL_law_852 : decode cL_law 852 = .ok (.iadd, 1) := by decide +kernel
theorem dL_law_853 : decode cL_law 853 = .ok (.iaload, 1) := by decide +kernel
theorem dL_law_854 : decode cL_law 854 = .ok (.invokevirtual 121, 3) := by decide +kernel
theorem dL_law_857 : decode cL_law 857 = .ok (.aload_n 2, 1) := by decide +kernel
theorem dL_law_858 : decode cL_law 858 = .ok (.aload_n 0, 1) := by decide +kernel
theorem dL_law_859 : decode cL_law 859 = .ok (.iload_n 3, 1) := by decide +kernel
theorem dL_law_860 : decode cL_law 860 = .ok (.iconst 1, 1) := by decide +kernel
theorem dL_law_861 : decode cL_law 861 = .ok (.iadd, 1) := by decide +kernel
theorem dL_law_862 : decode cL_law 862 = .ok (.iaload, 1) := by decide +kernel
theorem dL_law_863 : decode cL_law 863 = .ok (.invokevirtual 124, 3) := by decide +kernel
theorem dL_law_866 : decode cL_law 866 = .ok (.if_icmp .eq 28, 3) := by decide +kernel
theorem dL_law_869 : decode cL_law 869 = .ok (.iconst 0, 1) := by decide +kernel
theorem dL_law_870 : decode cL_law 870 = .ok (.ireturn, 1) := by decide +kernel
theorem dL_law_871 : decode cL_law 871 = .ok (.aload_n 1, 1) := by decide +kernel
theorem dL_law_872 : decode cL_law 872 = .ok (.aload_n 0, 1) := by decide +kernel
theorem dL_law_873 : decode cL_law 873 = .ok (.iload_n 3, 1) := by decide +kernel
theorem dL_law_874 : decode cL_law 874 = .ok (.iconst 1, 1) := by decide +kernel
theorem dL_law_875 : decode cL_law 875 = .ok (.iadd, 1) := by decide +kernel
theorem dL_law_876 : decode cL_law 876 = .ok (.iaload, 1) := by decide +kernel
theorem dL_law_877 : decode cL_law 877 = .ok (.invokevirtual 125, 3) := by decide +kernel
theorem dL_law_880 : decode cL_law 880 = .ok (.aload_n 2, 1) := by decide +kernel
theorem dL_law_881 : decode cL_law 881 = .ok (.aload_n 0, 1) := by decide +kernel
theorem dL_law_882 : decode cL_law 882 = .ok (.iload_n 3, 1) := by decide +kernel
theorem dL_law_883 : decode cL_law 883 = .ok (.iconst 1, 1) := by decide +kernel
theorem dL_law_884 : decode cL_law 884 = .ok (.iadd, 1) := by decide +kernel
theorem dL_law_885 : decode cL_law 885 = .ok (.iaload, 1) := by decide +kernel
theorem dL_law_886 : decode cL_law 886 = .ok (.invokevirtual 128, 3) := by decide +kernel
theorem dL_law_889 : decode cL_law 889 = .ok (.if_icmp .eq 5, 3) := by decide +kernel
theorem dL_law_892 : decode cL_law 892 = .ok (.iconst 0, 1) := by decide +kernel
theorem dL_law_893 : decode cL_law 893 = .ok (.ireturn, 1) := by decide +kernel
theorem dL_law_894 : decode cL_law 894 = .ok (.iinc 3 4, 3) := by decide +kernel
theorem dL_law_897 : decode cL_law 897 = .ok (.goto (-879), 3) := by decide +kernel
theorem dL_law_900 : decode cL_law 900 = .ok (.iconst 1, 1) := by decide +kernel
theorem dL_law_901 : decode cL_law 901 = .ok (.ireturn, 1) := by decide +kernel
end
section
/-! a layer of our own: checked functions, worlds, contracts, calls -/
abbrev ar : Type := Nat → Int32
def inb (i : Int32) (n : Nat) : Bool := decide (¬ (i < 0 ∨ n ≤ i.toNatClampNeg))
def nz (y : Int32) : Bool := decide (¬ y = 0)
def ck {α : Type} (b : Bool) (x : Option α) : Option α := match b with
  | true => x
  | false => none
def b2i (b : Bool) : Int32 := match b with
  | true => 1
  | false => 0
def sat {α : Type} (x : Option α) (C : α → Prop) : Prop := ∃ a, x = some a ∧ C a
def lb {ρ σ : Type} (x : Option (ρ ⊕ σ)) (k : σ → Option ρ) : Option ρ := match x with
  | none => none
  | some (.inl r) => some r
  | some (.inr s) => k s
theorem sat_in {α : Type} {i : Int32} {n : Nat} {x : Option α} {C : α → Prop} (h : sat (ck (inb i n) x) C) : vp_in i n ∧ sat x C := by
  by_cases hb : vp_in i n
  · refine ⟨hb, ?_⟩
    have e : inb i n = true := decide_eq_true hb
    rw [e] at h
    exact h
  · have e : inb i n = false := decide_eq_false hb
    rw [e] at h
    obtain ⟨a, h1, -⟩ := h
    cases h1
theorem sat_nz {α : Type} {y : Int32} {x : Option α} {C : α → Prop} (h : sat (ck (nz y) x) C) : (¬ y = 0) ∧ sat x C := by
  by_cases hb : ¬ y = 0
  · refine ⟨hb, ?_⟩
    have e : nz y = true := decide_eq_true hb
    rw [e] at h
    exact h
  · have e : nz y = false := decide_eq_false hb
    rw [e] at h
    obtain ⟨a, h1, -⟩ := h
    cases h1
theorem sat_bind {α β : Type} {x : Option α} {g : α → Option β} {C : β → Prop} (h : sat (x.bind g) C) : ∃ r, x = some r ∧ sat (g r) C := by
  obtain ⟨a, h1, h2⟩ := h
  cases x with
  | none => cases h1
  | some r => exact ⟨r, rfl, a, h1, h2⟩
theorem sat_t {α : Type} {c : Prop} [Decidable c] {A B : Option α} {C : α → Prop} (hc : c) (h : sat (if c then A else B) C) : sat A C := by
  rw [if_pos hc] at h
  exact h
theorem sat_f {α : Type} {c : Prop} [Decidable c] {A B : Option α} {C : α → Prop} (hc : ¬ c) (h : sat (if c then A else B) C) : sat B C := by
  rw [if_neg hc] at h
  exact h
theorem sat_some {α : Type} {a : α} {C : α → Prop} (h : sat (some a) C) : C a := by
  obtain ⟨b, h1, h2⟩ := h
  cases h1
  exact h2
theorem sat_none {α : Type} {C : α → Prop} (h : sat (none : Option α) C) : False := by
  obtain ⟨b, h1, h2⟩ := h
  cases h1
theorem sat_lb {ρ σ : Type} {x : Option (ρ ⊕ σ)} {k : σ → Option ρ} {C : ρ → Prop} (h : sat (lb x k) C) : sat x (fun a => Sum.elim C (fun s => sat (k s) C) a) := by
  obtain ⟨a, h1, h2⟩ := h
  cases x with
  | none => cases h1
  | some r =>
    cases r with
    | inl r =>
      cases h1
      exact ⟨.inl _, rfl, h2⟩
    | inr r => exact ⟨.inr r, rfl, a, h1, h2⟩
theorem sat_reg {α β : Type} {x : Option α} {g : α → Option β} {C : β → Prop} (h : sat (x.bind g) C) : ∃ T : α → Prop, (∀ j, T j → sat (g j) C) ∧ sat x T := by
  obtain ⟨r, h1, h2⟩ := sat_bind h
  exact ⟨fun j => sat (g j) C, fun _ h => h, r, h1, h2⟩
theorem sat_lbr {ρ σ : Type} {x : Option (ρ ⊕ σ)} {k : σ → Option ρ} {C : ρ → Prop} (h : sat (lb x k) C) : ∃ T : ρ ⊕ σ → Prop, (∀ r, T (.inl r) → C r) ∧ (∀ s, T (.inr s) → sat (k s) C) ∧ sat x T := ⟨fun a => Sum.elim C (fun s => sat (k s) C) a, fun _ h => h, fun _ h => h, sat_lb h⟩
theorem sat_top {α : Type} {x : Option α} {r : α} (h : x = some r) : ∃ C : α → Prop, (∀ a, C a → a = r) ∧ sat x C := ⟨fun a => a = r, fun _ h => h, r, h, rfl⟩
theorem ne_ti {x k : Int32} {z : Int} (h : ¬ x = k) (hz : k.toInt = z) : ¬ x.toInt = z := fun e => h (Int32.toInt_inj.mp (by rw [hz]; exact e))
theorem sat_of {α : Type} {x : Option α} {r : α} (h : x = some r) : sat x (fun a => a = r) := ⟨r, h, rfl⟩
theorem nar_b (b : Bool) : narrow .boolean (.int (b2i b)) = .int (b2i b) := by cases b <;> decide
theorem b2i_0 {b : Bool} : b2i b = 0 ↔ b = false := by cases b <;> decide
/-! constant facts of a state: the tables' words, class numbers, array classes, what a nest's mates may call -/
def tb (U : State) : Prop := ∀ w ∈ lw_tbl, goodWord w = true → ∀ a : Array Value, w.before a U = true
theorem tb.moved {s U : State} (hW : s.WarmedH U.vm) (h : tb s) : tb U := fun w hw hg _ => word_at (args := #[]) hW (good_of_word hg) (h w hw hg #[])
def nst : List (String × Nat × MethodName) := [(RX11, 11, yX10_init), (RX11, 34, yX1_init), (RX11, 73, yX2_init), (RX11, 80, yX8_init), (RX0, 21, yX1_init), (RX1, 11, yX3_init), (RX1, 64, yX11_pairCell), (RX1, 68, yX11_guessCell), (RX2, 19, yX11_pairCell), (RX3, 31, yX11_pairCell), (RX4, 17, yX1_init), (RX5, 19, yX11_guessCell), (RX5, 48, yX11_pairCell), (RX6, 20, yX3_init)]
abbrev tys0 (cI cZ cK : ClassId) : List (ClassId × FieldType) := [(cI, .int), (cZ, .boolean), (cK, .object RX1)]
def kq (D : va_G) (cI cZ cK : ClassId) (U : State) : Prop := va_K D vwCl (tys0 cI cZ cK) U ∧ tb U ∧ (∀ q ∈ nst, va_Nw (.methodLinkNest q.1 q.2.1 q.2.2 RX11) U) ∧ va_AO RX1 U
theorem kq.moved {D : va_G} {cI cZ cK : ClassId} {s U : State} (hW : s.WarmedH U.vm) (h : kq D cI cZ cK s) : kq D cI cZ cK U := ⟨va_K.moved hW.alike h.1, h.2.1.moved hW, fun q hq => va_Nw.warmM hW (h.2.2.1 q hq), va_AO.moved hW.alike h.2.2.2⟩
theorem kq.calls {D : va_G} {cI cZ cK : ClassId} {U : State} {g : JFrame} {mk : MethodId} {a : Array Value} (h : kq D cI cZ cK U) : kq D cI cZ cK (U.calling g mk a) := kq.moved (s := U) (U := U.calling g mk a) (State.WarmedH.refl U) h
/-! contracts -/
abbrev w1 (y : MethodName) (cc : ByteArray) (maxL : Nat) (ret : Option FieldType) : List Cond := [Cond.code y cc maxL ret]
def rdP (D : va_G) (cI cZ cK : ClassId) (av : List Value) (ws : va_W) : Array Value → State → Prop := va_Pc av (fun U => va_P D vwCl ws U.heap ∧ kq D cI cZ cK U)
def Rd (l : Launch) (D : va_G) (cI cZ cK : ClassId) (y : MethodName) (cc : ByteArray) (maxL : Nat) (ret : Option FieldType) (rm : Room) (av : List Value) (ws : va_W) (r : Int32) : Prop := Met l y (w1 y cc maxL ret) rm (rdP D cI cZ cK av ws) (vp_Si (fun x => x = r)) 0 0 (fun _ => False)
def muP (D : va_G) (cI cZ cK : ClassId) (av : List Value) (ws : va_W) (sz : Nat) : Array Value → State → Prop := va_Pc av (fun U => U.heap.size = sz ∧ va_P D vwCl ws U.heap ∧ kq D cI cZ cK U ∧ va_D (fun _ => True) ws)
def muQ (D : va_G) (ws ws' : va_W) (sz : Nat) (o : Option Value) : Array Value → State → Outcome → State → Prop := fun _ st oc t => oc = .returned o ∧ va_P D vwCl ws' t.heap ∧ va_D (va_A ws sz) ws' ∧ va_F (va_A ws sz) st t
def Mu (l : Launch) (D : va_G) (cI cZ cK : ClassId) (y : MethodName) (cc : ByteArray) (maxL : Nat) (ret : Option FieldType) (rm : Room) (av : List Value) (ws : va_W) (o : Option Value) (ws' : va_W) : Prop := ∀ sz : Nat, Met l y (w1 y cc maxL ret) rm (muP D cI cZ cK av ws sz) (muQ D ws ws' sz o) 0 0 (va_A ws sz)
def wd (D : va_G) (A : Nat → Prop) (H0 H : Heap) (locs : List Loc) (ws : va_W) : Prop := va_P D vwCl ws H ∧ va_D A ws ∧ va_S A H0 H locs
theorem rdP.blind {D : va_G} {cI cZ cK : ClassId} {av : List Value} {ws : va_W} : FrameBlind (rdP D cI cZ cK av ws) := fun _ _ _ _ q => ⟨q.1, q.2.1, q.2.2.calls⟩
theorem muP.blind {D : va_G} {cI cZ cK : ClassId} {av : List Value} {ws : va_W} {sz : Nat} : FrameBlind (muP D cI cZ cK av ws sz) := fun _ _ _ _ q => ⟨q.1, q.2.1, q.2.2.1, q.2.2.2.1.calls, q.2.2.2.2⟩
theorem rd_of {l : Launch} {D : va_G} {cI cZ cK : ClassId} {y : MethodName} {rm : Room} {cc : ByteArray} {maxL : Nat} {ty : FieldType} {av : List Value} {ws : va_W} {r : Int32} (hy : plainName y.cls = true) (hn : narrow ty (.int r) = .int r) (hlen : (lg_sl av).length ≤ maxL)
    (body : ∀ (p : Program) (e : Env) (s : State) (m : MethodId) (args : Array Value) (below : List Frame) (meth : Method) (c : Code) (Q : State → Prop) (ls : Array Slot), p.tables.exec = Jvm.exec → c.code = cc → c.maxLocals = maxL → s.vm.findClass y.cls = some m.cls → kq D cI cZ cK s → va_P D vwCl ws s.heap → (∀ (pc : Nat) (ls : Array Slot), decode cc pc = .ok (.ireturn, 1) → W p l e rm s m args below meth c s.heap [] 0 0 Q (F0 m pc ls [.int r])) → lv_has ls maxL (lv_args 0 av) → W p l e rm s m args below meth c s.heap [] 0 0 Q (F0 m 0 ls [])) : Rd l D cI cZ cK y cc maxL (some ty) rm av ws r := by
  refine Met.ofW (cc := cc) (maxL := maxL) (ret := (some ty)) hy rfl ?_
  intro p e s m args below meth c s₁ B hml hv
  obtain ⟨rfl, hP, hk⟩ := hv
  have hl := lv_entry av (n := maxL) hlen
  rw [lg_entry_eq]
  generalize (lg_sl av ++ List.replicate (maxL - (lg_sl av).length) Slot.unset).toArray = ls at hl ⊢
  refine body p e s m _ below meth c _ ls B.exec B.bytes hml (findClass_of_methodNamed B.named) hk hP ?_ hl
  intro pc ls hd
  exact W.zret B.exec B.bytes B.returns hn (fun t ht _ => ⟨r, rfl, rfl, ht⟩) (fun q h => by cases h) hd B.notSynchronized
theorem mi_of {l : Launch} {D : va_G} {cI cZ cK : ClassId} {y : MethodName} {rm : Room} {cc : ByteArray} {maxL : Nat} {ty : FieldType} {av : List Value} {ws ws' : va_W} {r : Int32} (hy : plainName y.cls = true) (hn : narrow ty (.int r) = .int r) (hlen : (lg_sl av).length ≤ maxL)
    (body : ∀ (p : Program) (e : Env) (s : State) (m : MethodId) (args : Array Value) (below : List Frame) (meth : Method) (c : Code) (Q : State → Prop) (A : Nat → Prop) (ls : Array Slot), p.tables.exec = Jvm.exec → c.code = cc → c.maxLocals = maxL → s.vm.findClass y.cls = some m.cls → kq D cI cZ cK s → (∀ q : Nat, s.heap.size ≤ q → A q) → wd D A s.heap s.heap [] ws → (∀ (pc : Nat) (ls : Array Slot) (H : Heap) (locs : List Loc), wd D A s.heap H locs ws' → decode cc pc = .ok (.ireturn, 1) → W p l e rm s m args below meth c H locs 0 0 Q (F0 m pc ls [.int r])) → lv_has ls maxL (lv_args 0 av) → W p l e rm s m args below meth c s.heap [] 0 0 Q (F0 m 0 ls [])) : Mu l D cI cZ cK y cc maxL (some ty) rm av ws (some (.int r)) ws' := by
  intro sz
  refine Met.ofW (cc := cc) (maxL := maxL) (ret := (some ty)) hy rfl ?_
  intro p e s m args below meth c s₁ B hml hv
  obtain ⟨rfl, hsz, hP, hk, hD0⟩ := hv
  subst hsz
  have hl := lv_entry av (n := maxL) hlen
  rw [lg_entry_eq]
  generalize (lg_sl av ++ List.replicate (maxL - (lg_sl av).length) Slot.unset).toArray = ls at hl ⊢
  refine body p e s m _ below meth c _ (va_A ws s.heap.size) ls B.exec B.bytes hml (findClass_of_methodNamed B.named) hk (fun q h => Or.inr h) ⟨hP, hD0.self, va_S.rf⟩ ?_ hl
  intro pc ls H locs hw' hd
  exact W.zret B.exec B.bytes B.returns hn (fun t ht _ => ⟨rfl, by rw [ht]; exact hw'.1, hw'.2.1, hw'.2.2.F ht⟩) hw'.2.2.2.2 hd B.notSynchronized
theorem mv_of {l : Launch} {D : va_G} {cI cZ cK : ClassId} {y : MethodName} {rm : Room} {cc : ByteArray} {maxL : Nat} {av : List Value} {ws ws' : va_W} (hy : plainName y.cls = true) (hlen : (lg_sl av).length ≤ maxL)
    (body : ∀ (p : Program) (e : Env) (s : State) (m : MethodId) (args : Array Value) (below : List Frame) (meth : Method) (c : Code) (Q : State → Prop) (A : Nat → Prop) (ls : Array Slot), p.tables.exec = Jvm.exec → c.code = cc → c.maxLocals = maxL → s.vm.findClass y.cls = some m.cls → kq D cI cZ cK s → (∀ q : Nat, s.heap.size ≤ q → A q) → wd D A s.heap s.heap [] ws → (∀ (pc : Nat) (ls : Array Slot) (H : Heap) (locs : List Loc), wd D A s.heap H locs ws' → decode cc pc = .ok (.return_, 1) → W p l e rm s m args below meth c H locs 0 0 Q (F0 m pc ls [])) → lv_has ls maxL (lv_args 0 av) → W p l e rm s m args below meth c s.heap [] 0 0 Q (F0 m 0 ls [])) : Mu l D cI cZ cK y cc maxL none rm av ws none ws' := by
  intro sz
  refine Met.ofW (cc := cc) (maxL := maxL) (ret := none) hy rfl ?_
  intro p e s m args below meth c s₁ B hml hv
  obtain ⟨rfl, hsz, hP, hk, hD0⟩ := hv
  subst hsz
  have hl := lv_entry av (n := maxL) hlen
  rw [lg_entry_eq]
  generalize (lg_sl av ++ List.replicate (maxL - (lg_sl av).length) Slot.unset).toArray = ls at hl ⊢
  refine body p e s m _ below meth c _ (va_A ws s.heap.size) ls B.exec B.bytes hml (findClass_of_methodNamed B.named) hk (fun q h => Or.inr h) ⟨hP, hD0.self, va_S.rf⟩ ?_ hl
  intro pc ls H locs hw' hd
  exact W.vret B.exec B.bytes B.returns (fun t ht _ => ⟨rfl, by rw [ht]; exact hw'.1, hw'.2.1, hw'.2.2.F ht⟩) hw'.2.2.2.2 hd B.notSynchronized
/-! worlds up to order -/
theorem vP_mem {D : va_G} {ws : va_W} {H : Heap} : va_P D vwCl ws H ↔ ∀ q ∈ ws, va_at D vwCl q H := by
  constructor
  · intro h q hq
    obtain ⟨k, hk⟩ := List.mem_iff_getElem?.mp hq
    exact h k q hk
  · intro h k q hk
    exact h q (List.mem_of_getElem? hk)
theorem vD_iff {A : Nat → Prop} {ws : va_W} : va_D A ws ↔ ws.Pairwise (fun p q => p.1 ≠ q.1) ∧ ∀ q ∈ ws, A q.1 := by
  constructor
  · intro h
    refine ⟨?_, fun q hq => ?_⟩
    · rw [List.pairwise_iff_getElem]
      intro i j hi hj hij e
      exact absurd (h.1 i j _ _ (List.getElem?_eq_getElem hi) (List.getElem?_eq_getElem hj) e) (by omega)
    · obtain ⟨k, hk⟩ := List.mem_iff_getElem?.mp hq
      exact h.2 k q hk
  · intro h
    refine ⟨fun i j p q hp hq e => ?_, fun k q hk => h.2 q (List.mem_of_getElem? hk)⟩
    obtain ⟨hi, rfl⟩ := List.getElem?_eq_some_iff.mp hp
    obtain ⟨hj, rfl⟩ := List.getElem?_eq_some_iff.mp hq
    have hw := List.pairwise_iff_getElem.mp h.1
    rcases Nat.lt_trichotomy i j with hij | hij | hij
    · exact absurd e (hw i j hi hj hij)
    · exact hij
    · exact absurd e.symm (hw j i hj hi hij)
theorem vP_perm {D : va_G} {ws ws' : va_W} {H : Heap} (p : ws.Perm ws') (h : va_P D vwCl ws H) : va_P D vwCl ws' H := vP_mem.mpr (fun q hq => vP_mem.mp h q (p.mem_iff.mpr hq))
theorem vD_perm {A : Nat → Prop} {ws ws' : va_W} (p : ws.Perm ws') (h : va_D A ws) : va_D A ws' := by
  obtain ⟨h1, h2⟩ := vD_iff.mp h
  exact vD_iff.mpr ⟨(p.pairwise_iff (fun h => Ne.symm h)).mp h1, fun q hq => h2 q (p.mem_iff.mpr hq)⟩
theorem wd.perm {D : va_G} {A : Nat → Prop} {H0 H : Heap} {locs : List Loc} {ws ws' : va_W} (p : ws.Perm ws') (h : wd D A H0 H locs ws) : wd D A H0 H locs ws' := ⟨vP_perm p h.1, vD_perm p h.2.1, h.2.2⟩
/-- two lists are one another's reorderings, by places -/
theorem pm {X Y : va_W} (is : List Nat) (h : is.map (fun i => X[i]?) = Y.map some) (hp : (List.range X.length).Perm is) : X.Perm Y := by
  have e : X.map some = (List.range X.length).map (fun i => X[i]?) := by
    apply List.ext_getElem?
    intro k
    by_cases hk : k < X.length
    · simp [hk]
    · simp [hk]
  have h1 : (X.map some).Perm (Y.map some) := by
    rw [e, ← h]
    exact hp.map _
  have h2 := h1.filterMap id
  simpa using h2
/-- a call's frame: callee's cells apart, what came back beside the rest -/
theorem wd.join {D : va_G} {A : Nat → Prop} {H0 H H1 : Heap} {locs locs1 : List Loc} {ws wc wr w1 : va_W} (w : wd D A H0 H locs ws) (hp : ws.Perm (wc ++ wr)) (hk : ∀ q : Nat, q < H.size → ¬ va_A wc H.size q → H1[q]? = H[q]?) (hP1 : va_P D vwCl w1 H1) (hD1 : va_D (va_A wc H.size) w1) (hS : va_S A H0 H1 locs1) (hA : ∀ q, H0.size ≤ q → A q) : wd D A H0 H1 locs1 (w1 ++ wr) := by
  have w2 := w.perm hp
  obtain ⟨d1, d2⟩ := vD_iff.mp w2.2.1
  obtain ⟨d3, d4, d5⟩ := List.pairwise_append.mp d1
  have hin : ∀ q, va_A wc H.size q → A q := by
    intro q hq
    rcases hq with ⟨k, e, hq⟩ | hq
    · exact d2 (q, e) (List.mem_append_left _ (List.mem_of_getElem? hq))
    · exact hA q (Nat.le_trans w.2.2.1 hq)
  have apart : ∀ q ∈ wr, q.1 < H.size ∧ ¬ va_A wc H.size q.1 := by
    intro q hq
    have hl := (vP_mem.mp w2.1 q (List.mem_append_right _ hq)).lt
    refine ⟨hl, fun h => ?_⟩
    rcases h with ⟨k, e, h⟩ | h
    · exact d5 (q.1, e) (List.mem_of_getElem? h) q hq rfl
    · omega
  obtain ⟨g1, g2⟩ := vD_iff.mp hD1
  refine ⟨vP_mem.mpr (fun q hq => ?_), vD_iff.mpr ⟨List.pairwise_append.mpr ⟨g1, d4, fun x hx y hy e => ?_⟩, fun q hq => ?_⟩, hS⟩
  · rcases List.mem_append.mp hq with h | h
    · exact vP_mem.mp hP1 q h
    · exact (vP_mem.mp w2.1 q (List.mem_append_right _ h)).kept (hk q.1 (apart q h).1 (apart q h).2)
  · exact (apart y hy).2 (by rw [← e]; exact g2 x hx)
  · rcases List.mem_append.mp hq with h | h
    · exact hin q.1 (g2 q h)
    · exact d2 q (List.mem_append_right _ h)
end
section
def meV (y : MethodName) (cc : ByteArray) (maxL : Nat) (ret : Option FieldType) (n : Nat) (U : State) : Prop := (∀ a : Array Value, (Cond.code y cc maxL ret).before a U = true) ∧ (∀ a : Array Value, (Cond.initialized y.cls).before a U = true) ∧ (y.cls ≠ "java/lang/invoke/MethodHandle" ∧ y.cls ≠ "java/lang/invoke/VarHandle" ∧ (parseMethodDescriptor y.desc).map (fun d => d.parameters.length) = some n)
def miV (y : MethodName) (U : State) : Prop := (∀ a : Array Value, (Cond.instanceMethod y).before a U = true) ∧ (∀ a : Array Value, (Cond.selects y.cls y y).before a U = true)
def mlV (own : String) (idx : Nat) (y : MethodName) (U : State) : Prop := ∀ a : Array Value, (Cond.methodLink own idx y).before a U = true
def mlN (own : String) (idx : Nat) (y : MethodName) (U : State) : Prop := va_Nw (.methodLinkNest own idx y RX11) U
def msV (y : MethodName) (U : State) : Prop := ∀ a : Array Value, (Cond.static y).before a U = true
theorem cB_of {R : Room} {s : State} {args : Array Value} {own : String} {idx maxL n mc ms : Nat} {y : MethodName} {cc : ByteArray} {ret : Option FieldType} {rm : Room} (me : meV y cc maxL ret n s) (hl : mlV own idx y s) (hrc : rm.cells = mc) (hrs : rm.slots = ms) (hR : rm.frames + 1 ≤ R.frames ∧ 8 + (maxL + 11) + rm.locals ≤ R.locals) : CallB R s args own idx y cc maxL ret (w1 y cc maxL ret) rm mc ms n :=
  callB_of (Ts := w1 y cc maxL ret) n (fun w h => by rw [List.mem_singleton.mp h]; exact me.1 args) (fun w h => ⟨h, by rw [List.mem_singleton.mp h]; exact Or.inl rfl⟩) rfl hrc hrs (me.2.1 args) (hl args) me.2.2 hR
theorem cN_of {R : Room} {s : State} {args : Array Value} {own : String} {idx maxL n mc ms : Nat} {y : MethodName} {cc : ByteArray} {ret : Option FieldType} {rm : Room} (me : meV y cc maxL ret n s) (hl : mlN own idx y s) (hrc : rm.cells = mc) (hrs : rm.slots = ms) (hR : rm.frames + 1 ≤ R.frames ∧ 8 + (maxL + 11) + rm.locals ≤ R.locals) : va_CN R s args own idx y RX11 cc maxL ret (w1 y cc maxL ret) rm mc ms n :=
  va_cnB (Ts := w1 y cc maxL ret) n (fun w h => by rw [List.mem_singleton.mp h]; exact me.1 args) (fun w h => ⟨h, by rw [List.mem_singleton.mp h]; exact Or.inl rfl⟩) rfl hrc hrs hl (me.2.1 args) me.2.2 hR
theorem cRV {p : Program} {l : Launch} {e : Env} {R : Room} {s : State} {m : MethodId} {args : Array Value} {below : List Frame} {meth : Method} {c : Code} {H : Heap} {locs : List Loc} {cells slots : Nat} {Q : State → Prop} {D : va_G} {cI cZ cK : ClassId} {y : MethodName} {bytes cc : ByteArray} {maxL nL n idx pc : Nat} {ret : Option FieldType} {rm : Room} {own : String} {ls : Array Slot} {rest st0 As : List Value} {wc : va_W} {b : Nat} {ci : Nat} {fs : List Value} {q : vw_C} {r : Int32} (hx : p.tables.exec = Jvm.exec) (hb : c.code = cc) (hml : c.maxLocals = nL) (hown : s.vm.findClass own = some m.cls) (hk : kq D cI cZ cK s) (hM : Rd l D cI cZ cK y bytes maxL ret rm (.ref b :: As) wc r) (me : meV y bytes maxL ret n s) (mi : miV y s) (hlk : mlV own idx y s) (hPc : va_P D vwCl wc H) (q0 : Nat) (he : wc[q0]? = some (b, .inr (ci, fs))) (hc : vwCl[ci]? = some q) (hq : q.1 = y.cls) (hsz : ls.size = nL) (hn : As.length = n) (hst : st0 = As.reverse ++ .ref b :: rest) (hrm : (rest.map fun v => v.category).sum ≤ 8) (hz : rm.cells = 0 ∧ rm.slots = 0 ∧ rm.frames + 1 ≤ R.frames ∧ 8 + (maxL + 11) + rm.locals ≤ R.locals ∧ cells ≤ R.cells ∧ slots ≤ R.slots) (hdg : decode cc pc = .ok (.invokevirtual idx, 3))
    (kk : W p l e R s m args below meth c H locs cells slots Q (F0 m (pc + 3) ls (.int r :: rest))) : W p l e R s m args below meth c H locs cells slots Q (F0 m pc ls st0) :=
  vp_callSi (W.runV (Ts := []) ⟨hx, hb, hml, hown, fun w h => by cases h⟩ hM ⟨cB_of me hlk hz.1 hz.2.1 ⟨hz.2.2.1, hz.2.2.2.1⟩, mi.1 args, mi.2 args⟩ ⟨rdP.blind, by rw [← hq]; exact va_recv hk.1 hPc hc he, fun U hU hW => ⟨rfl, by rw [hU]; exact hPc, hk.moved hW⟩⟩ rfl hn hsz hst (lv_room hrm) hdg ⟨hz.2.2.2.2.1, hz.2.2.2.2.2⟩) (fun r1 e1 => by subst e1; exact kk)
theorem cRS {p : Program} {l : Launch} {e : Env} {R : Room} {s : State} {m : MethodId} {args : Array Value} {below : List Frame} {meth : Method} {c : Code} {H : Heap} {locs : List Loc} {cells slots : Nat} {Q : State → Prop} {D : va_G} {cI cZ cK : ClassId} {y : MethodName} {bytes cc : ByteArray} {maxL nL n idx pc : Nat} {ret : Option FieldType} {rm : Room} {own : String} {ls : Array Slot} {rest st0 As : List Value} {wc : va_W} {r : Int32} (hx : p.tables.exec = Jvm.exec) (hb : c.code = cc) (hml : c.maxLocals = nL) (hown : s.vm.findClass own = some m.cls) (hk : kq D cI cZ cK s) (hM : Rd l D cI cZ cK y bytes maxL ret rm As wc r) (me : meV y bytes maxL ret n s) (mi : msV y s) (hlk : mlV own idx y s) (hPc : va_P D vwCl wc H) (hsz : ls.size = nL) (hn : As.length = n) (hst : st0 = As.reverse ++ rest) (hrm : (rest.map fun v => v.category).sum ≤ 8) (hz : rm.cells = 0 ∧ rm.slots = 0 ∧ rm.frames + 1 ≤ R.frames ∧ 8 + (maxL + 11) + rm.locals ≤ R.locals ∧ cells ≤ R.cells ∧ slots ≤ R.slots) (hdg : decode cc pc = .ok (.invokestatic idx, 3))
    (kk : W p l e R s m args below meth c H locs cells slots Q (F0 m (pc + 3) ls (.int r :: rest))) : W p l e R s m args below meth c H locs cells slots Q (F0 m pc ls st0) :=
  vp_callSi (W.runS (Ts := []) ⟨hx, hb, hml, hown, fun w h => by cases h⟩ hM ⟨cB_of me hlk hz.1 hz.2.1 ⟨hz.2.2.1, hz.2.2.2.1⟩, mi args⟩ ⟨rdP.blind, fun U hU hW => ⟨rfl, by rw [hU]; exact hPc, hk.moved hW⟩⟩ rfl hn hsz hst (lv_room hrm) hdg ⟨hz.2.2.2.2.1, hz.2.2.2.2.2⟩) (fun r1 e1 => by subst e1; exact kk)
theorem cRN {p : Program} {l : Launch} {e : Env} {R : Room} {s : State} {m : MethodId} {args : Array Value} {below : List Frame} {meth : Method} {c : Code} {H : Heap} {locs : List Loc} {cells slots : Nat} {Q : State → Prop} {D : va_G} {cI cZ cK : ClassId} {y : MethodName} {bytes cc : ByteArray} {maxL nL n idx pc : Nat} {ret : Option FieldType} {rm : Room} {own : String} {ls : Array Slot} {rest st0 As : List Value} {wc : va_W} {r : Int32} (hx : p.tables.exec = Jvm.exec) (hb : c.code = cc) (hml : c.maxLocals = nL) (hown : s.vm.findClass own = some m.cls) (hk : kq D cI cZ cK s) (hM : Rd l D cI cZ cK y bytes maxL ret rm As wc r) (me : meV y bytes maxL ret n s) (mi : msV y s) (hlk : mlN own idx y s) (hPc : va_P D vwCl wc H) (hsz : ls.size = nL) (hn : As.length = n) (hst : st0 = As.reverse ++ rest) (hrm : (rest.map fun v => v.category).sum ≤ 8) (hz : rm.cells = 0 ∧ rm.slots = 0 ∧ rm.frames + 1 ≤ R.frames ∧ 8 + (maxL + 11) + rm.locals ≤ R.locals ∧ cells ≤ R.cells ∧ slots ≤ R.slots) (hdg : decode cc pc = .ok (.invokestatic idx, 3))
    (kk : W p l e R s m args below meth c H locs cells slots Q (F0 m (pc + 3) ls (.int r :: rest))) : W p l e R s m args below meth c H locs cells slots Q (F0 m pc ls st0) :=
  vp_callSi (va_Run.run (va_runSN (Ts := []) ⟨hx, hb, hml, hown, fun w h => by cases h⟩ hM ⟨cN_of me hlk hz.1 hz.2.1 ⟨hz.2.2.1, hz.2.2.2.1⟩, mi args, trivial⟩ ⟨rdP.blind, fun U hU hW => ⟨rfl, by rw [hU]; exact hPc, hk.moved hW⟩⟩ rfl hn hsz hst (lv_room hrm) hdg ⟨hz.2.2.2.2.1, hz.2.2.2.2.2⟩)) (fun r1 e1 => by subst e1; exact kk)
theorem cMV {p : Program} {l : Launch} {e : Env} {R : Room} {s : State} {m : MethodId} {args : Array Value} {below : List Frame} {meth : Method} {c : Code} {H : Heap} {locs : List Loc} {cells slots : Nat} {Q : State → Prop} {D : va_G} {cI cZ cK : ClassId} {y : MethodName} {bytes cc : ByteArray} {maxL nL n idx pc : Nat} {ret : Option FieldType} {rm : Room} {own : String} {ls : Array Slot} {rest st0 As : List Value} {wc : va_W} {b : Nat} {ci : Nat} {fs : List Value} {q : vw_C} {A : Nat → Prop} {H0 : Heap} {ws wr w2 ws' : va_W} {o : Option Value} (hx : p.tables.exec = Jvm.exec) (hb : c.code = cc) (hml : c.maxLocals = nL) (hown : s.vm.findClass own = some m.cls) (hk : kq D cI cZ cK s) (w : wd D A H0 H locs ws) (hA : ∀ q : Nat, H0.size ≤ q → A q) (hM : Mu l D cI cZ cK y bytes maxL ret rm (.ref b :: As) wc o w2) (me : meV y bytes maxL ret n s) (mi : miV y s) (hlk : mlV own idx y s) (hp : ws.Perm (wc ++ wr)) (hp' : (w2 ++ wr).Perm ws') (q0 : Nat) (he : wc[q0]? = some (b, .inr (ci, fs))) (hc : vwCl[ci]? = some q) (hq : q.1 = y.cls) (hsz : ls.size = nL) (hn : As.length = n) (hst : st0 = As.reverse ++ .ref b :: rest) (hrm : (rest.map fun v => v.category).sum ≤ 8) (hz : rm.cells = 0 ∧ rm.slots = 0 ∧ rm.frames + 1 ≤ R.frames ∧ 8 + (maxL + 11) + rm.locals ≤ R.locals ∧ cells ≤ R.cells ∧ slots ≤ R.slots) (hdg : decode cc pc = .ok (.invokevirtual idx, 3))
    (kk : ∀ (H1 : Heap) (locs1 : List Loc), wd D A H0 H1 locs1 ws' → W p l e R s m args below meth c H1 locs1 cells slots Q (F0 m (pc + 3) ls (o.toList ++ rest))) : W p l e R s m args below meth c H locs cells slots Q (F0 m pc ls st0) := by
  have wq := w.perm hp
  obtain ⟨d1, d2⟩ := vD_iff.mp wq.2.1
  have hPc : va_P D vwCl wc H := vP_mem.mpr (fun q hq => vP_mem.mp wq.1 q (List.mem_append_left _ hq))
  have hDc : va_D (fun _ => True) wc := vD_iff.mpr ⟨(List.pairwise_append.mp d1).1, fun _ _ => trivial⟩
  have hin : ∀ q, va_A wc H.size q → A q := by
    intro q hq
    rcases hq with ⟨k, e, hq⟩ | hq
    · exact d2 (q, e) (List.mem_append_left _ (List.mem_of_getElem? hq))
    · exact hA q (Nat.le_trans w.2.2.1 hq)
  have hr : va_Run p l e R s m args below meth c H locs cells slots 0 0 (F0 m pc ls st0) rest (muQ D wc w2 H.size o (Value.ref b :: As).toArray) (va_A wc H.size) := va_runV (Ts := []) ⟨hx, hb, hml, hown, fun w h => by cases h⟩ (hM H.size) ⟨cB_of me hlk hz.1 hz.2.1 ⟨hz.2.2.1, hz.2.2.2.1⟩, mi.1 args, mi.2 args⟩ ⟨muP.blind, by rw [← hq]; exact va_recv hk.1 hPc hc he, fun U hU hW => ⟨rfl, by rw [hU], by rw [hU]; exact hPc, hk.moved hW, hDc⟩⟩ rfl hn hsz hst (lv_room hrm) hdg ⟨hz.2.2.2.2.1, hz.2.2.2.2.2⟩
  intro T hT X
  obtain ⟨v, st₀, t, T', L, h0, X', hL, e1, e2, ⟨hv, hP1, hD1, hz1, hk1⟩, st⟩ := hr T hT X
  cases hv
  rw [h0] at hz1 hk1
  have hS : va_S A H0 T'.heap (locs ++ L) := ⟨Nat.le_trans w.2.2.1 (by rw [e1]; exact hz1), fun q h1 h2 => by rw [e1, hk1 q (Nat.lt_of_lt_of_le h1 w.2.2.1) (fun z => h2 (hin q z))]; exact w.2.2.2.1 q h1 h2, fun q hq => by
      rcases List.mem_append.mp hq with h | h
      · exact w.2.2.2.2 q h
      · exact hin _ (hL q h)⟩
  obtain ⟨t2, a1, b1⟩ := kk T'.heap (locs ++ L) ((w.join hp (fun q h1 h2 => by rw [e1]; exact hk1 q h1 h2) (by rw [e1]; exact hP1) hD1 hS hA).perm hp') T' rfl X'
  exact ⟨t2, st t2 a1, b1⟩
theorem cMS {p : Program} {l : Launch} {e : Env} {R : Room} {s : State} {m : MethodId} {args : Array Value} {below : List Frame} {meth : Method} {c : Code} {H : Heap} {locs : List Loc} {cells slots : Nat} {Q : State → Prop} {D : va_G} {cI cZ cK : ClassId} {y : MethodName} {bytes cc : ByteArray} {maxL nL n idx pc : Nat} {ret : Option FieldType} {rm : Room} {own : String} {ls : Array Slot} {rest st0 As : List Value} {wc : va_W} {A : Nat → Prop} {H0 : Heap} {ws wr w2 ws' : va_W} {o : Option Value} (hx : p.tables.exec = Jvm.exec) (hb : c.code = cc) (hml : c.maxLocals = nL) (hown : s.vm.findClass own = some m.cls) (hk : kq D cI cZ cK s) (w : wd D A H0 H locs ws) (hA : ∀ q : Nat, H0.size ≤ q → A q) (hM : Mu l D cI cZ cK y bytes maxL ret rm As wc o w2) (me : meV y bytes maxL ret n s) (mi : msV y s) (hlk : mlV own idx y s) (hp : ws.Perm (wc ++ wr)) (hp' : (w2 ++ wr).Perm ws') (hsz : ls.size = nL) (hn : As.length = n) (hst : st0 = As.reverse ++ rest) (hrm : (rest.map fun v => v.category).sum ≤ 8) (hz : rm.cells = 0 ∧ rm.slots = 0 ∧ rm.frames + 1 ≤ R.frames ∧ 8 + (maxL + 11) + rm.locals ≤ R.locals ∧ cells ≤ R.cells ∧ slots ≤ R.slots) (hdg : decode cc pc = .ok (.invokestatic idx, 3))
    (kk : ∀ (H1 : Heap) (locs1 : List Loc), wd D A H0 H1 locs1 ws' → W p l e R s m args below meth c H1 locs1 cells slots Q (F0 m (pc + 3) ls (o.toList ++ rest))) : W p l e R s m args below meth c H locs cells slots Q (F0 m pc ls st0) := by
  have wq := w.perm hp
  obtain ⟨d1, d2⟩ := vD_iff.mp wq.2.1
  have hPc : va_P D vwCl wc H := vP_mem.mpr (fun q hq => vP_mem.mp wq.1 q (List.mem_append_left _ hq))
  have hDc : va_D (fun _ => True) wc := vD_iff.mpr ⟨(List.pairwise_append.mp d1).1, fun _ _ => trivial⟩
  have hin : ∀ q, va_A wc H.size q → A q := by
    intro q hq
    rcases hq with ⟨k, e, hq⟩ | hq
    · exact d2 (q, e) (List.mem_append_left _ (List.mem_of_getElem? hq))
    · exact hA q (Nat.le_trans w.2.2.1 hq)
  have hr : va_Run p l e R s m args below meth c H locs cells slots 0 0 (F0 m pc ls st0) rest (muQ D wc w2 H.size o As.toArray) (va_A wc H.size) := va_runS (Ts := []) ⟨hx, hb, hml, hown, fun w h => by cases h⟩ (hM H.size) ⟨cB_of me hlk hz.1 hz.2.1 ⟨hz.2.2.1, hz.2.2.2.1⟩, mi args⟩ ⟨muP.blind, fun U hU hW => ⟨rfl, by rw [hU], by rw [hU]; exact hPc, hk.moved hW, hDc⟩⟩ rfl hn hsz hst (lv_room hrm) hdg ⟨hz.2.2.2.2.1, hz.2.2.2.2.2⟩
  intro T hT X
  obtain ⟨v, st₀, t, T', L, h0, X', hL, e1, e2, ⟨hv, hP1, hD1, hz1, hk1⟩, st⟩ := hr T hT X
  cases hv
  rw [h0] at hz1 hk1
  have hS : va_S A H0 T'.heap (locs ++ L) := ⟨Nat.le_trans w.2.2.1 (by rw [e1]; exact hz1), fun q h1 h2 => by rw [e1, hk1 q (Nat.lt_of_lt_of_le h1 w.2.2.1) (fun z => h2 (hin q z))]; exact w.2.2.2.1 q h1 h2, fun q hq => by
      rcases List.mem_append.mp hq with h | h
      · exact w.2.2.2.2 q h
      · exact hin _ (hL q h)⟩
  obtain ⟨t2, a1, b1⟩ := kk T'.heap (locs ++ L) ((w.join hp (fun q h1 h2 => by rw [e1]; exact hk1 q h1 h2) (by rw [e1]; exact hP1) hD1 hS hA).perm hp') T' rfl X'
  exact ⟨t2, st t2 a1, b1⟩
end
section
theorem la_X0 : (u_ws RX0 TX0 2).all (fun w => decide (w ∈ lw_tbl) && goodWord w) = true := by decide +kernel
theorem lay_X0 {U : State} (h : tb U) (a : Array Value) : ∀ w ∈ u_ws RX0 TX0 2, w.before a U = true := by
  intro w hw
  have h1 := List.all_eq_true.mp la_X0 w hw
  simp only [Bool.and_eq_true, decide_eq_true_eq] at h1
  exact h w h1.1 h1.2 a
theorem la_X1 : (u_ws RX1 TX1 9).all (fun w => decide (w ∈ lw_tbl) && goodWord w) = true := by decide +kernel
theorem lay_X1 {U : State} (h : tb U) (a : Array Value) : ∀ w ∈ u_ws RX1 TX1 9, w.before a U = true := by
  intro w hw
  have h1 := List.all_eq_true.mp la_X1 w hw
  simp only [Bool.and_eq_true, decide_eq_true_eq] at h1
  exact h w h1.1 h1.2 a
theorem la_X2 : (u_ws RX2 TX2 2).all (fun w => decide (w ∈ lw_tbl) && goodWord w) = true := by decide +kernel
theorem lay_X2 {U : State} (h : tb U) (a : Array Value) : ∀ w ∈ u_ws RX2 TX2 2, w.before a U = true := by
  intro w hw
  have h1 := List.all_eq_true.mp la_X2 w hw
  simp only [Bool.and_eq_true, decide_eq_true_eq] at h1
  exact h w h1.1 h1.2 a
theorem la_X3 : (u_ws RX3 TX3 2).all (fun w => decide (w ∈ lw_tbl) && goodWord w) = true := by decide +kernel
theorem lay_X3 {U : State} (h : tb U) (a : Array Value) : ∀ w ∈ u_ws RX3 TX3 2, w.before a U = true := by
  intro w hw
  have h1 := List.all_eq_true.mp la_X3 w hw
  simp only [Bool.and_eq_true, decide_eq_true_eq] at h1
  exact h w h1.1 h1.2 a
theorem la_X4 : (u_ws RX4 TX4 3).all (fun w => decide (w ∈ lw_tbl) && goodWord w) = true := by decide +kernel
theorem lay_X4 {U : State} (h : tb U) (a : Array Value) : ∀ w ∈ u_ws RX4 TX4 3, w.before a U = true := by
  intro w hw
  have h1 := List.all_eq_true.mp la_X4 w hw
  simp only [Bool.and_eq_true, decide_eq_true_eq] at h1
  exact h w h1.1 h1.2 a
theorem la_X5 : (u_ws RX5 TX5 2).all (fun w => decide (w ∈ lw_tbl) && goodWord w) = true := by decide +kernel
theorem lay_X5 {U : State} (h : tb U) (a : Array Value) : ∀ w ∈ u_ws RX5 TX5 2, w.before a U = true := by
  intro w hw
  have h1 := List.all_eq_true.mp la_X5 w hw
  simp only [Bool.and_eq_true, decide_eq_true_eq] at h1
  exact h w h1.1 h1.2 a
theorem la_X6 : (u_ws RX6 TX6 8).all (fun w => decide (w ∈ lw_tbl) && goodWord w) = true := by decide +kernel
theorem lay_X6 {U : State} (h : tb U) (a : Array Value) : ∀ w ∈ u_ws RX6 TX6 8, w.before a U = true := by
  intro w hw
  have h1 := List.all_eq_true.mp la_X6 w hw
  simp only [Bool.and_eq_true, decide_eq_true_eq] at h1
  exact h w h1.1 h1.2 a
theorem la_X7 : (u_ws RX7 TX7 6).all (fun w => decide (w ∈ lw_tbl) && goodWord w) = true := by decide +kernel
theorem lay_X7 {U : State} (h : tb U) (a : Array Value) : ∀ w ∈ u_ws RX7 TX7 6, w.before a U = true := by
  intro w hw
  have h1 := List.all_eq_true.mp la_X7 w hw
  simp only [Bool.and_eq_true, decide_eq_true_eq] at h1
  exact h w h1.1 h1.2 a
theorem la_X8 : (u_ws RX8 TX8 4).all (fun w => decide (w ∈ lw_tbl) && goodWord w) = true := by decide +kernel
theorem lay_X8 {U : State} (h : tb U) (a : Array Value) : ∀ w ∈ u_ws RX8 TX8 4, w.before a U = true := by
  intro w hw
  have h1 := List.all_eq_true.mp la_X8 w hw
  simp only [Bool.and_eq_true, decide_eq_true_eq] at h1
  exact h w h1.1 h1.2 a
theorem la_X9 : (u_ws RX9 TX9 2).all (fun w => decide (w ∈ lw_tbl) && goodWord w) = true := by decide +kernel
theorem lay_X9 {U : State} (h : tb U) (a : Array Value) : ∀ w ∈ u_ws RX9 TX9 2, w.before a U = true := by
  intro w hw
  have h1 := List.all_eq_true.mp la_X9 w hw
  simp only [Bool.and_eq_true, decide_eq_true_eq] at h1
  exact h w h1.1 h1.2 a
theorem la_X10 : (u_ws RX10 TX10 4).all (fun w => decide (w ∈ lw_tbl) && goodWord w) = true := by decide +kernel
theorem lay_X10 {U : State} (h : tb U) (a : Array Value) : ∀ w ∈ u_ws RX10 TX10 4, w.before a U = true := by
  intro w hw
  have h1 := List.all_eq_true.mp la_X10 w hw
  simp only [Bool.and_eq_true, decide_eq_true_eq] at h1
  exact h w h1.1 h1.2 a
theorem la_X11 : (u_ws RX11 TX11 10).all (fun w => decide (w ∈ lw_tbl) && goodWord w) = true := by decide +kernel
theorem lay_X11 {U : State} (h : tb U) (a : Array Value) : ∀ w ∈ u_ws RX11 TX11 10, w.before a U = true := by
  intro w hw
  have h1 := List.all_eq_true.mp la_X11 w hw
  simp only [Bool.and_eq_true, decide_eq_true_eq] at h1
  exact h w h1.1 h1.2 a
theorem la_X12 : (u_ws RX12 TX12 33).all (fun w => decide (w ∈ lw_tbl) && goodWord w) = true := by decide +kernel
theorem lay_X12 {U : State} (h : tb U) (a : Array Value) : ∀ w ∈ u_ws RX12 TX12 33, w.before a U = true := by
  intro w hw
  have h1 := List.all_eq_true.mp la_X12 w hw
  simp only [Bool.and_eq_true, decide_eq_true_eq] at h1
  exact h w h1.1 h1.2 a
theorem fl_X11_12 {U : State} (h : tb U) (a : Array Value) : (Cond.fieldLink RX11 12 RX11 (TX11 0).2.1 (TX11 0).2.2.1).before a U = true := h (Cond.fieldLink "AskedRoutes" 12 "AskedRoutes" "text" "LAskedRoutes$Text;") (List.mem_of_getElem? (i := 327) (by decide +kernel)) rfl a
theorem gf_X11_12 {p : Program} {l : Launch} {e : Env} {R : Room} {s : State} {m : MethodId} {args : Array Value} {below : List Frame} {meth : Method} {c : Code} {H : Heap} {locs : List Loc} {cells slots : Nat} {Q : State → Prop} {D : va_G} {cI cZ cK : ClassId} {cc : ByteArray} {pc : Nat} {ls : Array Slot} {rest : List Value} {a : Nat} {fs : List Value} {ws : va_W} {v : Value} (hx : p.tables.exec = Jvm.exec) (hb : c.code = cc) (hown : s.vm.findClass RX11 = some m.cls) (hk : kq D cI cZ cK s) (hP : va_P D vwCl ws H) (q0 : Nat) (he : ws[q0]? = some (a, .inr (11, fs))) (hv : fs[0]? = some v) (hdg : decode cc pc = .ok (.getfield 12, 3)) (kk : W p l e R s m args below meth c H locs cells slots Q (F0 m (pc + 3) ls (v :: rest))) : W p l e R s m args below meth c H locs cells slots Q (F0 m pc ls (.ref a :: rest)) := va_get (C := RX11) (T := TX11) (N := 10) hx hb (lay_X11 hk.2.1 args) (fun _ h => h) hown hk.1 hP q0 he rfl 0 (by decide) (fl_X11_12 hk.2.1 args) (fun _ h9 => h9) hv hdg kk
theorem fl_X11_21 {U : State} (h : tb U) (a : Array Value) : (Cond.fieldLink RX11 21 RX11 (TX11 1).2.1 (TX11 1).2.2.1).before a U = true := h (Cond.fieldLink "AskedRoutes" 21 "AskedRoutes" "reader" "LAskedRoutes$Reader;") (List.mem_of_getElem? (i := 328) (by decide +kernel)) rfl a
theorem gf_X11_21 {p : Program} {l : Launch} {e : Env} {R : Room} {s : State} {m : MethodId} {args : Array Value} {below : List Frame} {meth : Method} {c : Code} {H : Heap} {locs : List Loc} {cells slots : Nat} {Q : State → Prop} {D : va_G} {cI cZ cK : ClassId} {cc : ByteArray} {pc : Nat} {ls : Array Slot} {rest : List Value} {a : Nat} {fs : List Value} {ws : va_W} {v : Value} (hx : p.tables.exec = Jvm.exec) (hb : c.code = cc) (hown : s.vm.findClass RX11 = some m.cls) (hk : kq D cI cZ cK s) (hP : va_P D vwCl ws H) (q0 : Nat) (he : ws[q0]? = some (a, .inr (11, fs))) (hv : fs[1]? = some v) (hdg : decode cc pc = .ok (.getfield 21, 3)) (kk : W p l e R s m args below meth c H locs cells slots Q (F0 m (pc + 3) ls (v :: rest))) : W p l e R s m args below meth c H locs cells slots Q (F0 m pc ls (.ref a :: rest)) := va_get (C := RX11) (T := TX11) (N := 10) hx hb (lay_X11 hk.2.1 args) (fun _ h => h) hown hk.1 hP q0 he rfl 1 (by decide) (fl_X11_21 hk.2.1 args) (fun _ h9 => h9) hv hdg kk
theorem fl_X11_28 {U : State} (h : tb U) (a : Array Value) : (Cond.fieldLink RX11 28 RX11 (TX11 2).2.1 (TX11 2).2.2.1).before a U = true := h (Cond.fieldLink "AskedRoutes" 28 "AskedRoutes" "rules" "LAskedRoutes$Rules;") (List.mem_of_getElem? (i := 329) (by decide +kernel)) rfl a
theorem gf_X11_28 {p : Program} {l : Launch} {e : Env} {R : Room} {s : State} {m : MethodId} {args : Array Value} {below : List Frame} {meth : Method} {c : Code} {H : Heap} {locs : List Loc} {cells slots : Nat} {Q : State → Prop} {D : va_G} {cI cZ cK : ClassId} {cc : ByteArray} {pc : Nat} {ls : Array Slot} {rest : List Value} {a : Nat} {fs : List Value} {ws : va_W} {v : Value} (hx : p.tables.exec = Jvm.exec) (hb : c.code = cc) (hown : s.vm.findClass RX11 = some m.cls) (hk : kq D cI cZ cK s) (hP : va_P D vwCl ws H) (q0 : Nat) (he : ws[q0]? = some (a, .inr (11, fs))) (hv : fs[2]? = some v) (hdg : decode cc pc = .ok (.getfield 28, 3)) (kk : W p l e R s m args below meth c H locs cells slots Q (F0 m (pc + 3) ls (v :: rest))) : W p l e R s m args below meth c H locs cells slots Q (F0 m pc ls (.ref a :: rest)) := va_get (C := RX11) (T := TX11) (N := 10) hx hb (lay_X11 hk.2.1 args) (fun _ h => h) hown hk.1 hP q0 he rfl 2 (by decide) (fl_X11_28 hk.2.1 args) (fun _ h9 => h9) hv hdg kk
theorem fl_X11_35 {U : State} (h : tb U) (a : Array Value) : (Cond.fieldLink RX11 35 RX11 (TX11 3).2.1 (TX11 3).2.2.1).before a U = true := h (Cond.fieldLink "AskedRoutes" 35 "AskedRoutes" "known" "LAskedRoutes$Known;") (List.mem_of_getElem? (i := 330) (by decide +kernel)) rfl a
theorem gf_X11_35 {p : Program} {l : Launch} {e : Env} {R : Room} {s : State} {m : MethodId} {args : Array Value} {below : List Frame} {meth : Method} {c : Code} {H : Heap} {locs : List Loc} {cells slots : Nat} {Q : State → Prop} {D : va_G} {cI cZ cK : ClassId} {cc : ByteArray} {pc : Nat} {ls : Array Slot} {rest : List Value} {a : Nat} {fs : List Value} {ws : va_W} {v : Value} (hx : p.tables.exec = Jvm.exec) (hb : c.code = cc) (hown : s.vm.findClass RX11 = some m.cls) (hk : kq D cI cZ cK s) (hP : va_P D vwCl ws H) (q0 : Nat) (he : ws[q0]? = some (a, .inr (11, fs))) (hv : fs[3]? = some v) (hdg : decode cc pc = .ok (.getfield 35, 3)) (kk : W p l e R s m args below meth c H locs cells slots Q (F0 m (pc + 3) ls (v :: rest))) : W p l e R s m args below meth c H locs cells slots Q (F0 m pc ls (.ref a :: rest)) := va_get (C := RX11) (T := TX11) (N := 10) hx hb (lay_X11 hk.2.1 args) (fun _ h => h) hown hk.1 hP q0 he rfl 3 (by decide) (fl_X11_35 hk.2.1 args) (fun _ h9 => h9) hv hdg kk
theorem fl_X11_44 {U : State} (h : tb U) (a : Array Value) : (Cond.fieldLink RX11 44 RX11 (TX11 4).2.1 (TX11 4).2.2.1).before a U = true := h (Cond.fieldLink "AskedRoutes" 44 "AskedRoutes" "post" "LAskedRoutes$Post;") (List.mem_of_getElem? (i := 331) (by decide +kernel)) rfl a
theorem gf_X11_44 {p : Program} {l : Launch} {e : Env} {R : Room} {s : State} {m : MethodId} {args : Array Value} {below : List Frame} {meth : Method} {c : Code} {H : Heap} {locs : List Loc} {cells slots : Nat} {Q : State → Prop} {D : va_G} {cI cZ cK : ClassId} {cc : ByteArray} {pc : Nat} {ls : Array Slot} {rest : List Value} {a : Nat} {fs : List Value} {ws : va_W} {v : Value} (hx : p.tables.exec = Jvm.exec) (hb : c.code = cc) (hown : s.vm.findClass RX11 = some m.cls) (hk : kq D cI cZ cK s) (hP : va_P D vwCl ws H) (q0 : Nat) (he : ws[q0]? = some (a, .inr (11, fs))) (hv : fs[4]? = some v) (hdg : decode cc pc = .ok (.getfield 44, 3)) (kk : W p l e R s m args below meth c H locs cells slots Q (F0 m (pc + 3) ls (v :: rest))) : W p l e R s m args below meth c H locs cells slots Q (F0 m pc ls (.ref a :: rest)) := va_get (C := RX11) (T := TX11) (N := 10) hx hb (lay_X11 hk.2.1 args) (fun _ h => h) hown hk.1 hP q0 he rfl 4 (by decide) (fl_X11_44 hk.2.1 args) (fun _ h9 => h9) hv hdg kk
theorem fl_X11_51 {U : State} (h : tb U) (a : Array Value) : (Cond.fieldLink RX11 51 RX11 (TX11 5).2.1 (TX11 5).2.2.1).before a U = true := h (Cond.fieldLink "AskedRoutes" 51 "AskedRoutes" "past" "LAskedRoutes$Past;") (List.mem_of_getElem? (i := 332) (by decide +kernel)) rfl a
theorem gf_X11_51 {p : Program} {l : Launch} {e : Env} {R : Room} {s : State} {m : MethodId} {args : Array Value} {below : List Frame} {meth : Method} {c : Code} {H : Heap} {locs : List Loc} {cells slots : Nat} {Q : State → Prop} {D : va_G} {cI cZ cK : ClassId} {cc : ByteArray} {pc : Nat} {ls : Array Slot} {rest : List Value} {a : Nat} {fs : List Value} {ws : va_W} {v : Value} (hx : p.tables.exec = Jvm.exec) (hb : c.code = cc) (hown : s.vm.findClass RX11 = some m.cls) (hk : kq D cI cZ cK s) (hP : va_P D vwCl ws H) (q0 : Nat) (he : ws[q0]? = some (a, .inr (11, fs))) (hv : fs[5]? = some v) (hdg : decode cc pc = .ok (.getfield 51, 3)) (kk : W p l e R s m args below meth c H locs cells slots Q (F0 m (pc + 3) ls (v :: rest))) : W p l e R s m args below meth c H locs cells slots Q (F0 m pc ls (.ref a :: rest)) := va_get (C := RX11) (T := TX11) (N := 10) hx hb (lay_X11 hk.2.1 args) (fun _ h => h) hown hk.1 hP q0 he rfl 5 (by decide) (fl_X11_51 hk.2.1 args) (fun _ h9 => h9) hv hdg kk
theorem fl_X11_58 {U : State} (h : tb U) (a : Array Value) : (Cond.fieldLink RX11 58 RX11 (TX11 6).2.1 (TX11 6).2.2.1).before a U = true := h (Cond.fieldLink "AskedRoutes" 58 "AskedRoutes" "images" "LAskedRoutes$Images;") (List.mem_of_getElem? (i := 333) (by decide +kernel)) rfl a
theorem gf_X11_58 {p : Program} {l : Launch} {e : Env} {R : Room} {s : State} {m : MethodId} {args : Array Value} {below : List Frame} {meth : Method} {c : Code} {H : Heap} {locs : List Loc} {cells slots : Nat} {Q : State → Prop} {D : va_G} {cI cZ cK : ClassId} {cc : ByteArray} {pc : Nat} {ls : Array Slot} {rest : List Value} {a : Nat} {fs : List Value} {ws : va_W} {v : Value} (hx : p.tables.exec = Jvm.exec) (hb : c.code = cc) (hown : s.vm.findClass RX11 = some m.cls) (hk : kq D cI cZ cK s) (hP : va_P D vwCl ws H) (q0 : Nat) (he : ws[q0]? = some (a, .inr (11, fs))) (hv : fs[6]? = some v) (hdg : decode cc pc = .ok (.getfield 58, 3)) (kk : W p l e R s m args below meth c H locs cells slots Q (F0 m (pc + 3) ls (v :: rest))) : W p l e R s m args below meth c H locs cells slots Q (F0 m pc ls (.ref a :: rest)) := va_get (C := RX11) (T := TX11) (N := 10) hx hb (lay_X11 hk.2.1 args) (fun _ h => h) hown hk.1 hP q0 he rfl 6 (by decide) (fl_X11_58 hk.2.1 args) (fun _ h9 => h9) hv hdg kk
theorem fl_X11_67 {U : State} (h : tb U) (a : Array Value) : (Cond.fieldLink RX11 67 RX11 (TX11 7).2.1 (TX11 7).2.2.1).before a U = true := h (Cond.fieldLink "AskedRoutes" 67 "AskedRoutes" "trail" "LAskedRoutes$Trail;") (List.mem_of_getElem? (i := 334) (by decide +kernel)) rfl a
theorem gf_X11_67 {p : Program} {l : Launch} {e : Env} {R : Room} {s : State} {m : MethodId} {args : Array Value} {below : List Frame} {meth : Method} {c : Code} {H : Heap} {locs : List Loc} {cells slots : Nat} {Q : State → Prop} {D : va_G} {cI cZ cK : ClassId} {cc : ByteArray} {pc : Nat} {ls : Array Slot} {rest : List Value} {a : Nat} {fs : List Value} {ws : va_W} {v : Value} (hx : p.tables.exec = Jvm.exec) (hb : c.code = cc) (hown : s.vm.findClass RX11 = some m.cls) (hk : kq D cI cZ cK s) (hP : va_P D vwCl ws H) (q0 : Nat) (he : ws[q0]? = some (a, .inr (11, fs))) (hv : fs[7]? = some v) (hdg : decode cc pc = .ok (.getfield 67, 3)) (kk : W p l e R s m args below meth c H locs cells slots Q (F0 m (pc + 3) ls (v :: rest))) : W p l e R s m args below meth c H locs cells slots Q (F0 m pc ls (.ref a :: rest)) := va_get (C := RX11) (T := TX11) (N := 10) hx hb (lay_X11 hk.2.1 args) (fun _ h => h) hown hk.1 hP q0 he rfl 7 (by decide) (fl_X11_67 hk.2.1 args) (fun _ h9 => h9) hv hdg kk
theorem fl_X11_74 {U : State} (h : tb U) (a : Array Value) : (Cond.fieldLink RX11 74 RX11 (TX11 8).2.1 (TX11 8).2.2.1).before a U = true := h (Cond.fieldLink "AskedRoutes" 74 "AskedRoutes" "ways" "LAskedRoutes$LeastWays;") (List.mem_of_getElem? (i := 335) (by decide +kernel)) rfl a
theorem gf_X11_74 {p : Program} {l : Launch} {e : Env} {R : Room} {s : State} {m : MethodId} {args : Array Value} {below : List Frame} {meth : Method} {c : Code} {H : Heap} {locs : List Loc} {cells slots : Nat} {Q : State → Prop} {D : va_G} {cI cZ cK : ClassId} {cc : ByteArray} {pc : Nat} {ls : Array Slot} {rest : List Value} {a : Nat} {fs : List Value} {ws : va_W} {v : Value} (hx : p.tables.exec = Jvm.exec) (hb : c.code = cc) (hown : s.vm.findClass RX11 = some m.cls) (hk : kq D cI cZ cK s) (hP : va_P D vwCl ws H) (q0 : Nat) (he : ws[q0]? = some (a, .inr (11, fs))) (hv : fs[8]? = some v) (hdg : decode cc pc = .ok (.getfield 74, 3)) (kk : W p l e R s m args below meth c H locs cells slots Q (F0 m (pc + 3) ls (v :: rest))) : W p l e R s m args below meth c H locs cells slots Q (F0 m pc ls (.ref a :: rest)) := va_get (C := RX11) (T := TX11) (N := 10) hx hb (lay_X11 hk.2.1 args) (fun _ h => h) hown hk.1 hP q0 he rfl 8 (by decide) (fl_X11_74 hk.2.1 args) (fun _ h9 => h9) hv hdg kk
theorem fl_X11_81 {U : State} (h : tb U) (a : Array Value) : (Cond.fieldLink RX11 81 RX11 (TX11 9).2.1 (TX11 9).2.2.1).before a U = true := h (Cond.fieldLink "AskedRoutes" 81 "AskedRoutes" "sights" "LAskedRoutes$Sights;") (List.mem_of_getElem? (i := 336) (by decide +kernel)) rfl a
theorem gf_X11_81 {p : Program} {l : Launch} {e : Env} {R : Room} {s : State} {m : MethodId} {args : Array Value} {below : List Frame} {meth : Method} {c : Code} {H : Heap} {locs : List Loc} {cells slots : Nat} {Q : State → Prop} {D : va_G} {cI cZ cK : ClassId} {cc : ByteArray} {pc : Nat} {ls : Array Slot} {rest : List Value} {a : Nat} {fs : List Value} {ws : va_W} {v : Value} (hx : p.tables.exec = Jvm.exec) (hb : c.code = cc) (hown : s.vm.findClass RX11 = some m.cls) (hk : kq D cI cZ cK s) (hP : va_P D vwCl ws H) (q0 : Nat) (he : ws[q0]? = some (a, .inr (11, fs))) (hv : fs[9]? = some v) (hdg : decode cc pc = .ok (.getfield 81, 3)) (kk : W p l e R s m args below meth c H locs cells slots Q (F0 m (pc + 3) ls (v :: rest))) : W p l e R s m args below meth c H locs cells slots Q (F0 m pc ls (.ref a :: rest)) := va_get (C := RX11) (T := TX11) (N := 10) hx hb (lay_X11 hk.2.1 args) (fun _ h => h) hown hk.1 hP q0 he rfl 9 (by decide) (fl_X11_81 hk.2.1 args) (fun _ h9 => h9) hv hdg kk
theorem fl_X11_89 {U : State} (h : tb U) (a : Array Value) : (Cond.fieldLink RX11 89 RX9 (TX9 1).2.1 (TX9 1).2.2.1).before a U = true := h (Cond.fieldLink "AskedRoutes" 89 "AskedRoutes$Text" "size" "I") (List.mem_of_getElem? (i := 60) (by decide +kernel)) rfl a
theorem gf_X11_89 {p : Program} {l : Launch} {e : Env} {R : Room} {s : State} {m : MethodId} {args : Array Value} {below : List Frame} {meth : Method} {c : Code} {H : Heap} {locs : List Loc} {cells slots : Nat} {Q : State → Prop} {D : va_G} {cI cZ cK : ClassId} {cc : ByteArray} {pc : Nat} {ls : Array Slot} {rest : List Value} {a : Nat} {fs : List Value} {ws : va_W} {v : Value} (hx : p.tables.exec = Jvm.exec) (hb : c.code = cc) (hown : s.vm.findClass RX11 = some m.cls) (hk : kq D cI cZ cK s) (hP : va_P D vwCl ws H) (q0 : Nat) (he : ws[q0]? = some (a, .inr (9, fs))) (hv : fs[1]? = some v) (hdg : decode cc pc = .ok (.getfield 89, 3)) (kk : W p l e R s m args below meth c H locs cells slots Q (F0 m (pc + 3) ls (v :: rest))) : W p l e R s m args below meth c H locs cells slots Q (F0 m pc ls (.ref a :: rest)) := va_get (C := RX9) (T := TX9) (N := 2) hx hb (lay_X9 hk.2.1 args) (fun _ h => h) hown hk.1 hP q0 he rfl 1 (by decide) (fl_X11_89 hk.2.1 args) (fun _ h9 => h9) hv hdg kk
theorem pf_X11_89 {p : Program} {l : Launch} {e : Env} {R : Room} {s : State} {m : MethodId} {args : Array Value} {below : List Frame} {meth : Method} {c : Code} {H : Heap} {locs : List Loc} {cells slots : Nat} {Q : State → Prop} {D : va_G} {cI cZ cK : ClassId} {cc : ByteArray} {pc : Nat} {ls : Array Slot} {rest : List Value} {a : Nat} {fs : List Value} {A : Nat → Prop} {H0 : Heap} {ws ws' : va_W} {x : Int32} (hx : p.tables.exec = Jvm.exec) (hb : c.code = cc) (hown : s.vm.findClass RX11 = some m.cls) (hk : kq D cI cZ cK s) (w : wd D A H0 H locs ws) (q0 : Nat) (he : ws[q0]? = some (a, .inr (9, fs))) (hl : 1 < fs.length) (hs : ws.set q0 (a, .inr (9, fs.set 1 (.int x))) = ws') (hdg : decode cc pc = .ok (.putfield 89, 3)) (kk : ∀ (H1 : Heap) (locs1 : List Loc), wd D A H0 H1 locs1 ws' → W p l e R s m args below meth c H1 locs1 cells slots Q (F0 m (pc + 3) ls rest)) : W p l e R s m args below meth c H locs cells slots Q (F0 m pc ls (.int x :: .ref a :: rest)) := va_put (ty := .int) (C := RX9) (T := TX9) (N := 2) hx hb (lay_X9 hk.2.1 args) (fun _ h => h) tyX9 tyX9_ok nmX9 hown hk.1 w.1 w.2.1 w.2.2 q0 he rfl 1 (by decide) (fl_X11_89 hk.2.1 args) (fun _ h9 => h9) rfl (by decide +kernel) (vp_nar_int x) rfl hl hdg (fun H1 locs1 h1 h2 h3 => kk H1 locs1 ⟨by rw [← hs]; exact h1, by rw [← hs]; exact h2, h3⟩)
theorem fl_X11_97 {U : State} (h : tb U) (a : Array Value) : (Cond.fieldLink RX11 97 RX6 (TX6 1).2.1 (TX6 1).2.2.1).before a U = true := h (Cond.fieldLink "AskedRoutes" 97 "AskedRoutes$Reader" "rules" "LAskedRoutes$Rules;") (List.mem_of_getElem? (i := 140) (by decide +kernel)) rfl a
theorem gf_X11_97 {p : Program} {l : Launch} {e : Env} {R : Room} {s : State} {m : MethodId} {args : Array Value} {below : List Frame} {meth : Method} {c : Code} {H : Heap} {locs : List Loc} {cells slots : Nat} {Q : State → Prop} {D : va_G} {cI cZ cK : ClassId} {cc : ByteArray} {pc : Nat} {ls : Array Slot} {rest : List Value} {a : Nat} {fs : List Value} {ws : va_W} {v : Value} (hx : p.tables.exec = Jvm.exec) (hb : c.code = cc) (hown : s.vm.findClass RX11 = some m.cls) (hk : kq D cI cZ cK s) (hP : va_P D vwCl ws H) (q0 : Nat) (he : ws[q0]? = some (a, .inr (6, fs))) (hv : fs[1]? = some v) (hdg : decode cc pc = .ok (.getfield 97, 3)) (kk : W p l e R s m args below meth c H locs cells slots Q (F0 m (pc + 3) ls (v :: rest))) : W p l e R s m args below meth c H locs cells slots Q (F0 m pc ls (.ref a :: rest)) := va_get (C := RX6) (T := TX6) (N := 8) hx hb (lay_X6 hk.2.1 args) (fun _ h => h) hown hk.1 hP q0 he rfl 1 (by decide) (fl_X11_97 hk.2.1 args) (fun _ h9 => h9) hv hdg kk
theorem fl_X11_102 {U : State} (h : tb U) (a : Array Value) : (Cond.fieldLink RX11 102 RX6 (TX6 2).2.1 (TX6 2).2.2.1).before a U = true := h (Cond.fieldLink "AskedRoutes" 102 "AskedRoutes$Reader" "links" "LAskedRoutes$Links;") (List.mem_of_getElem? (i := 142) (by decide +kernel)) rfl a
theorem gf_X11_102 {p : Program} {l : Launch} {e : Env} {R : Room} {s : State} {m : MethodId} {args : Array Value} {below : List Frame} {meth : Method} {c : Code} {H : Heap} {locs : List Loc} {cells slots : Nat} {Q : State → Prop} {D : va_G} {cI cZ cK : ClassId} {cc : ByteArray} {pc : Nat} {ls : Array Slot} {rest : List Value} {a : Nat} {fs : List Value} {ws : va_W} {v : Value} (hx : p.tables.exec = Jvm.exec) (hb : c.code = cc) (hown : s.vm.findClass RX11 = some m.cls) (hk : kq D cI cZ cK s) (hP : va_P D vwCl ws H) (q0 : Nat) (he : ws[q0]? = some (a, .inr (6, fs))) (hv : fs[2]? = some v) (hdg : decode cc pc = .ok (.getfield 102, 3)) (kk : W p l e R s m args below meth c H locs cells slots Q (F0 m (pc + 3) ls (v :: rest))) : W p l e R s m args below meth c H locs cells slots Q (F0 m pc ls (.ref a :: rest)) := va_get (C := RX6) (T := TX6) (N := 8) hx hb (lay_X6 hk.2.1 args) (fun _ h => h) hown hk.1 hP q0 he rfl 2 (by decide) (fl_X11_102 hk.2.1 args) (fun _ h9 => h9) hv hdg kk
theorem fl_X11_110 {U : State} (h : tb U) (a : Array Value) : (Cond.fieldLink RX11 110 RX4 (TX4 2).2.1 (TX4 2).2.2.1).before a U = true := h (Cond.fieldLink "AskedRoutes" 110 "AskedRoutes$Past" "size" "I") (List.mem_of_getElem? (i := 246) (by decide +kernel)) rfl a
theorem gf_X11_110 {p : Program} {l : Launch} {e : Env} {R : Room} {s : State} {m : MethodId} {args : Array Value} {below : List Frame} {meth : Method} {c : Code} {H : Heap} {locs : List Loc} {cells slots : Nat} {Q : State → Prop} {D : va_G} {cI cZ cK : ClassId} {cc : ByteArray} {pc : Nat} {ls : Array Slot} {rest : List Value} {a : Nat} {fs : List Value} {ws : va_W} {v : Value} (hx : p.tables.exec = Jvm.exec) (hb : c.code = cc) (hown : s.vm.findClass RX11 = some m.cls) (hk : kq D cI cZ cK s) (hP : va_P D vwCl ws H) (q0 : Nat) (he : ws[q0]? = some (a, .inr (4, fs))) (hv : fs[2]? = some v) (hdg : decode cc pc = .ok (.getfield 110, 3)) (kk : W p l e R s m args below meth c H locs cells slots Q (F0 m (pc + 3) ls (v :: rest))) : W p l e R s m args below meth c H locs cells slots Q (F0 m pc ls (.ref a :: rest)) := va_get (C := RX4) (T := TX4) (N := 3) hx hb (lay_X4 hk.2.1 args) (fun _ h => h) hown hk.1 hP q0 he rfl 2 (by decide) (fl_X11_110 hk.2.1 args) (fun _ h9 => h9) hv hdg kk
theorem pf_X11_110 {p : Program} {l : Launch} {e : Env} {R : Room} {s : State} {m : MethodId} {args : Array Value} {below : List Frame} {meth : Method} {c : Code} {H : Heap} {locs : List Loc} {cells slots : Nat} {Q : State → Prop} {D : va_G} {cI cZ cK : ClassId} {cc : ByteArray} {pc : Nat} {ls : Array Slot} {rest : List Value} {a : Nat} {fs : List Value} {A : Nat → Prop} {H0 : Heap} {ws ws' : va_W} {x : Int32} (hx : p.tables.exec = Jvm.exec) (hb : c.code = cc) (hown : s.vm.findClass RX11 = some m.cls) (hk : kq D cI cZ cK s) (w : wd D A H0 H locs ws) (q0 : Nat) (he : ws[q0]? = some (a, .inr (4, fs))) (hl : 2 < fs.length) (hs : ws.set q0 (a, .inr (4, fs.set 2 (.int x))) = ws') (hdg : decode cc pc = .ok (.putfield 110, 3)) (kk : ∀ (H1 : Heap) (locs1 : List Loc), wd D A H0 H1 locs1 ws' → W p l e R s m args below meth c H1 locs1 cells slots Q (F0 m (pc + 3) ls rest)) : W p l e R s m args below meth c H locs cells slots Q (F0 m pc ls (.int x :: .ref a :: rest)) := va_put (ty := .int) (C := RX4) (T := TX4) (N := 3) hx hb (lay_X4 hk.2.1 args) (fun _ h => h) tyX4 tyX4_ok nmX4 hown hk.1 w.1 w.2.1 w.2.2 q0 he rfl 2 (by decide) (fl_X11_110 hk.2.1 args) (fun _ h9 => h9) rfl (by decide +kernel) (vp_nar_int x) rfl hl hdg (fun H1 locs1 h1 h2 h3 => kk H1 locs1 ⟨by rw [← hs]; exact h1, by rw [← hs]; exact h2, h3⟩)
theorem fl_X11_114 {U : State} (h : tb U) (a : Array Value) : (Cond.fieldLink RX11 114 RX8 (TX8 3).2.1 (TX8 3).2.2.1).before a U = true := h (Cond.fieldLink "AskedRoutes" 114 "AskedRoutes$Sights" "size" "I") (List.mem_of_getElem? (i := 317) (by decide +kernel)) rfl a
theorem gf_X11_114 {p : Program} {l : Launch} {e : Env} {R : Room} {s : State} {m : MethodId} {args : Array Value} {below : List Frame} {meth : Method} {c : Code} {H : Heap} {locs : List Loc} {cells slots : Nat} {Q : State → Prop} {D : va_G} {cI cZ cK : ClassId} {cc : ByteArray} {pc : Nat} {ls : Array Slot} {rest : List Value} {a : Nat} {fs : List Value} {ws : va_W} {v : Value} (hx : p.tables.exec = Jvm.exec) (hb : c.code = cc) (hown : s.vm.findClass RX11 = some m.cls) (hk : kq D cI cZ cK s) (hP : va_P D vwCl ws H) (q0 : Nat) (he : ws[q0]? = some (a, .inr (8, fs))) (hv : fs[3]? = some v) (hdg : decode cc pc = .ok (.getfield 114, 3)) (kk : W p l e R s m args below meth c H locs cells slots Q (F0 m (pc + 3) ls (v :: rest))) : W p l e R s m args below meth c H locs cells slots Q (F0 m pc ls (.ref a :: rest)) := va_get (C := RX8) (T := TX8) (N := 4) hx hb (lay_X8 hk.2.1 args) (fun _ h => h) hown hk.1 hP q0 he rfl 3 (by decide) (fl_X11_114 hk.2.1 args) (fun _ h9 => h9) hv hdg kk
theorem pf_X11_114 {p : Program} {l : Launch} {e : Env} {R : Room} {s : State} {m : MethodId} {args : Array Value} {below : List Frame} {meth : Method} {c : Code} {H : Heap} {locs : List Loc} {cells slots : Nat} {Q : State → Prop} {D : va_G} {cI cZ cK : ClassId} {cc : ByteArray} {pc : Nat} {ls : Array Slot} {rest : List Value} {a : Nat} {fs : List Value} {A : Nat → Prop} {H0 : Heap} {ws ws' : va_W} {x : Int32} (hx : p.tables.exec = Jvm.exec) (hb : c.code = cc) (hown : s.vm.findClass RX11 = some m.cls) (hk : kq D cI cZ cK s) (w : wd D A H0 H locs ws) (q0 : Nat) (he : ws[q0]? = some (a, .inr (8, fs))) (hl : 3 < fs.length) (hs : ws.set q0 (a, .inr (8, fs.set 3 (.int x))) = ws') (hdg : decode cc pc = .ok (.putfield 114, 3)) (kk : ∀ (H1 : Heap) (locs1 : List Loc), wd D A H0 H1 locs1 ws' → W p l e R s m args below meth c H1 locs1 cells slots Q (F0 m (pc + 3) ls rest)) : W p l e R s m args below meth c H locs cells slots Q (F0 m pc ls (.int x :: .ref a :: rest)) := va_put (ty := .int) (C := RX8) (T := TX8) (N := 4) hx hb (lay_X8 hk.2.1 args) (fun _ h => h) tyX8 tyX8_ok nmX8 hown hk.1 w.1 w.2.1 w.2.2 q0 he rfl 3 (by decide) (fl_X11_114 hk.2.1 args) (fun _ h9 => h9) rfl (by decide +kernel) (vp_nar_int x) rfl hl hdg (fun H1 locs1 h1 h2 h3 => kk H1 locs1 ⟨by rw [← hs]; exact h1, by rw [← hs]; exact h2, h3⟩)
theorem fl_X11_115 {U : State} (h : tb U) (a : Array Value) : (Cond.fieldLink RX11 115 RX6 (TX6 3).2.1 (TX6 3).2.2.1).before a U = true := h (Cond.fieldLink "AskedRoutes" 115 "AskedRoutes$Reader" "items" "I") (List.mem_of_getElem? (i := 144) (by decide +kernel)) rfl a
theorem gf_X11_115 {p : Program} {l : Launch} {e : Env} {R : Room} {s : State} {m : MethodId} {args : Array Value} {below : List Frame} {meth : Method} {c : Code} {H : Heap} {locs : List Loc} {cells slots : Nat} {Q : State → Prop} {D : va_G} {cI cZ cK : ClassId} {cc : ByteArray} {pc : Nat} {ls : Array Slot} {rest : List Value} {a : Nat} {fs : List Value} {ws : va_W} {v : Value} (hx : p.tables.exec = Jvm.exec) (hb : c.code = cc) (hown : s.vm.findClass RX11 = some m.cls) (hk : kq D cI cZ cK s) (hP : va_P D vwCl ws H) (q0 : Nat) (he : ws[q0]? = some (a, .inr (6, fs))) (hv : fs[3]? = some v) (hdg : decode cc pc = .ok (.getfield 115, 3)) (kk : W p l e R s m args below meth c H locs cells slots Q (F0 m (pc + 3) ls (v :: rest))) : W p l e R s m args below meth c H locs cells slots Q (F0 m pc ls (.ref a :: rest)) := va_get (C := RX6) (T := TX6) (N := 8) hx hb (lay_X6 hk.2.1 args) (fun _ h => h) hown hk.1 hP q0 he rfl 3 (by decide) (fl_X11_115 hk.2.1 args) (fun _ h9 => h9) hv hdg kk
theorem fl_X11_118 {U : State} (h : tb U) (a : Array Value) : (Cond.fieldLink RX11 118 RX1 (TX1 0).2.1 (TX1 0).2.2.1).before a U = true := h (Cond.fieldLink "AskedRoutes" 118 "AskedRoutes$Known" "links" "LAskedRoutes$Links;") (List.mem_of_getElem? (i := 179) (by decide +kernel)) rfl a
theorem gf_X11_118 {p : Program} {l : Launch} {e : Env} {R : Room} {s : State} {m : MethodId} {args : Array Value} {below : List Frame} {meth : Method} {c : Code} {H : Heap} {locs : List Loc} {cells slots : Nat} {Q : State → Prop} {D : va_G} {cI cZ cK : ClassId} {cc : ByteArray} {pc : Nat} {ls : Array Slot} {rest : List Value} {a : Nat} {fs : List Value} {ws : va_W} {v : Value} (hx : p.tables.exec = Jvm.exec) (hb : c.code = cc) (hown : s.vm.findClass RX11 = some m.cls) (hk : kq D cI cZ cK s) (hP : va_P D vwCl ws H) (q0 : Nat) (he : ws[q0]? = some (a, .inr (1, fs))) (hv : fs[0]? = some v) (hdg : decode cc pc = .ok (.getfield 118, 3)) (kk : W p l e R s m args below meth c H locs cells slots Q (F0 m (pc + 3) ls (v :: rest))) : W p l e R s m args below meth c H locs cells slots Q (F0 m pc ls (.ref a :: rest)) := va_get (C := RX1) (T := TX1) (N := 9) hx hb (lay_X1 hk.2.1 args) (fun _ h => h) hown hk.1 hP q0 he rfl 0 (by decide) (fl_X11_118 hk.2.1 args) (fun _ h9 => h9) hv hdg kk
theorem fl_X11_125 {U : State} (h : tb U) (a : Array Value) : (Cond.fieldLink RX11 125 RX3 (TX3 0).2.1 (TX3 0).2.2.1).before a U = true := h (Cond.fieldLink "AskedRoutes" 125 "AskedRoutes$Links" "delays" "[I") (List.mem_of_getElem? (i := 129) (by decide +kernel)) rfl a
theorem gf_X11_125 {p : Program} {l : Launch} {e : Env} {R : Room} {s : State} {m : MethodId} {args : Array Value} {below : List Frame} {meth : Method} {c : Code} {H : Heap} {locs : List Loc} {cells slots : Nat} {Q : State → Prop} {D : va_G} {cI cZ cK : ClassId} {cc : ByteArray} {pc : Nat} {ls : Array Slot} {rest : List Value} {a : Nat} {fs : List Value} {ws : va_W} {v : Value} (hx : p.tables.exec = Jvm.exec) (hb : c.code = cc) (hown : s.vm.findClass RX11 = some m.cls) (hk : kq D cI cZ cK s) (hP : va_P D vwCl ws H) (q0 : Nat) (he : ws[q0]? = some (a, .inr (3, fs))) (hv : fs[0]? = some v) (hdg : decode cc pc = .ok (.getfield 125, 3)) (kk : W p l e R s m args below meth c H locs cells slots Q (F0 m (pc + 3) ls (v :: rest))) : W p l e R s m args below meth c H locs cells slots Q (F0 m pc ls (.ref a :: rest)) := va_get (C := RX3) (T := TX3) (N := 2) hx hb (lay_X3 hk.2.1 args) (fun _ h => h) hown hk.1 hP q0 he rfl 0 (by decide) (fl_X11_125 hk.2.1 args) (fun _ h9 => h9) hv hdg kk
theorem fl_X11_148 {U : State} (h : tb U) (a : Array Value) : (Cond.fieldLink RX11 148 RX3 (TX3 1).2.1 (TX3 1).2.2.1).before a U = true := h (Cond.fieldLink "AskedRoutes" 148 "AskedRoutes$Links" "total" "I") (List.mem_of_getElem? (i := 132) (by decide +kernel)) rfl a
theorem gf_X11_148 {p : Program} {l : Launch} {e : Env} {R : Room} {s : State} {m : MethodId} {args : Array Value} {below : List Frame} {meth : Method} {c : Code} {H : Heap} {locs : List Loc} {cells slots : Nat} {Q : State → Prop} {D : va_G} {cI cZ cK : ClassId} {cc : ByteArray} {pc : Nat} {ls : Array Slot} {rest : List Value} {a : Nat} {fs : List Value} {ws : va_W} {v : Value} (hx : p.tables.exec = Jvm.exec) (hb : c.code = cc) (hown : s.vm.findClass RX11 = some m.cls) (hk : kq D cI cZ cK s) (hP : va_P D vwCl ws H) (q0 : Nat) (he : ws[q0]? = some (a, .inr (3, fs))) (hv : fs[1]? = some v) (hdg : decode cc pc = .ok (.getfield 148, 3)) (kk : W p l e R s m args below meth c H locs cells slots Q (F0 m (pc + 3) ls (v :: rest))) : W p l e R s m args below meth c H locs cells slots Q (F0 m pc ls (.ref a :: rest)) := va_get (C := RX3) (T := TX3) (N := 2) hx hb (lay_X3 hk.2.1 args) (fun _ h => h) hown hk.1 hP q0 he rfl 1 (by decide) (fl_X11_148 hk.2.1 args) (fun _ h9 => h9) hv hdg kk
theorem fl_X11_172 {U : State} (h : tb U) (a : Array Value) : (Cond.fieldLink RX11 172 RX1 (TX1 3).2.1 (TX1 3).2.2.1).before a U = true := h (Cond.fieldLink "AskedRoutes" 172 "AskedRoutes$Known" "mendedAt" "[I") (List.mem_of_getElem? (i := 186) (by decide +kernel)) rfl a
theorem gf_X11_172 {p : Program} {l : Launch} {e : Env} {R : Room} {s : State} {m : MethodId} {args : Array Value} {below : List Frame} {meth : Method} {c : Code} {H : Heap} {locs : List Loc} {cells slots : Nat} {Q : State → Prop} {D : va_G} {cI cZ cK : ClassId} {cc : ByteArray} {pc : Nat} {ls : Array Slot} {rest : List Value} {a : Nat} {fs : List Value} {ws : va_W} {v : Value} (hx : p.tables.exec = Jvm.exec) (hb : c.code = cc) (hown : s.vm.findClass RX11 = some m.cls) (hk : kq D cI cZ cK s) (hP : va_P D vwCl ws H) (q0 : Nat) (he : ws[q0]? = some (a, .inr (1, fs))) (hv : fs[3]? = some v) (hdg : decode cc pc = .ok (.getfield 172, 3)) (kk : W p l e R s m args below meth c H locs cells slots Q (F0 m (pc + 3) ls (v :: rest))) : W p l e R s m args below meth c H locs cells slots Q (F0 m pc ls (.ref a :: rest)) := va_get (C := RX1) (T := TX1) (N := 9) hx hb (lay_X1 hk.2.1 args) (fun _ h => h) hown hk.1 hP q0 he rfl 3 (by decide) (fl_X11_172 hk.2.1 args) (fun _ h9 => h9) hv hdg kk
theorem fl_X11_184 {U : State} (h : tb U) (a : Array Value) : (Cond.fieldLink RX11 184 RX1 (TX1 4).2.1 (TX1 4).2.2.1).before a U = true := h (Cond.fieldLink "AskedRoutes" 184 "AskedRoutes$Known" "counts" "[I") (List.mem_of_getElem? (i := 189) (by decide +kernel)) rfl a
theorem gf_X11_184 {p : Program} {l : Launch} {e : Env} {R : Room} {s : State} {m : MethodId} {args : Array Value} {below : List Frame} {meth : Method} {c : Code} {H : Heap} {locs : List Loc} {cells slots : Nat} {Q : State → Prop} {D : va_G} {cI cZ cK : ClassId} {cc : ByteArray} {pc : Nat} {ls : Array Slot} {rest : List Value} {a : Nat} {fs : List Value} {ws : va_W} {v : Value} (hx : p.tables.exec = Jvm.exec) (hb : c.code = cc) (hown : s.vm.findClass RX11 = some m.cls) (hk : kq D cI cZ cK s) (hP : va_P D vwCl ws H) (q0 : Nat) (he : ws[q0]? = some (a, .inr (1, fs))) (hv : fs[4]? = some v) (hdg : decode cc pc = .ok (.getfield 184, 3)) (kk : W p l e R s m args below meth c H locs cells slots Q (F0 m (pc + 3) ls (v :: rest))) : W p l e R s m args below meth c H locs cells slots Q (F0 m pc ls (.ref a :: rest)) := va_get (C := RX1) (T := TX1) (N := 9) hx hb (lay_X1 hk.2.1 args) (fun _ h => h) hown hk.1 hP q0 he rfl 4 (by decide) (fl_X11_184 hk.2.1 args) (fun _ h9 => h9) hv hdg kk
theorem fl_X11_187 {U : State} (h : tb U) (a : Array Value) : (Cond.fieldLink RX11 187 RX1 (TX1 5).2.1 (TX1 5).2.2.1).before a U = true := h (Cond.fieldLink "AskedRoutes" 187 "AskedRoutes$Known" "explored" "[I") (List.mem_of_getElem? (i := 192) (by decide +kernel)) rfl a
theorem gf_X11_187 {p : Program} {l : Launch} {e : Env} {R : Room} {s : State} {m : MethodId} {args : Array Value} {below : List Frame} {meth : Method} {c : Code} {H : Heap} {locs : List Loc} {cells slots : Nat} {Q : State → Prop} {D : va_G} {cI cZ cK : ClassId} {cc : ByteArray} {pc : Nat} {ls : Array Slot} {rest : List Value} {a : Nat} {fs : List Value} {ws : va_W} {v : Value} (hx : p.tables.exec = Jvm.exec) (hb : c.code = cc) (hown : s.vm.findClass RX11 = some m.cls) (hk : kq D cI cZ cK s) (hP : va_P D vwCl ws H) (q0 : Nat) (he : ws[q0]? = some (a, .inr (1, fs))) (hv : fs[5]? = some v) (hdg : decode cc pc = .ok (.getfield 187, 3)) (kk : W p l e R s m args below meth c H locs cells slots Q (F0 m (pc + 3) ls (v :: rest))) : W p l e R s m args below meth c H locs cells slots Q (F0 m pc ls (.ref a :: rest)) := va_get (C := RX1) (T := TX1) (N := 9) hx hb (lay_X1 hk.2.1 args) (fun _ h => h) hown hk.1 hP q0 he rfl 5 (by decide) (fl_X11_187 hk.2.1 args) (fun _ h9 => h9) hv hdg kk
theorem fl_X11_193 {U : State} (h : tb U) (a : Array Value) : (Cond.fieldLink RX11 193 RX1 (TX1 1).2.1 (TX1 1).2.2.1).before a U = true := h (Cond.fieldLink "AskedRoutes" 193 "AskedRoutes$Known" "hopsBy" "[I") (List.mem_of_getElem? (i := 181) (by decide +kernel)) rfl a
theorem gf_X11_193 {p : Program} {l : Launch} {e : Env} {R : Room} {s : State} {m : MethodId} {args : Array Value} {below : List Frame} {meth : Method} {c : Code} {H : Heap} {locs : List Loc} {cells slots : Nat} {Q : State → Prop} {D : va_G} {cI cZ cK : ClassId} {cc : ByteArray} {pc : Nat} {ls : Array Slot} {rest : List Value} {a : Nat} {fs : List Value} {ws : va_W} {v : Value} (hx : p.tables.exec = Jvm.exec) (hb : c.code = cc) (hown : s.vm.findClass RX11 = some m.cls) (hk : kq D cI cZ cK s) (hP : va_P D vwCl ws H) (q0 : Nat) (he : ws[q0]? = some (a, .inr (1, fs))) (hv : fs[1]? = some v) (hdg : decode cc pc = .ok (.getfield 193, 3)) (kk : W p l e R s m args below meth c H locs cells slots Q (F0 m (pc + 3) ls (v :: rest))) : W p l e R s m args below meth c H locs cells slots Q (F0 m pc ls (.ref a :: rest)) := va_get (C := RX1) (T := TX1) (N := 9) hx hb (lay_X1 hk.2.1 args) (fun _ h => h) hown hk.1 hP q0 he rfl 1 (by decide) (fl_X11_193 hk.2.1 args) (fun _ h9 => h9) hv hdg kk
theorem fl_X11_196 {U : State} (h : tb U) (a : Array Value) : (Cond.fieldLink RX11 196 RX1 (TX1 7).2.1 (TX1 7).2.2.1).before a U = true := h (Cond.fieldLink "AskedRoutes" 196 "AskedRoutes$Known" "waySize" "I") (List.mem_of_getElem? (i := 197) (by decide +kernel)) rfl a
theorem gf_X11_196 {p : Program} {l : Launch} {e : Env} {R : Room} {s : State} {m : MethodId} {args : Array Value} {below : List Frame} {meth : Method} {c : Code} {H : Heap} {locs : List Loc} {cells slots : Nat} {Q : State → Prop} {D : va_G} {cI cZ cK : ClassId} {cc : ByteArray} {pc : Nat} {ls : Array Slot} {rest : List Value} {a : Nat} {fs : List Value} {ws : va_W} {v : Value} (hx : p.tables.exec = Jvm.exec) (hb : c.code = cc) (hown : s.vm.findClass RX11 = some m.cls) (hk : kq D cI cZ cK s) (hP : va_P D vwCl ws H) (q0 : Nat) (he : ws[q0]? = some (a, .inr (1, fs))) (hv : fs[7]? = some v) (hdg : decode cc pc = .ok (.getfield 196, 3)) (kk : W p l e R s m args below meth c H locs cells slots Q (F0 m (pc + 3) ls (v :: rest))) : W p l e R s m args below meth c H locs cells slots Q (F0 m pc ls (.ref a :: rest)) := va_get (C := RX1) (T := TX1) (N := 9) hx hb (lay_X1 hk.2.1 args) (fun _ h => h) hown hk.1 hP q0 he rfl 7 (by decide) (fl_X11_196 hk.2.1 args) (fun _ h9 => h9) hv hdg kk
theorem fl_X11_199 {U : State} (h : tb U) (a : Array Value) : (Cond.fieldLink RX11 199 RX1 (TX1 6).2.1 (TX1 6).2.2.1).before a U = true := h (Cond.fieldLink "AskedRoutes" 199 "AskedRoutes$Known" "wayNodes" "[I") (List.mem_of_getElem? (i := 194) (by decide +kernel)) rfl a
theorem gf_X11_199 {p : Program} {l : Launch} {e : Env} {R : Room} {s : State} {m : MethodId} {args : Array Value} {below : List Frame} {meth : Method} {c : Code} {H : Heap} {locs : List Loc} {cells slots : Nat} {Q : State → Prop} {D : va_G} {cI cZ cK : ClassId} {cc : ByteArray} {pc : Nat} {ls : Array Slot} {rest : List Value} {a : Nat} {fs : List Value} {ws : va_W} {v : Value} (hx : p.tables.exec = Jvm.exec) (hb : c.code = cc) (hown : s.vm.findClass RX11 = some m.cls) (hk : kq D cI cZ cK s) (hP : va_P D vwCl ws H) (q0 : Nat) (he : ws[q0]? = some (a, .inr (1, fs))) (hv : fs[6]? = some v) (hdg : decode cc pc = .ok (.getfield 199, 3)) (kk : W p l e R s m args below meth c H locs cells slots Q (F0 m (pc + 3) ls (v :: rest))) : W p l e R s m args below meth c H locs cells slots Q (F0 m pc ls (.ref a :: rest)) := va_get (C := RX1) (T := TX1) (N := 9) hx hb (lay_X1 hk.2.1 args) (fun _ h => h) hown hk.1 hP q0 he rfl 6 (by decide) (fl_X11_199 hk.2.1 args) (fun _ h9 => h9) hv hdg kk
theorem fl_X11_205 {U : State} (h : tb U) (a : Array Value) : (Cond.fieldLink RX11 205 RX10 (TX10 2).2.1 (TX10 2).2.2.1).before a U = true := h (Cond.fieldLink "AskedRoutes" 205 "AskedRoutes$Trail" "size" "I") (List.mem_of_getElem? (i := 282) (by decide +kernel)) rfl a
theorem gf_X11_205 {p : Program} {l : Launch} {e : Env} {R : Room} {s : State} {m : MethodId} {args : Array Value} {below : List Frame} {meth : Method} {c : Code} {H : Heap} {locs : List Loc} {cells slots : Nat} {Q : State → Prop} {D : va_G} {cI cZ cK : ClassId} {cc : ByteArray} {pc : Nat} {ls : Array Slot} {rest : List Value} {a : Nat} {fs : List Value} {ws : va_W} {v : Value} (hx : p.tables.exec = Jvm.exec) (hb : c.code = cc) (hown : s.vm.findClass RX11 = some m.cls) (hk : kq D cI cZ cK s) (hP : va_P D vwCl ws H) (q0 : Nat) (he : ws[q0]? = some (a, .inr (10, fs))) (hv : fs[2]? = some v) (hdg : decode cc pc = .ok (.getfield 205, 3)) (kk : W p l e R s m args below meth c H locs cells slots Q (F0 m (pc + 3) ls (v :: rest))) : W p l e R s m args below meth c H locs cells slots Q (F0 m pc ls (.ref a :: rest)) := va_get (C := RX10) (T := TX10) (N := 4) hx hb (lay_X10 hk.2.1 args) (fun _ h => h) hown hk.1 hP q0 he rfl 2 (by decide) (fl_X11_205 hk.2.1 args) (fun _ h9 => h9) hv hdg kk
theorem fl_X11_206 {U : State} (h : tb U) (a : Array Value) : (Cond.fieldLink RX11 206 RX10 (TX10 1).2.1 (TX10 1).2.2.1).before a U = true := h (Cond.fieldLink "AskedRoutes" 206 "AskedRoutes$Trail" "nodes" "[I") (List.mem_of_getElem? (i := 280) (by decide +kernel)) rfl a
theorem gf_X11_206 {p : Program} {l : Launch} {e : Env} {R : Room} {s : State} {m : MethodId} {args : Array Value} {below : List Frame} {meth : Method} {c : Code} {H : Heap} {locs : List Loc} {cells slots : Nat} {Q : State → Prop} {D : va_G} {cI cZ cK : ClassId} {cc : ByteArray} {pc : Nat} {ls : Array Slot} {rest : List Value} {a : Nat} {fs : List Value} {ws : va_W} {v : Value} (hx : p.tables.exec = Jvm.exec) (hb : c.code = cc) (hown : s.vm.findClass RX11 = some m.cls) (hk : kq D cI cZ cK s) (hP : va_P D vwCl ws H) (q0 : Nat) (he : ws[q0]? = some (a, .inr (10, fs))) (hv : fs[1]? = some v) (hdg : decode cc pc = .ok (.getfield 206, 3)) (kk : W p l e R s m args below meth c H locs cells slots Q (F0 m (pc + 3) ls (v :: rest))) : W p l e R s m args below meth c H locs cells slots Q (F0 m pc ls (.ref a :: rest)) := va_get (C := RX10) (T := TX10) (N := 4) hx hb (lay_X10 hk.2.1 args) (fun _ h => h) hown hk.1 hP q0 he rfl 1 (by decide) (fl_X11_206 hk.2.1 args) (fun _ h9 => h9) hv hdg kk
theorem fl_X11_209 {U : State} (h : tb U) (a : Array Value) : (Cond.fieldLink RX11 209 RX7 (TX7 0).2.1 (TX7 0).2.2.1).before a U = true := h (Cond.fieldLink "AskedRoutes" 209 "AskedRoutes$Rules" "nodes" "I") (List.mem_of_getElem? (i := 87) (by decide +kernel)) rfl a
theorem gf_X11_209 {p : Program} {l : Launch} {e : Env} {R : Room} {s : State} {m : MethodId} {args : Array Value} {below : List Frame} {meth : Method} {c : Code} {H : Heap} {locs : List Loc} {cells slots : Nat} {Q : State → Prop} {D : va_G} {cI cZ cK : ClassId} {cc : ByteArray} {pc : Nat} {ls : Array Slot} {rest : List Value} {a : Nat} {fs : List Value} {ws : va_W} {v : Value} (hx : p.tables.exec = Jvm.exec) (hb : c.code = cc) (hown : s.vm.findClass RX11 = some m.cls) (hk : kq D cI cZ cK s) (hP : va_P D vwCl ws H) (q0 : Nat) (he : ws[q0]? = some (a, .inr (7, fs))) (hv : fs[0]? = some v) (hdg : decode cc pc = .ok (.getfield 209, 3)) (kk : W p l e R s m args below meth c H locs cells slots Q (F0 m (pc + 3) ls (v :: rest))) : W p l e R s m args below meth c H locs cells slots Q (F0 m pc ls (.ref a :: rest)) := va_get (C := RX7) (T := TX7) (N := 6) hx hb (lay_X7 hk.2.1 args) (fun _ h => h) hown hk.1 hP q0 he rfl 0 (by decide) (fl_X11_209 hk.2.1 args) (fun _ h9 => h9) hv hdg kk
theorem fl_X11_218 {U : State} (h : tb U) (a : Array Value) : (Cond.fieldLink RX11 218 RX10 (TX10 3).2.1 (TX10 3).2.2.1).before a U = true := h (Cond.fieldLink "AskedRoutes" 218 "AskedRoutes$Trail" "delays" "I") (List.mem_of_getElem? (i := 284) (by decide +kernel)) rfl a
theorem gf_X11_218 {p : Program} {l : Launch} {e : Env} {R : Room} {s : State} {m : MethodId} {args : Array Value} {below : List Frame} {meth : Method} {c : Code} {H : Heap} {locs : List Loc} {cells slots : Nat} {Q : State → Prop} {D : va_G} {cI cZ cK : ClassId} {cc : ByteArray} {pc : Nat} {ls : Array Slot} {rest : List Value} {a : Nat} {fs : List Value} {ws : va_W} {v : Value} (hx : p.tables.exec = Jvm.exec) (hb : c.code = cc) (hown : s.vm.findClass RX11 = some m.cls) (hk : kq D cI cZ cK s) (hP : va_P D vwCl ws H) (q0 : Nat) (he : ws[q0]? = some (a, .inr (10, fs))) (hv : fs[3]? = some v) (hdg : decode cc pc = .ok (.getfield 218, 3)) (kk : W p l e R s m args below meth c H locs cells slots Q (F0 m (pc + 3) ls (v :: rest))) : W p l e R s m args below meth c H locs cells slots Q (F0 m pc ls (.ref a :: rest)) := va_get (C := RX10) (T := TX10) (N := 4) hx hb (lay_X10 hk.2.1 args) (fun _ h => h) hown hk.1 hP q0 he rfl 3 (by decide) (fl_X11_218 hk.2.1 args) (fun _ h9 => h9) hv hdg kk
theorem fl_X11_233 {U : State} (h : tb U) (a : Array Value) : (Cond.fieldLink RX11 233 RX0 (TX0 0).2.1 (TX0 0).2.2.1).before a U = true := h (Cond.fieldLink "AskedRoutes" 233 "AskedRoutes$Images" "rows" "[LAskedRoutes$Known;") (List.mem_of_getElem? (i := 263) (by decide +kernel)) rfl a
theorem gf_X11_233 {p : Program} {l : Launch} {e : Env} {R : Room} {s : State} {m : MethodId} {args : Array Value} {below : List Frame} {meth : Method} {c : Code} {H : Heap} {locs : List Loc} {cells slots : Nat} {Q : State → Prop} {D : va_G} {cI cZ cK : ClassId} {cc : ByteArray} {pc : Nat} {ls : Array Slot} {rest : List Value} {a : Nat} {fs : List Value} {ws : va_W} {v : Value} (hx : p.tables.exec = Jvm.exec) (hb : c.code = cc) (hown : s.vm.findClass RX11 = some m.cls) (hk : kq D cI cZ cK s) (hP : va_P D vwCl ws H) (q0 : Nat) (he : ws[q0]? = some (a, .inr (0, fs))) (hv : fs[0]? = some v) (hdg : decode cc pc = .ok (.getfield 233, 3)) (kk : W p l e R s m args below meth c H locs cells slots Q (F0 m (pc + 3) ls (v :: rest))) : W p l e R s m args below meth c H locs cells slots Q (F0 m pc ls (.ref a :: rest)) := va_get (C := RX0) (T := TX0) (N := 2) hx hb (lay_X0 hk.2.1 args) (fun _ h => h) hown hk.1 hP q0 he rfl 0 (by decide) (fl_X11_233 hk.2.1 args) (fun _ h9 => h9) hv hdg kk
theorem fl_X11_239 {U : State} (h : tb U) (a : Array Value) : (Cond.fieldLink RX11 239 RX0 (TX0 1).2.1 (TX0 1).2.2.1).before a U = true := h (Cond.fieldLink "AskedRoutes" 239 "AskedRoutes$Images" "kept" "[Z") (List.mem_of_getElem? (i := 265) (by decide +kernel)) rfl a
theorem gf_X11_239 {p : Program} {l : Launch} {e : Env} {R : Room} {s : State} {m : MethodId} {args : Array Value} {below : List Frame} {meth : Method} {c : Code} {H : Heap} {locs : List Loc} {cells slots : Nat} {Q : State → Prop} {D : va_G} {cI cZ cK : ClassId} {cc : ByteArray} {pc : Nat} {ls : Array Slot} {rest : List Value} {a : Nat} {fs : List Value} {ws : va_W} {v : Value} (hx : p.tables.exec = Jvm.exec) (hb : c.code = cc) (hown : s.vm.findClass RX11 = some m.cls) (hk : kq D cI cZ cK s) (hP : va_P D vwCl ws H) (q0 : Nat) (he : ws[q0]? = some (a, .inr (0, fs))) (hv : fs[1]? = some v) (hdg : decode cc pc = .ok (.getfield 239, 3)) (kk : W p l e R s m args below meth c H locs cells slots Q (F0 m (pc + 3) ls (v :: rest))) : W p l e R s m args below meth c H locs cells slots Q (F0 m pc ls (.ref a :: rest)) := va_get (C := RX0) (T := TX0) (N := 2) hx hb (lay_X0 hk.2.1 args) (fun _ h => h) hown hk.1 hP q0 he rfl 1 (by decide) (fl_X11_239 hk.2.1 args) (fun _ h9 => h9) hv hdg kk
theorem fl_X11_243 {U : State} (h : tb U) (a : Array Value) : (Cond.fieldLink RX11 243 RX7 (TX7 1).2.1 (TX7 1).2.2.1).before a U = true := h (Cond.fieldLink "AskedRoutes" 243 "AskedRoutes$Rules" "every" "I") (List.mem_of_getElem? (i := 91) (by decide +kernel)) rfl a
theorem gf_X11_243 {p : Program} {l : Launch} {e : Env} {R : Room} {s : State} {m : MethodId} {args : Array Value} {below : List Frame} {meth : Method} {c : Code} {H : Heap} {locs : List Loc} {cells slots : Nat} {Q : State → Prop} {D : va_G} {cI cZ cK : ClassId} {cc : ByteArray} {pc : Nat} {ls : Array Slot} {rest : List Value} {a : Nat} {fs : List Value} {ws : va_W} {v : Value} (hx : p.tables.exec = Jvm.exec) (hb : c.code = cc) (hown : s.vm.findClass RX11 = some m.cls) (hk : kq D cI cZ cK s) (hP : va_P D vwCl ws H) (q0 : Nat) (he : ws[q0]? = some (a, .inr (7, fs))) (hv : fs[1]? = some v) (hdg : decode cc pc = .ok (.getfield 243, 3)) (kk : W p l e R s m args below meth c H locs cells slots Q (F0 m (pc + 3) ls (v :: rest))) : W p l e R s m args below meth c H locs cells slots Q (F0 m pc ls (.ref a :: rest)) := va_get (C := RX7) (T := TX7) (N := 6) hx hb (lay_X7 hk.2.1 args) (fun _ h => h) hown hk.1 hP q0 he rfl 1 (by decide) (fl_X11_243 hk.2.1 args) (fun _ h9 => h9) hv hdg kk
theorem fl_X11_246 {U : State} (h : tb U) (a : Array Value) : (Cond.fieldLink RX11 246 RX7 (TX7 2).2.1 (TX7 2).2.2.1).before a U = true := h (Cond.fieldLink "AskedRoutes" 246 "AskedRoutes$Rules" "halves" "I") (List.mem_of_getElem? (i := 95) (by decide +kernel)) rfl a
theorem gf_X11_246 {p : Program} {l : Launch} {e : Env} {R : Room} {s : State} {m : MethodId} {args : Array Value} {below : List Frame} {meth : Method} {c : Code} {H : Heap} {locs : List Loc} {cells slots : Nat} {Q : State → Prop} {D : va_G} {cI cZ cK : ClassId} {cc : ByteArray} {pc : Nat} {ls : Array Slot} {rest : List Value} {a : Nat} {fs : List Value} {ws : va_W} {v : Value} (hx : p.tables.exec = Jvm.exec) (hb : c.code = cc) (hown : s.vm.findClass RX11 = some m.cls) (hk : kq D cI cZ cK s) (hP : va_P D vwCl ws H) (q0 : Nat) (he : ws[q0]? = some (a, .inr (7, fs))) (hv : fs[2]? = some v) (hdg : decode cc pc = .ok (.getfield 246, 3)) (kk : W p l e R s m args below meth c H locs cells slots Q (F0 m (pc + 3) ls (v :: rest))) : W p l e R s m args below meth c H locs cells slots Q (F0 m pc ls (.ref a :: rest)) := va_get (C := RX7) (T := TX7) (N := 6) hx hb (lay_X7 hk.2.1 args) (fun _ h => h) hown hk.1 hP q0 he rfl 2 (by decide) (fl_X11_246 hk.2.1 args) (fun _ h9 => h9) hv hdg kk
theorem fl_X11_249 {U : State} (h : tb U) (a : Array Value) : (Cond.fieldLink RX11 249 RX7 (TX7 3).2.1 (TX7 3).2.2.1).before a U = true := h (Cond.fieldLink "AskedRoutes" 249 "AskedRoutes$Rules" "age" "I") (List.mem_of_getElem? (i := 99) (by decide +kernel)) rfl a
theorem gf_X11_249 {p : Program} {l : Launch} {e : Env} {R : Room} {s : State} {m : MethodId} {args : Array Value} {below : List Frame} {meth : Method} {c : Code} {H : Heap} {locs : List Loc} {cells slots : Nat} {Q : State → Prop} {D : va_G} {cI cZ cK : ClassId} {cc : ByteArray} {pc : Nat} {ls : Array Slot} {rest : List Value} {a : Nat} {fs : List Value} {ws : va_W} {v : Value} (hx : p.tables.exec = Jvm.exec) (hb : c.code = cc) (hown : s.vm.findClass RX11 = some m.cls) (hk : kq D cI cZ cK s) (hP : va_P D vwCl ws H) (q0 : Nat) (he : ws[q0]? = some (a, .inr (7, fs))) (hv : fs[3]? = some v) (hdg : decode cc pc = .ok (.getfield 249, 3)) (kk : W p l e R s m args below meth c H locs cells slots Q (F0 m (pc + 3) ls (v :: rest))) : W p l e R s m args below meth c H locs cells slots Q (F0 m pc ls (.ref a :: rest)) := va_get (C := RX7) (T := TX7) (N := 6) hx hb (lay_X7 hk.2.1 args) (fun _ h => h) hown hk.1 hP q0 he rfl 3 (by decide) (fl_X11_249 hk.2.1 args) (fun _ h9 => h9) hv hdg kk
theorem fl_X11_252 {U : State} (h : tb U) (a : Array Value) : (Cond.fieldLink RX11 252 RX7 (TX7 4).2.1 (TX7 4).2.2.1).before a U = true := h (Cond.fieldLink "AskedRoutes" 252 "AskedRoutes$Rules" "life" "I") (List.mem_of_getElem? (i := 103) (by decide +kernel)) rfl a
theorem gf_X11_252 {p : Program} {l : Launch} {e : Env} {R : Room} {s : State} {m : MethodId} {args : Array Value} {below : List Frame} {meth : Method} {c : Code} {H : Heap} {locs : List Loc} {cells slots : Nat} {Q : State → Prop} {D : va_G} {cI cZ cK : ClassId} {cc : ByteArray} {pc : Nat} {ls : Array Slot} {rest : List Value} {a : Nat} {fs : List Value} {ws : va_W} {v : Value} (hx : p.tables.exec = Jvm.exec) (hb : c.code = cc) (hown : s.vm.findClass RX11 = some m.cls) (hk : kq D cI cZ cK s) (hP : va_P D vwCl ws H) (q0 : Nat) (he : ws[q0]? = some (a, .inr (7, fs))) (hv : fs[4]? = some v) (hdg : decode cc pc = .ok (.getfield 252, 3)) (kk : W p l e R s m args below meth c H locs cells slots Q (F0 m (pc + 3) ls (v :: rest))) : W p l e R s m args below meth c H locs cells slots Q (F0 m pc ls (.ref a :: rest)) := va_get (C := RX7) (T := TX7) (N := 6) hx hb (lay_X7 hk.2.1 args) (fun _ h => h) hown hk.1 hP q0 he rfl 4 (by decide) (fl_X11_252 hk.2.1 args) (fun _ h9 => h9) hv hdg kk
theorem fl_X11_255 {U : State} (h : tb U) (a : Array Value) : (Cond.fieldLink RX11 255 RX7 (TX7 5).2.1 (TX7 5).2.2.1).before a U = true := h (Cond.fieldLink "AskedRoutes" 255 "AskedRoutes$Rules" "first" "I") (List.mem_of_getElem? (i := 107) (by decide +kernel)) rfl a
theorem gf_X11_255 {p : Program} {l : Launch} {e : Env} {R : Room} {s : State} {m : MethodId} {args : Array Value} {below : List Frame} {meth : Method} {c : Code} {H : Heap} {locs : List Loc} {cells slots : Nat} {Q : State → Prop} {D : va_G} {cI cZ cK : ClassId} {cc : ByteArray} {pc : Nat} {ls : Array Slot} {rest : List Value} {a : Nat} {fs : List Value} {ws : va_W} {v : Value} (hx : p.tables.exec = Jvm.exec) (hb : c.code = cc) (hown : s.vm.findClass RX11 = some m.cls) (hk : kq D cI cZ cK s) (hP : va_P D vwCl ws H) (q0 : Nat) (he : ws[q0]? = some (a, .inr (7, fs))) (hv : fs[5]? = some v) (hdg : decode cc pc = .ok (.getfield 255, 3)) (kk : W p l e R s m args below meth c H locs cells slots Q (F0 m (pc + 3) ls (v :: rest))) : W p l e R s m args below meth c H locs cells slots Q (F0 m pc ls (.ref a :: rest)) := va_get (C := RX7) (T := TX7) (N := 6) hx hb (lay_X7 hk.2.1 args) (fun _ h => h) hown hk.1 hP q0 he rfl 5 (by decide) (fl_X11_255 hk.2.1 args) (fun _ h9 => h9) hv hdg kk
theorem fl_X11_258 {U : State} (h : tb U) (a : Array Value) : (Cond.fieldLink RX11 258 RX1 (TX1 8).2.1 (TX1 8).2.2.1).before a U = true := h (Cond.fieldLink "AskedRoutes" 258 "AskedRoutes$Known" "time" "I") (List.mem_of_getElem? (i := 200) (by decide +kernel)) rfl a
theorem gf_X11_258 {p : Program} {l : Launch} {e : Env} {R : Room} {s : State} {m : MethodId} {args : Array Value} {below : List Frame} {meth : Method} {c : Code} {H : Heap} {locs : List Loc} {cells slots : Nat} {Q : State → Prop} {D : va_G} {cI cZ cK : ClassId} {cc : ByteArray} {pc : Nat} {ls : Array Slot} {rest : List Value} {a : Nat} {fs : List Value} {ws : va_W} {v : Value} (hx : p.tables.exec = Jvm.exec) (hb : c.code = cc) (hown : s.vm.findClass RX11 = some m.cls) (hk : kq D cI cZ cK s) (hP : va_P D vwCl ws H) (q0 : Nat) (he : ws[q0]? = some (a, .inr (1, fs))) (hv : fs[8]? = some v) (hdg : decode cc pc = .ok (.getfield 258, 3)) (kk : W p l e R s m args below meth c H locs cells slots Q (F0 m (pc + 3) ls (v :: rest))) : W p l e R s m args below meth c H locs cells slots Q (F0 m pc ls (.ref a :: rest)) := va_get (C := RX1) (T := TX1) (N := 9) hx hb (lay_X1 hk.2.1 args) (fun _ h => h) hown hk.1 hP q0 he rfl 8 (by decide) (fl_X11_258 hk.2.1 args) (fun _ h9 => h9) hv hdg kk
theorem fl_X0_11 {U : State} (h : tb U) (a : Array Value) : (Cond.fieldLink RX0 11 RX0 (TX0 0).2.1 (TX0 0).2.2.1).before a U = true := h (Cond.fieldLink "AskedRoutes$Images" 11 "AskedRoutes$Images" "rows" "[LAskedRoutes$Known;") (List.mem_of_getElem? (i := 262) (by decide +kernel)) rfl a
theorem gf_X0_11 {p : Program} {l : Launch} {e : Env} {R : Room} {s : State} {m : MethodId} {args : Array Value} {below : List Frame} {meth : Method} {c : Code} {H : Heap} {locs : List Loc} {cells slots : Nat} {Q : State → Prop} {D : va_G} {cI cZ cK : ClassId} {cc : ByteArray} {pc : Nat} {ls : Array Slot} {rest : List Value} {a : Nat} {fs : List Value} {ws : va_W} {v : Value} (hx : p.tables.exec = Jvm.exec) (hb : c.code = cc) (hown : s.vm.findClass RX0 = some m.cls) (hk : kq D cI cZ cK s) (hP : va_P D vwCl ws H) (q0 : Nat) (he : ws[q0]? = some (a, .inr (0, fs))) (hv : fs[0]? = some v) (hdg : decode cc pc = .ok (.getfield 11, 3)) (kk : W p l e R s m args below meth c H locs cells slots Q (F0 m (pc + 3) ls (v :: rest))) : W p l e R s m args below meth c H locs cells slots Q (F0 m pc ls (.ref a :: rest)) := va_get (C := RX0) (T := TX0) (N := 2) hx hb (lay_X0 hk.2.1 args) (fun _ h => h) hown hk.1 hP q0 he rfl 0 (by decide) (fl_X0_11 hk.2.1 args) (fun _ h9 => h9) hv hdg kk
theorem fl_X0_17 {U : State} (h : tb U) (a : Array Value) : (Cond.fieldLink RX0 17 RX0 (TX0 1).2.1 (TX0 1).2.2.1).before a U = true := h (Cond.fieldLink "AskedRoutes$Images" 17 "AskedRoutes$Images" "kept" "[Z") (List.mem_of_getElem? (i := 264) (by decide +kernel)) rfl a
theorem gf_X0_17 {p : Program} {l : Launch} {e : Env} {R : Room} {s : State} {m : MethodId} {args : Array Value} {below : List Frame} {meth : Method} {c : Code} {H : Heap} {locs : List Loc} {cells slots : Nat} {Q : State → Prop} {D : va_G} {cI cZ cK : ClassId} {cc : ByteArray} {pc : Nat} {ls : Array Slot} {rest : List Value} {a : Nat} {fs : List Value} {ws : va_W} {v : Value} (hx : p.tables.exec = Jvm.exec) (hb : c.code = cc) (hown : s.vm.findClass RX0 = some m.cls) (hk : kq D cI cZ cK s) (hP : va_P D vwCl ws H) (q0 : Nat) (he : ws[q0]? = some (a, .inr (0, fs))) (hv : fs[1]? = some v) (hdg : decode cc pc = .ok (.getfield 17, 3)) (kk : W p l e R s m args below meth c H locs cells slots Q (F0 m (pc + 3) ls (v :: rest))) : W p l e R s m args below meth c H locs cells slots Q (F0 m pc ls (.ref a :: rest)) := va_get (C := RX0) (T := TX0) (N := 2) hx hb (lay_X0 hk.2.1 args) (fun _ h => h) hown hk.1 hP q0 he rfl 1 (by decide) (fl_X0_17 hk.2.1 args) (fun _ h9 => h9) hv hdg kk
theorem fl_X1_12 {U : State} (h : tb U) (a : Array Value) : (Cond.fieldLink RX1 12 RX1 (TX1 0).2.1 (TX1 0).2.2.1).before a U = true := h (Cond.fieldLink "AskedRoutes$Known" 12 "AskedRoutes$Known" "links" "LAskedRoutes$Links;") (List.mem_of_getElem? (i := 176) (by decide +kernel)) rfl a
theorem gf_X1_12 {p : Program} {l : Launch} {e : Env} {R : Room} {s : State} {m : MethodId} {args : Array Value} {below : List Frame} {meth : Method} {c : Code} {H : Heap} {locs : List Loc} {cells slots : Nat} {Q : State → Prop} {D : va_G} {cI cZ cK : ClassId} {cc : ByteArray} {pc : Nat} {ls : Array Slot} {rest : List Value} {a : Nat} {fs : List Value} {ws : va_W} {v : Value} (hx : p.tables.exec = Jvm.exec) (hb : c.code = cc) (hown : s.vm.findClass RX1 = some m.cls) (hk : kq D cI cZ cK s) (hP : va_P D vwCl ws H) (q0 : Nat) (he : ws[q0]? = some (a, .inr (1, fs))) (hv : fs[0]? = some v) (hdg : decode cc pc = .ok (.getfield 12, 3)) (kk : W p l e R s m args below meth c H locs cells slots Q (F0 m (pc + 3) ls (v :: rest))) : W p l e R s m args below meth c H locs cells slots Q (F0 m pc ls (.ref a :: rest)) := va_get (C := RX1) (T := TX1) (N := 9) hx hb (lay_X1 hk.2.1 args) (fun _ h => h) hown hk.1 hP q0 he rfl 0 (by decide) (fl_X1_12 hk.2.1 args) (fun _ h9 => h9) hv hdg kk
theorem fl_X1_18 {U : State} (h : tb U) (a : Array Value) : (Cond.fieldLink RX1 18 RX1 (TX1 1).2.1 (TX1 1).2.2.1).before a U = true := h (Cond.fieldLink "AskedRoutes$Known" 18 "AskedRoutes$Known" "hopsBy" "[I") (List.mem_of_getElem? (i := 180) (by decide +kernel)) rfl a
theorem gf_X1_18 {p : Program} {l : Launch} {e : Env} {R : Room} {s : State} {m : MethodId} {args : Array Value} {below : List Frame} {meth : Method} {c : Code} {H : Heap} {locs : List Loc} {cells slots : Nat} {Q : State → Prop} {D : va_G} {cI cZ cK : ClassId} {cc : ByteArray} {pc : Nat} {ls : Array Slot} {rest : List Value} {a : Nat} {fs : List Value} {ws : va_W} {v : Value} (hx : p.tables.exec = Jvm.exec) (hb : c.code = cc) (hown : s.vm.findClass RX1 = some m.cls) (hk : kq D cI cZ cK s) (hP : va_P D vwCl ws H) (q0 : Nat) (he : ws[q0]? = some (a, .inr (1, fs))) (hv : fs[1]? = some v) (hdg : decode cc pc = .ok (.getfield 18, 3)) (kk : W p l e R s m args below meth c H locs cells slots Q (F0 m (pc + 3) ls (v :: rest))) : W p l e R s m args below meth c H locs cells slots Q (F0 m pc ls (.ref a :: rest)) := va_get (C := RX1) (T := TX1) (N := 9) hx hb (lay_X1 hk.2.1 args) (fun _ h => h) hown hk.1 hP q0 he rfl 1 (by decide) (fl_X1_18 hk.2.1 args) (fun _ h9 => h9) hv hdg kk
theorem fl_X1_22 {U : State} (h : tb U) (a : Array Value) : (Cond.fieldLink RX1 22 RX1 (TX1 2).2.1 (TX1 2).2.2.1).before a U = true := h (Cond.fieldLink "AskedRoutes$Known" 22 "AskedRoutes$Known" "guesses" "[I") (List.mem_of_getElem? (i := 182) (by decide +kernel)) rfl a
theorem gf_X1_22 {p : Program} {l : Launch} {e : Env} {R : Room} {s : State} {m : MethodId} {args : Array Value} {below : List Frame} {meth : Method} {c : Code} {H : Heap} {locs : List Loc} {cells slots : Nat} {Q : State → Prop} {D : va_G} {cI cZ cK : ClassId} {cc : ByteArray} {pc : Nat} {ls : Array Slot} {rest : List Value} {a : Nat} {fs : List Value} {ws : va_W} {v : Value} (hx : p.tables.exec = Jvm.exec) (hb : c.code = cc) (hown : s.vm.findClass RX1 = some m.cls) (hk : kq D cI cZ cK s) (hP : va_P D vwCl ws H) (q0 : Nat) (he : ws[q0]? = some (a, .inr (1, fs))) (hv : fs[2]? = some v) (hdg : decode cc pc = .ok (.getfield 22, 3)) (kk : W p l e R s m args below meth c H locs cells slots Q (F0 m (pc + 3) ls (v :: rest))) : W p l e R s m args below meth c H locs cells slots Q (F0 m pc ls (.ref a :: rest)) := va_get (C := RX1) (T := TX1) (N := 9) hx hb (lay_X1 hk.2.1 args) (fun _ h => h) hown hk.1 hP q0 he rfl 2 (by decide) (fl_X1_22 hk.2.1 args) (fun _ h9 => h9) hv hdg kk
theorem fl_X1_25 {U : State} (h : tb U) (a : Array Value) : (Cond.fieldLink RX1 25 RX1 (TX1 3).2.1 (TX1 3).2.2.1).before a U = true := h (Cond.fieldLink "AskedRoutes$Known" 25 "AskedRoutes$Known" "mendedAt" "[I") (List.mem_of_getElem? (i := 184) (by decide +kernel)) rfl a
theorem gf_X1_25 {p : Program} {l : Launch} {e : Env} {R : Room} {s : State} {m : MethodId} {args : Array Value} {below : List Frame} {meth : Method} {c : Code} {H : Heap} {locs : List Loc} {cells slots : Nat} {Q : State → Prop} {D : va_G} {cI cZ cK : ClassId} {cc : ByteArray} {pc : Nat} {ls : Array Slot} {rest : List Value} {a : Nat} {fs : List Value} {ws : va_W} {v : Value} (hx : p.tables.exec = Jvm.exec) (hb : c.code = cc) (hown : s.vm.findClass RX1 = some m.cls) (hk : kq D cI cZ cK s) (hP : va_P D vwCl ws H) (q0 : Nat) (he : ws[q0]? = some (a, .inr (1, fs))) (hv : fs[3]? = some v) (hdg : decode cc pc = .ok (.getfield 25, 3)) (kk : W p l e R s m args below meth c H locs cells slots Q (F0 m (pc + 3) ls (v :: rest))) : W p l e R s m args below meth c H locs cells slots Q (F0 m pc ls (.ref a :: rest)) := va_get (C := RX1) (T := TX1) (N := 9) hx hb (lay_X1 hk.2.1 args) (fun _ h => h) hown hk.1 hP q0 he rfl 3 (by decide) (fl_X1_25 hk.2.1 args) (fun _ h9 => h9) hv hdg kk
theorem fl_X1_28 {U : State} (h : tb U) (a : Array Value) : (Cond.fieldLink RX1 28 RX1 (TX1 4).2.1 (TX1 4).2.2.1).before a U = true := h (Cond.fieldLink "AskedRoutes$Known" 28 "AskedRoutes$Known" "counts" "[I") (List.mem_of_getElem? (i := 187) (by decide +kernel)) rfl a
theorem gf_X1_28 {p : Program} {l : Launch} {e : Env} {R : Room} {s : State} {m : MethodId} {args : Array Value} {below : List Frame} {meth : Method} {c : Code} {H : Heap} {locs : List Loc} {cells slots : Nat} {Q : State → Prop} {D : va_G} {cI cZ cK : ClassId} {cc : ByteArray} {pc : Nat} {ls : Array Slot} {rest : List Value} {a : Nat} {fs : List Value} {ws : va_W} {v : Value} (hx : p.tables.exec = Jvm.exec) (hb : c.code = cc) (hown : s.vm.findClass RX1 = some m.cls) (hk : kq D cI cZ cK s) (hP : va_P D vwCl ws H) (q0 : Nat) (he : ws[q0]? = some (a, .inr (1, fs))) (hv : fs[4]? = some v) (hdg : decode cc pc = .ok (.getfield 28, 3)) (kk : W p l e R s m args below meth c H locs cells slots Q (F0 m (pc + 3) ls (v :: rest))) : W p l e R s m args below meth c H locs cells slots Q (F0 m pc ls (.ref a :: rest)) := va_get (C := RX1) (T := TX1) (N := 9) hx hb (lay_X1 hk.2.1 args) (fun _ h => h) hown hk.1 hP q0 he rfl 4 (by decide) (fl_X1_28 hk.2.1 args) (fun _ h9 => h9) hv hdg kk
theorem fl_X1_31 {U : State} (h : tb U) (a : Array Value) : (Cond.fieldLink RX1 31 RX1 (TX1 5).2.1 (TX1 5).2.2.1).before a U = true := h (Cond.fieldLink "AskedRoutes$Known" 31 "AskedRoutes$Known" "explored" "[I") (List.mem_of_getElem? (i := 190) (by decide +kernel)) rfl a
theorem gf_X1_31 {p : Program} {l : Launch} {e : Env} {R : Room} {s : State} {m : MethodId} {args : Array Value} {below : List Frame} {meth : Method} {c : Code} {H : Heap} {locs : List Loc} {cells slots : Nat} {Q : State → Prop} {D : va_G} {cI cZ cK : ClassId} {cc : ByteArray} {pc : Nat} {ls : Array Slot} {rest : List Value} {a : Nat} {fs : List Value} {ws : va_W} {v : Value} (hx : p.tables.exec = Jvm.exec) (hb : c.code = cc) (hown : s.vm.findClass RX1 = some m.cls) (hk : kq D cI cZ cK s) (hP : va_P D vwCl ws H) (q0 : Nat) (he : ws[q0]? = some (a, .inr (1, fs))) (hv : fs[5]? = some v) (hdg : decode cc pc = .ok (.getfield 31, 3)) (kk : W p l e R s m args below meth c H locs cells slots Q (F0 m (pc + 3) ls (v :: rest))) : W p l e R s m args below meth c H locs cells slots Q (F0 m pc ls (.ref a :: rest)) := va_get (C := RX1) (T := TX1) (N := 9) hx hb (lay_X1 hk.2.1 args) (fun _ h => h) hown hk.1 hP q0 he rfl 5 (by decide) (fl_X1_31 hk.2.1 args) (fun _ h9 => h9) hv hdg kk
theorem fl_X1_34 {U : State} (h : tb U) (a : Array Value) : (Cond.fieldLink RX1 34 RX1 (TX1 6).2.1 (TX1 6).2.2.1).before a U = true := h (Cond.fieldLink "AskedRoutes$Known" 34 "AskedRoutes$Known" "wayNodes" "[I") (List.mem_of_getElem? (i := 193) (by decide +kernel)) rfl a
theorem gf_X1_34 {p : Program} {l : Launch} {e : Env} {R : Room} {s : State} {m : MethodId} {args : Array Value} {below : List Frame} {meth : Method} {c : Code} {H : Heap} {locs : List Loc} {cells slots : Nat} {Q : State → Prop} {D : va_G} {cI cZ cK : ClassId} {cc : ByteArray} {pc : Nat} {ls : Array Slot} {rest : List Value} {a : Nat} {fs : List Value} {ws : va_W} {v : Value} (hx : p.tables.exec = Jvm.exec) (hb : c.code = cc) (hown : s.vm.findClass RX1 = some m.cls) (hk : kq D cI cZ cK s) (hP : va_P D vwCl ws H) (q0 : Nat) (he : ws[q0]? = some (a, .inr (1, fs))) (hv : fs[6]? = some v) (hdg : decode cc pc = .ok (.getfield 34, 3)) (kk : W p l e R s m args below meth c H locs cells slots Q (F0 m (pc + 3) ls (v :: rest))) : W p l e R s m args below meth c H locs cells slots Q (F0 m pc ls (.ref a :: rest)) := va_get (C := RX1) (T := TX1) (N := 9) hx hb (lay_X1 hk.2.1 args) (fun _ h => h) hown hk.1 hP q0 he rfl 6 (by decide) (fl_X1_34 hk.2.1 args) (fun _ h9 => h9) hv hdg kk
theorem fl_X1_47 {U : State} (h : tb U) (a : Array Value) : (Cond.fieldLink RX1 47 RX1 (TX1 7).2.1 (TX1 7).2.2.1).before a U = true := h (Cond.fieldLink "AskedRoutes$Known" 47 "AskedRoutes$Known" "waySize" "I") (List.mem_of_getElem? (i := 195) (by decide +kernel)) rfl a
theorem gf_X1_47 {p : Program} {l : Launch} {e : Env} {R : Room} {s : State} {m : MethodId} {args : Array Value} {below : List Frame} {meth : Method} {c : Code} {H : Heap} {locs : List Loc} {cells slots : Nat} {Q : State → Prop} {D : va_G} {cI cZ cK : ClassId} {cc : ByteArray} {pc : Nat} {ls : Array Slot} {rest : List Value} {a : Nat} {fs : List Value} {ws : va_W} {v : Value} (hx : p.tables.exec = Jvm.exec) (hb : c.code = cc) (hown : s.vm.findClass RX1 = some m.cls) (hk : kq D cI cZ cK s) (hP : va_P D vwCl ws H) (q0 : Nat) (he : ws[q0]? = some (a, .inr (1, fs))) (hv : fs[7]? = some v) (hdg : decode cc pc = .ok (.getfield 47, 3)) (kk : W p l e R s m args below meth c H locs cells slots Q (F0 m (pc + 3) ls (v :: rest))) : W p l e R s m args below meth c H locs cells slots Q (F0 m pc ls (.ref a :: rest)) := va_get (C := RX1) (T := TX1) (N := 9) hx hb (lay_X1 hk.2.1 args) (fun _ h => h) hown hk.1 hP q0 he rfl 7 (by decide) (fl_X1_47 hk.2.1 args) (fun _ h9 => h9) hv hdg kk
theorem pf_X1_47 {p : Program} {l : Launch} {e : Env} {R : Room} {s : State} {m : MethodId} {args : Array Value} {below : List Frame} {meth : Method} {c : Code} {H : Heap} {locs : List Loc} {cells slots : Nat} {Q : State → Prop} {D : va_G} {cI cZ cK : ClassId} {cc : ByteArray} {pc : Nat} {ls : Array Slot} {rest : List Value} {a : Nat} {fs : List Value} {A : Nat → Prop} {H0 : Heap} {ws ws' : va_W} {x : Int32} (hx : p.tables.exec = Jvm.exec) (hb : c.code = cc) (hown : s.vm.findClass RX1 = some m.cls) (hk : kq D cI cZ cK s) (w : wd D A H0 H locs ws) (q0 : Nat) (he : ws[q0]? = some (a, .inr (1, fs))) (hl : 7 < fs.length) (hs : ws.set q0 (a, .inr (1, fs.set 7 (.int x))) = ws') (hdg : decode cc pc = .ok (.putfield 47, 3)) (kk : ∀ (H1 : Heap) (locs1 : List Loc), wd D A H0 H1 locs1 ws' → W p l e R s m args below meth c H1 locs1 cells slots Q (F0 m (pc + 3) ls rest)) : W p l e R s m args below meth c H locs cells slots Q (F0 m pc ls (.int x :: .ref a :: rest)) := va_put (ty := .int) (C := RX1) (T := TX1) (N := 9) hx hb (lay_X1 hk.2.1 args) (fun _ h => h) tyX1 tyX1_ok nmX1 hown hk.1 w.1 w.2.1 w.2.2 q0 he rfl 7 (by decide) (fl_X1_47 hk.2.1 args) (fun _ h9 => h9) rfl (by decide +kernel) (vp_nar_int x) rfl hl hdg (fun H1 locs1 h1 h2 h3 => kk H1 locs1 ⟨by rw [← hs]; exact h1, by rw [← hs]; exact h2, h3⟩)
theorem fl_X1_51 {U : State} (h : tb U) (a : Array Value) : (Cond.fieldLink RX1 51 RX1 (TX1 8).2.1 (TX1 8).2.2.1).before a U = true := h (Cond.fieldLink "AskedRoutes$Known" 51 "AskedRoutes$Known" "time" "I") (List.mem_of_getElem? (i := 198) (by decide +kernel)) rfl a
theorem gf_X1_51 {p : Program} {l : Launch} {e : Env} {R : Room} {s : State} {m : MethodId} {args : Array Value} {below : List Frame} {meth : Method} {c : Code} {H : Heap} {locs : List Loc} {cells slots : Nat} {Q : State → Prop} {D : va_G} {cI cZ cK : ClassId} {cc : ByteArray} {pc : Nat} {ls : Array Slot} {rest : List Value} {a : Nat} {fs : List Value} {ws : va_W} {v : Value} (hx : p.tables.exec = Jvm.exec) (hb : c.code = cc) (hown : s.vm.findClass RX1 = some m.cls) (hk : kq D cI cZ cK s) (hP : va_P D vwCl ws H) (q0 : Nat) (he : ws[q0]? = some (a, .inr (1, fs))) (hv : fs[8]? = some v) (hdg : decode cc pc = .ok (.getfield 51, 3)) (kk : W p l e R s m args below meth c H locs cells slots Q (F0 m (pc + 3) ls (v :: rest))) : W p l e R s m args below meth c H locs cells slots Q (F0 m pc ls (.ref a :: rest)) := va_get (C := RX1) (T := TX1) (N := 9) hx hb (lay_X1 hk.2.1 args) (fun _ h => h) hown hk.1 hP q0 he rfl 8 (by decide) (fl_X1_51 hk.2.1 args) (fun _ h9 => h9) hv hdg kk
theorem pf_X1_51 {p : Program} {l : Launch} {e : Env} {R : Room} {s : State} {m : MethodId} {args : Array Value} {below : List Frame} {meth : Method} {c : Code} {H : Heap} {locs : List Loc} {cells slots : Nat} {Q : State → Prop} {D : va_G} {cI cZ cK : ClassId} {cc : ByteArray} {pc : Nat} {ls : Array Slot} {rest : List Value} {a : Nat} {fs : List Value} {A : Nat → Prop} {H0 : Heap} {ws ws' : va_W} {x : Int32} (hx : p.tables.exec = Jvm.exec) (hb : c.code = cc) (hown : s.vm.findClass RX1 = some m.cls) (hk : kq D cI cZ cK s) (w : wd D A H0 H locs ws) (q0 : Nat) (he : ws[q0]? = some (a, .inr (1, fs))) (hl : 8 < fs.length) (hs : ws.set q0 (a, .inr (1, fs.set 8 (.int x))) = ws') (hdg : decode cc pc = .ok (.putfield 51, 3)) (kk : ∀ (H1 : Heap) (locs1 : List Loc), wd D A H0 H1 locs1 ws' → W p l e R s m args below meth c H1 locs1 cells slots Q (F0 m (pc + 3) ls rest)) : W p l e R s m args below meth c H locs cells slots Q (F0 m pc ls (.int x :: .ref a :: rest)) := va_put (ty := .int) (C := RX1) (T := TX1) (N := 9) hx hb (lay_X1 hk.2.1 args) (fun _ h => h) tyX1 tyX1_ok nmX1 hown hk.1 w.1 w.2.1 w.2.2 q0 he rfl 8 (by decide) (fl_X1_51 hk.2.1 args) (fun _ h9 => h9) rfl (by decide +kernel) (vp_nar_int x) rfl hl hdg (fun H1 locs1 h1 h2 h3 => kk H1 locs1 ⟨by rw [← hs]; exact h1, by rw [← hs]; exact h2, h3⟩)
theorem fl_X2_9 {U : State} (h : tb U) (a : Array Value) : (Cond.fieldLink RX2 9 RX2 (TX2 0).2.1 (TX2 0).2.2.1).before a U = true := h (Cond.fieldLink "AskedRoutes$LeastWays" 9 "AskedRoutes$LeastWays" "sums" "[I") (List.mem_of_getElem? (i := 300) (by decide +kernel)) rfl a
theorem gf_X2_9 {p : Program} {l : Launch} {e : Env} {R : Room} {s : State} {m : MethodId} {args : Array Value} {below : List Frame} {meth : Method} {c : Code} {H : Heap} {locs : List Loc} {cells slots : Nat} {Q : State → Prop} {D : va_G} {cI cZ cK : ClassId} {cc : ByteArray} {pc : Nat} {ls : Array Slot} {rest : List Value} {a : Nat} {fs : List Value} {ws : va_W} {v : Value} (hx : p.tables.exec = Jvm.exec) (hb : c.code = cc) (hown : s.vm.findClass RX2 = some m.cls) (hk : kq D cI cZ cK s) (hP : va_P D vwCl ws H) (q0 : Nat) (he : ws[q0]? = some (a, .inr (2, fs))) (hv : fs[0]? = some v) (hdg : decode cc pc = .ok (.getfield 9, 3)) (kk : W p l e R s m args below meth c H locs cells slots Q (F0 m (pc + 3) ls (v :: rest))) : W p l e R s m args below meth c H locs cells slots Q (F0 m pc ls (.ref a :: rest)) := va_get (C := RX2) (T := TX2) (N := 2) hx hb (lay_X2 hk.2.1 args) (fun _ h => h) hown hk.1 hP q0 he rfl 0 (by decide) (fl_X2_9 hk.2.1 args) (fun _ h9 => h9) hv hdg kk
theorem fl_X2_15 {U : State} (h : tb U) (a : Array Value) : (Cond.fieldLink RX2 15 RX2 (TX2 1).2.1 (TX2 1).2.2.1).before a U = true := h (Cond.fieldLink "AskedRoutes$LeastWays" 15 "AskedRoutes$LeastWays" "nodes" "I") (List.mem_of_getElem? (i := 301) (by decide +kernel)) rfl a
theorem gf_X2_15 {p : Program} {l : Launch} {e : Env} {R : Room} {s : State} {m : MethodId} {args : Array Value} {below : List Frame} {meth : Method} {c : Code} {H : Heap} {locs : List Loc} {cells slots : Nat} {Q : State → Prop} {D : va_G} {cI cZ cK : ClassId} {cc : ByteArray} {pc : Nat} {ls : Array Slot} {rest : List Value} {a : Nat} {fs : List Value} {ws : va_W} {v : Value} (hx : p.tables.exec = Jvm.exec) (hb : c.code = cc) (hown : s.vm.findClass RX2 = some m.cls) (hk : kq D cI cZ cK s) (hP : va_P D vwCl ws H) (q0 : Nat) (he : ws[q0]? = some (a, .inr (2, fs))) (hv : fs[1]? = some v) (hdg : decode cc pc = .ok (.getfield 15, 3)) (kk : W p l e R s m args below meth c H locs cells slots Q (F0 m (pc + 3) ls (v :: rest))) : W p l e R s m args below meth c H locs cells slots Q (F0 m pc ls (.ref a :: rest)) := va_get (C := RX2) (T := TX2) (N := 2) hx hb (lay_X2 hk.2.1 args) (fun _ h => h) hown hk.1 hP q0 he rfl 1 (by decide) (fl_X2_15 hk.2.1 args) (fun _ h9 => h9) hv hdg kk
theorem pf_X2_15 {p : Program} {l : Launch} {e : Env} {R : Room} {s : State} {m : MethodId} {args : Array Value} {below : List Frame} {meth : Method} {c : Code} {H : Heap} {locs : List Loc} {cells slots : Nat} {Q : State → Prop} {D : va_G} {cI cZ cK : ClassId} {cc : ByteArray} {pc : Nat} {ls : Array Slot} {rest : List Value} {a : Nat} {fs : List Value} {A : Nat → Prop} {H0 : Heap} {ws ws' : va_W} {x : Int32} (hx : p.tables.exec = Jvm.exec) (hb : c.code = cc) (hown : s.vm.findClass RX2 = some m.cls) (hk : kq D cI cZ cK s) (w : wd D A H0 H locs ws) (q0 : Nat) (he : ws[q0]? = some (a, .inr (2, fs))) (hl : 1 < fs.length) (hs : ws.set q0 (a, .inr (2, fs.set 1 (.int x))) = ws') (hdg : decode cc pc = .ok (.putfield 15, 3)) (kk : ∀ (H1 : Heap) (locs1 : List Loc), wd D A H0 H1 locs1 ws' → W p l e R s m args below meth c H1 locs1 cells slots Q (F0 m (pc + 3) ls rest)) : W p l e R s m args below meth c H locs cells slots Q (F0 m pc ls (.int x :: .ref a :: rest)) := va_put (ty := .int) (C := RX2) (T := TX2) (N := 2) hx hb (lay_X2 hk.2.1 args) (fun _ h => h) tyX2 tyX2_ok nmX2 hown hk.1 w.1 w.2.1 w.2.2 q0 he rfl 1 (by decide) (fl_X2_15 hk.2.1 args) (fun _ h9 => h9) rfl (by decide +kernel) (vp_nar_int x) rfl hl hdg (fun H1 locs1 h1 h2 h3 => kk H1 locs1 ⟨by rw [← hs]; exact h1, by rw [← hs]; exact h2, h3⟩)
theorem fl_X3_9 {U : State} (h : tb U) (a : Array Value) : (Cond.fieldLink RX3 9 RX3 (TX3 0).2.1 (TX3 0).2.2.1).before a U = true := h (Cond.fieldLink "AskedRoutes$Links" 9 "AskedRoutes$Links" "delays" "[I") (List.mem_of_getElem? (i := 127) (by decide +kernel)) rfl a
theorem gf_X3_9 {p : Program} {l : Launch} {e : Env} {R : Room} {s : State} {m : MethodId} {args : Array Value} {below : List Frame} {meth : Method} {c : Code} {H : Heap} {locs : List Loc} {cells slots : Nat} {Q : State → Prop} {D : va_G} {cI cZ cK : ClassId} {cc : ByteArray} {pc : Nat} {ls : Array Slot} {rest : List Value} {a : Nat} {fs : List Value} {ws : va_W} {v : Value} (hx : p.tables.exec = Jvm.exec) (hb : c.code = cc) (hown : s.vm.findClass RX3 = some m.cls) (hk : kq D cI cZ cK s) (hP : va_P D vwCl ws H) (q0 : Nat) (he : ws[q0]? = some (a, .inr (3, fs))) (hv : fs[0]? = some v) (hdg : decode cc pc = .ok (.getfield 9, 3)) (kk : W p l e R s m args below meth c H locs cells slots Q (F0 m (pc + 3) ls (v :: rest))) : W p l e R s m args below meth c H locs cells slots Q (F0 m pc ls (.ref a :: rest)) := va_get (C := RX3) (T := TX3) (N := 2) hx hb (lay_X3 hk.2.1 args) (fun _ h => h) hown hk.1 hP q0 he rfl 0 (by decide) (fl_X3_9 hk.2.1 args) (fun _ h9 => h9) hv hdg kk
theorem fl_X3_21 {U : State} (h : tb U) (a : Array Value) : (Cond.fieldLink RX3 21 RX3 (TX3 1).2.1 (TX3 1).2.2.1).before a U = true := h (Cond.fieldLink "AskedRoutes$Links" 21 "AskedRoutes$Links" "total" "I") (List.mem_of_getElem? (i := 130) (by decide +kernel)) rfl a
theorem gf_X3_21 {p : Program} {l : Launch} {e : Env} {R : Room} {s : State} {m : MethodId} {args : Array Value} {below : List Frame} {meth : Method} {c : Code} {H : Heap} {locs : List Loc} {cells slots : Nat} {Q : State → Prop} {D : va_G} {cI cZ cK : ClassId} {cc : ByteArray} {pc : Nat} {ls : Array Slot} {rest : List Value} {a : Nat} {fs : List Value} {ws : va_W} {v : Value} (hx : p.tables.exec = Jvm.exec) (hb : c.code = cc) (hown : s.vm.findClass RX3 = some m.cls) (hk : kq D cI cZ cK s) (hP : va_P D vwCl ws H) (q0 : Nat) (he : ws[q0]? = some (a, .inr (3, fs))) (hv : fs[1]? = some v) (hdg : decode cc pc = .ok (.getfield 21, 3)) (kk : W p l e R s m args below meth c H locs cells slots Q (F0 m (pc + 3) ls (v :: rest))) : W p l e R s m args below meth c H locs cells slots Q (F0 m pc ls (.ref a :: rest)) := va_get (C := RX3) (T := TX3) (N := 2) hx hb (lay_X3 hk.2.1 args) (fun _ h => h) hown hk.1 hP q0 he rfl 1 (by decide) (fl_X3_21 hk.2.1 args) (fun _ h9 => h9) hv hdg kk
theorem pf_X3_21 {p : Program} {l : Launch} {e : Env} {R : Room} {s : State} {m : MethodId} {args : Array Value} {below : List Frame} {meth : Method} {c : Code} {H : Heap} {locs : List Loc} {cells slots : Nat} {Q : State → Prop} {D : va_G} {cI cZ cK : ClassId} {cc : ByteArray} {pc : Nat} {ls : Array Slot} {rest : List Value} {a : Nat} {fs : List Value} {A : Nat → Prop} {H0 : Heap} {ws ws' : va_W} {x : Int32} (hx : p.tables.exec = Jvm.exec) (hb : c.code = cc) (hown : s.vm.findClass RX3 = some m.cls) (hk : kq D cI cZ cK s) (w : wd D A H0 H locs ws) (q0 : Nat) (he : ws[q0]? = some (a, .inr (3, fs))) (hl : 1 < fs.length) (hs : ws.set q0 (a, .inr (3, fs.set 1 (.int x))) = ws') (hdg : decode cc pc = .ok (.putfield 21, 3)) (kk : ∀ (H1 : Heap) (locs1 : List Loc), wd D A H0 H1 locs1 ws' → W p l e R s m args below meth c H1 locs1 cells slots Q (F0 m (pc + 3) ls rest)) : W p l e R s m args below meth c H locs cells slots Q (F0 m pc ls (.int x :: .ref a :: rest)) := va_put (ty := .int) (C := RX3) (T := TX3) (N := 2) hx hb (lay_X3 hk.2.1 args) (fun _ h => h) tyX3 tyX3_ok nmX3 hown hk.1 w.1 w.2.1 w.2.2 q0 he rfl 1 (by decide) (fl_X3_21 hk.2.1 args) (fun _ h9 => h9) rfl (by decide +kernel) (vp_nar_int x) rfl hl hdg (fun H1 locs1 h1 h2 h3 => kk H1 locs1 ⟨by rw [← hs]; exact h1, by rw [← hs]; exact h2, h3⟩)
theorem fl_X4_11 {U : State} (h : tb U) (a : Array Value) : (Cond.fieldLink RX4 11 RX4 (TX4 0).2.1 (TX4 0).2.2.1).before a U = true := h (Cond.fieldLink "AskedRoutes$Past" 11 "AskedRoutes$Past" "ring" "[LAskedRoutes$Known;") (List.mem_of_getElem? (i := 243) (by decide +kernel)) rfl a
theorem gf_X4_11 {p : Program} {l : Launch} {e : Env} {R : Room} {s : State} {m : MethodId} {args : Array Value} {below : List Frame} {meth : Method} {c : Code} {H : Heap} {locs : List Loc} {cells slots : Nat} {Q : State → Prop} {D : va_G} {cI cZ cK : ClassId} {cc : ByteArray} {pc : Nat} {ls : Array Slot} {rest : List Value} {a : Nat} {fs : List Value} {ws : va_W} {v : Value} (hx : p.tables.exec = Jvm.exec) (hb : c.code = cc) (hown : s.vm.findClass RX4 = some m.cls) (hk : kq D cI cZ cK s) (hP : va_P D vwCl ws H) (q0 : Nat) (he : ws[q0]? = some (a, .inr (4, fs))) (hv : fs[0]? = some v) (hdg : decode cc pc = .ok (.getfield 11, 3)) (kk : W p l e R s m args below meth c H locs cells slots Q (F0 m (pc + 3) ls (v :: rest))) : W p l e R s m args below meth c H locs cells slots Q (F0 m pc ls (.ref a :: rest)) := va_get (C := RX4) (T := TX4) (N := 3) hx hb (lay_X4 hk.2.1 args) (fun _ h => h) hown hk.1 hP q0 he rfl 0 (by decide) (fl_X4_11 hk.2.1 args) (fun _ h9 => h9) hv hdg kk
theorem fl_X4_18 {U : State} (h : tb U) (a : Array Value) : (Cond.fieldLink RX4 18 RX4 (TX4 1).2.1 (TX4 1).2.2.1).before a U = true := h (Cond.fieldLink "AskedRoutes$Past" 18 "AskedRoutes$Past" "latest" "I") (List.mem_of_getElem? (i := 244) (by decide +kernel)) rfl a
theorem gf_X4_18 {p : Program} {l : Launch} {e : Env} {R : Room} {s : State} {m : MethodId} {args : Array Value} {below : List Frame} {meth : Method} {c : Code} {H : Heap} {locs : List Loc} {cells slots : Nat} {Q : State → Prop} {D : va_G} {cI cZ cK : ClassId} {cc : ByteArray} {pc : Nat} {ls : Array Slot} {rest : List Value} {a : Nat} {fs : List Value} {ws : va_W} {v : Value} (hx : p.tables.exec = Jvm.exec) (hb : c.code = cc) (hown : s.vm.findClass RX4 = some m.cls) (hk : kq D cI cZ cK s) (hP : va_P D vwCl ws H) (q0 : Nat) (he : ws[q0]? = some (a, .inr (4, fs))) (hv : fs[1]? = some v) (hdg : decode cc pc = .ok (.getfield 18, 3)) (kk : W p l e R s m args below meth c H locs cells slots Q (F0 m (pc + 3) ls (v :: rest))) : W p l e R s m args below meth c H locs cells slots Q (F0 m pc ls (.ref a :: rest)) := va_get (C := RX4) (T := TX4) (N := 3) hx hb (lay_X4 hk.2.1 args) (fun _ h => h) hown hk.1 hP q0 he rfl 1 (by decide) (fl_X4_18 hk.2.1 args) (fun _ h9 => h9) hv hdg kk
theorem pf_X4_18 {p : Program} {l : Launch} {e : Env} {R : Room} {s : State} {m : MethodId} {args : Array Value} {below : List Frame} {meth : Method} {c : Code} {H : Heap} {locs : List Loc} {cells slots : Nat} {Q : State → Prop} {D : va_G} {cI cZ cK : ClassId} {cc : ByteArray} {pc : Nat} {ls : Array Slot} {rest : List Value} {a : Nat} {fs : List Value} {A : Nat → Prop} {H0 : Heap} {ws ws' : va_W} {x : Int32} (hx : p.tables.exec = Jvm.exec) (hb : c.code = cc) (hown : s.vm.findClass RX4 = some m.cls) (hk : kq D cI cZ cK s) (w : wd D A H0 H locs ws) (q0 : Nat) (he : ws[q0]? = some (a, .inr (4, fs))) (hl : 1 < fs.length) (hs : ws.set q0 (a, .inr (4, fs.set 1 (.int x))) = ws') (hdg : decode cc pc = .ok (.putfield 18, 3)) (kk : ∀ (H1 : Heap) (locs1 : List Loc), wd D A H0 H1 locs1 ws' → W p l e R s m args below meth c H1 locs1 cells slots Q (F0 m (pc + 3) ls rest)) : W p l e R s m args below meth c H locs cells slots Q (F0 m pc ls (.int x :: .ref a :: rest)) := va_put (ty := .int) (C := RX4) (T := TX4) (N := 3) hx hb (lay_X4 hk.2.1 args) (fun _ h => h) tyX4 tyX4_ok nmX4 hown hk.1 w.1 w.2.1 w.2.2 q0 he rfl 1 (by decide) (fl_X4_18 hk.2.1 args) (fun _ h9 => h9) rfl (by decide +kernel) (vp_nar_int x) rfl hl hdg (fun H1 locs1 h1 h2 h3 => kk H1 locs1 ⟨by rw [← hs]; exact h1, by rw [← hs]; exact h2, h3⟩)
theorem fl_X4_26 {U : State} (h : tb U) (a : Array Value) : (Cond.fieldLink RX4 26 RX4 (TX4 2).2.1 (TX4 2).2.2.1).before a U = true := h (Cond.fieldLink "AskedRoutes$Past" 26 "AskedRoutes$Past" "size" "I") (List.mem_of_getElem? (i := 245) (by decide +kernel)) rfl a
theorem gf_X4_26 {p : Program} {l : Launch} {e : Env} {R : Room} {s : State} {m : MethodId} {args : Array Value} {below : List Frame} {meth : Method} {c : Code} {H : Heap} {locs : List Loc} {cells slots : Nat} {Q : State → Prop} {D : va_G} {cI cZ cK : ClassId} {cc : ByteArray} {pc : Nat} {ls : Array Slot} {rest : List Value} {a : Nat} {fs : List Value} {ws : va_W} {v : Value} (hx : p.tables.exec = Jvm.exec) (hb : c.code = cc) (hown : s.vm.findClass RX4 = some m.cls) (hk : kq D cI cZ cK s) (hP : va_P D vwCl ws H) (q0 : Nat) (he : ws[q0]? = some (a, .inr (4, fs))) (hv : fs[2]? = some v) (hdg : decode cc pc = .ok (.getfield 26, 3)) (kk : W p l e R s m args below meth c H locs cells slots Q (F0 m (pc + 3) ls (v :: rest))) : W p l e R s m args below meth c H locs cells slots Q (F0 m pc ls (.ref a :: rest)) := va_get (C := RX4) (T := TX4) (N := 3) hx hb (lay_X4 hk.2.1 args) (fun _ h => h) hown hk.1 hP q0 he rfl 2 (by decide) (fl_X4_26 hk.2.1 args) (fun _ h9 => h9) hv hdg kk
theorem pf_X4_26 {p : Program} {l : Launch} {e : Env} {R : Room} {s : State} {m : MethodId} {args : Array Value} {below : List Frame} {meth : Method} {c : Code} {H : Heap} {locs : List Loc} {cells slots : Nat} {Q : State → Prop} {D : va_G} {cI cZ cK : ClassId} {cc : ByteArray} {pc : Nat} {ls : Array Slot} {rest : List Value} {a : Nat} {fs : List Value} {A : Nat → Prop} {H0 : Heap} {ws ws' : va_W} {x : Int32} (hx : p.tables.exec = Jvm.exec) (hb : c.code = cc) (hown : s.vm.findClass RX4 = some m.cls) (hk : kq D cI cZ cK s) (w : wd D A H0 H locs ws) (q0 : Nat) (he : ws[q0]? = some (a, .inr (4, fs))) (hl : 2 < fs.length) (hs : ws.set q0 (a, .inr (4, fs.set 2 (.int x))) = ws') (hdg : decode cc pc = .ok (.putfield 26, 3)) (kk : ∀ (H1 : Heap) (locs1 : List Loc), wd D A H0 H1 locs1 ws' → W p l e R s m args below meth c H1 locs1 cells slots Q (F0 m (pc + 3) ls rest)) : W p l e R s m args below meth c H locs cells slots Q (F0 m pc ls (.int x :: .ref a :: rest)) := va_put (ty := .int) (C := RX4) (T := TX4) (N := 3) hx hb (lay_X4 hk.2.1 args) (fun _ h => h) tyX4 tyX4_ok nmX4 hown hk.1 w.1 w.2.1 w.2.2 q0 he rfl 2 (by decide) (fl_X4_26 hk.2.1 args) (fun _ h9 => h9) rfl (by decide +kernel) (vp_nar_int x) rfl hl hdg (fun H1 locs1 h1 h2 h3 => kk H1 locs1 ⟨by rw [← hs]; exact h1, by rw [← hs]; exact h2, h3⟩)
theorem fl_X5_9 {U : State} (h : tb U) (a : Array Value) : (Cond.fieldLink RX5 9 RX5 (TX5 0).2.1 (TX5 0).2.2.1).before a U = true := h (Cond.fieldLink "AskedRoutes$Post" 9 "AskedRoutes$Post" "rules" "LAskedRoutes$Rules;") (List.mem_of_getElem? (i := 226) (by decide +kernel)) rfl a
theorem gf_X5_9 {p : Program} {l : Launch} {e : Env} {R : Room} {s : State} {m : MethodId} {args : Array Value} {below : List Frame} {meth : Method} {c : Code} {H : Heap} {locs : List Loc} {cells slots : Nat} {Q : State → Prop} {D : va_G} {cI cZ cK : ClassId} {cc : ByteArray} {pc : Nat} {ls : Array Slot} {rest : List Value} {a : Nat} {fs : List Value} {ws : va_W} {v : Value} (hx : p.tables.exec = Jvm.exec) (hb : c.code = cc) (hown : s.vm.findClass RX5 = some m.cls) (hk : kq D cI cZ cK s) (hP : va_P D vwCl ws H) (q0 : Nat) (he : ws[q0]? = some (a, .inr (5, fs))) (hv : fs[0]? = some v) (hdg : decode cc pc = .ok (.getfield 9, 3)) (kk : W p l e R s m args below meth c H locs cells slots Q (F0 m (pc + 3) ls (v :: rest))) : W p l e R s m args below meth c H locs cells slots Q (F0 m pc ls (.ref a :: rest)) := va_get (C := RX5) (T := TX5) (N := 2) hx hb (lay_X5 hk.2.1 args) (fun _ h => h) hown hk.1 hP q0 he rfl 0 (by decide) (fl_X5_9 hk.2.1 args) (fun _ h9 => h9) hv hdg kk
theorem fl_X5_15 {U : State} (h : tb U) (a : Array Value) : (Cond.fieldLink RX5 15 RX5 (TX5 1).2.1 (TX5 1).2.2.1).before a U = true := h (Cond.fieldLink "AskedRoutes$Post" 15 "AskedRoutes$Post" "known" "LAskedRoutes$Known;") (List.mem_of_getElem? (i := 227) (by decide +kernel)) rfl a
theorem gf_X5_15 {p : Program} {l : Launch} {e : Env} {R : Room} {s : State} {m : MethodId} {args : Array Value} {below : List Frame} {meth : Method} {c : Code} {H : Heap} {locs : List Loc} {cells slots : Nat} {Q : State → Prop} {D : va_G} {cI cZ cK : ClassId} {cc : ByteArray} {pc : Nat} {ls : Array Slot} {rest : List Value} {a : Nat} {fs : List Value} {ws : va_W} {v : Value} (hx : p.tables.exec = Jvm.exec) (hb : c.code = cc) (hown : s.vm.findClass RX5 = some m.cls) (hk : kq D cI cZ cK s) (hP : va_P D vwCl ws H) (q0 : Nat) (he : ws[q0]? = some (a, .inr (5, fs))) (hv : fs[1]? = some v) (hdg : decode cc pc = .ok (.getfield 15, 3)) (kk : W p l e R s m args below meth c H locs cells slots Q (F0 m (pc + 3) ls (v :: rest))) : W p l e R s m args below meth c H locs cells slots Q (F0 m pc ls (.ref a :: rest)) := va_get (C := RX5) (T := TX5) (N := 2) hx hb (lay_X5 hk.2.1 args) (fun _ h => h) hown hk.1 hP q0 he rfl 1 (by decide) (fl_X5_15 hk.2.1 args) (fun _ h9 => h9) hv hdg kk
theorem fl_X5_27 {U : State} (h : tb U) (a : Array Value) : (Cond.fieldLink RX5 27 RX1 (TX1 3).2.1 (TX1 3).2.2.1).before a U = true := h (Cond.fieldLink "AskedRoutes$Post" 27 "AskedRoutes$Known" "mendedAt" "[I") (List.mem_of_getElem? (i := 185) (by decide +kernel)) rfl a
theorem gf_X5_27 {p : Program} {l : Launch} {e : Env} {R : Room} {s : State} {m : MethodId} {args : Array Value} {below : List Frame} {meth : Method} {c : Code} {H : Heap} {locs : List Loc} {cells slots : Nat} {Q : State → Prop} {D : va_G} {cI cZ cK : ClassId} {cc : ByteArray} {pc : Nat} {ls : Array Slot} {rest : List Value} {a : Nat} {fs : List Value} {ws : va_W} {v : Value} (hx : p.tables.exec = Jvm.exec) (hb : c.code = cc) (hown : s.vm.findClass RX5 = some m.cls) (hk : kq D cI cZ cK s) (hP : va_P D vwCl ws H) (q0 : Nat) (he : ws[q0]? = some (a, .inr (1, fs))) (hv : fs[3]? = some v) (hdg : decode cc pc = .ok (.getfield 27, 3)) (kk : W p l e R s m args below meth c H locs cells slots Q (F0 m (pc + 3) ls (v :: rest))) : W p l e R s m args below meth c H locs cells slots Q (F0 m pc ls (.ref a :: rest)) := va_get (C := RX1) (T := TX1) (N := 9) hx hb (lay_X1 hk.2.1 args) (fun _ h => h) hown hk.1 hP q0 he rfl 3 (by decide) (fl_X5_27 hk.2.1 args) (fun _ h9 => h9) hv hdg kk
theorem fl_X5_33 {U : State} (h : tb U) (a : Array Value) : (Cond.fieldLink RX5 33 RX1 (TX1 8).2.1 (TX1 8).2.2.1).before a U = true := h (Cond.fieldLink "AskedRoutes$Post" 33 "AskedRoutes$Known" "time" "I") (List.mem_of_getElem? (i := 199) (by decide +kernel)) rfl a
theorem gf_X5_33 {p : Program} {l : Launch} {e : Env} {R : Room} {s : State} {m : MethodId} {args : Array Value} {below : List Frame} {meth : Method} {c : Code} {H : Heap} {locs : List Loc} {cells slots : Nat} {Q : State → Prop} {D : va_G} {cI cZ cK : ClassId} {cc : ByteArray} {pc : Nat} {ls : Array Slot} {rest : List Value} {a : Nat} {fs : List Value} {ws : va_W} {v : Value} (hx : p.tables.exec = Jvm.exec) (hb : c.code = cc) (hown : s.vm.findClass RX5 = some m.cls) (hk : kq D cI cZ cK s) (hP : va_P D vwCl ws H) (q0 : Nat) (he : ws[q0]? = some (a, .inr (1, fs))) (hv : fs[8]? = some v) (hdg : decode cc pc = .ok (.getfield 33, 3)) (kk : W p l e R s m args below meth c H locs cells slots Q (F0 m (pc + 3) ls (v :: rest))) : W p l e R s m args below meth c H locs cells slots Q (F0 m pc ls (.ref a :: rest)) := va_get (C := RX1) (T := TX1) (N := 9) hx hb (lay_X1 hk.2.1 args) (fun _ h => h) hown hk.1 hP q0 he rfl 8 (by decide) (fl_X5_33 hk.2.1 args) (fun _ h9 => h9) hv hdg kk
theorem pf_X5_33 {p : Program} {l : Launch} {e : Env} {R : Room} {s : State} {m : MethodId} {args : Array Value} {below : List Frame} {meth : Method} {c : Code} {H : Heap} {locs : List Loc} {cells slots : Nat} {Q : State → Prop} {D : va_G} {cI cZ cK : ClassId} {cc : ByteArray} {pc : Nat} {ls : Array Slot} {rest : List Value} {a : Nat} {fs : List Value} {A : Nat → Prop} {H0 : Heap} {ws ws' : va_W} {x : Int32} (hx : p.tables.exec = Jvm.exec) (hb : c.code = cc) (hown : s.vm.findClass RX5 = some m.cls) (hk : kq D cI cZ cK s) (w : wd D A H0 H locs ws) (q0 : Nat) (he : ws[q0]? = some (a, .inr (1, fs))) (hl : 8 < fs.length) (hs : ws.set q0 (a, .inr (1, fs.set 8 (.int x))) = ws') (hdg : decode cc pc = .ok (.putfield 33, 3)) (kk : ∀ (H1 : Heap) (locs1 : List Loc), wd D A H0 H1 locs1 ws' → W p l e R s m args below meth c H1 locs1 cells slots Q (F0 m (pc + 3) ls rest)) : W p l e R s m args below meth c H locs cells slots Q (F0 m pc ls (.int x :: .ref a :: rest)) := va_put (ty := .int) (C := RX1) (T := TX1) (N := 9) hx hb (lay_X1 hk.2.1 args) (fun _ h => h) tyX1 tyX1_ok nmX1 hown hk.1 w.1 w.2.1 w.2.2 q0 he rfl 8 (by decide) (fl_X5_33 hk.2.1 args) (fun _ h9 => h9) rfl (by decide +kernel) (vp_nar_int x) rfl hl hdg (fun H1 locs1 h1 h2 h3 => kk H1 locs1 ⟨by rw [← hs]; exact h1, by rw [← hs]; exact h2, h3⟩)
theorem fl_X5_37 {U : State} (h : tb U) (a : Array Value) : (Cond.fieldLink RX5 37 RX7 (TX7 3).2.1 (TX7 3).2.2.1).before a U = true := h (Cond.fieldLink "AskedRoutes$Post" 37 "AskedRoutes$Rules" "age" "I") (List.mem_of_getElem? (i := 97) (by decide +kernel)) rfl a
theorem gf_X5_37 {p : Program} {l : Launch} {e : Env} {R : Room} {s : State} {m : MethodId} {args : Array Value} {below : List Frame} {meth : Method} {c : Code} {H : Heap} {locs : List Loc} {cells slots : Nat} {Q : State → Prop} {D : va_G} {cI cZ cK : ClassId} {cc : ByteArray} {pc : Nat} {ls : Array Slot} {rest : List Value} {a : Nat} {fs : List Value} {ws : va_W} {v : Value} (hx : p.tables.exec = Jvm.exec) (hb : c.code = cc) (hown : s.vm.findClass RX5 = some m.cls) (hk : kq D cI cZ cK s) (hP : va_P D vwCl ws H) (q0 : Nat) (he : ws[q0]? = some (a, .inr (7, fs))) (hv : fs[3]? = some v) (hdg : decode cc pc = .ok (.getfield 37, 3)) (kk : W p l e R s m args below meth c H locs cells slots Q (F0 m (pc + 3) ls (v :: rest))) : W p l e R s m args below meth c H locs cells slots Q (F0 m pc ls (.ref a :: rest)) := va_get (C := RX7) (T := TX7) (N := 6) hx hb (lay_X7 hk.2.1 args) (fun _ h => h) hown hk.1 hP q0 he rfl 3 (by decide) (fl_X5_37 hk.2.1 args) (fun _ h9 => h9) hv hdg kk
theorem fl_X5_42 {U : State} (h : tb U) (a : Array Value) : (Cond.fieldLink RX5 42 RX7 (TX7 5).2.1 (TX7 5).2.2.1).before a U = true := h (Cond.fieldLink "AskedRoutes$Post" 42 "AskedRoutes$Rules" "first" "I") (List.mem_of_getElem? (i := 105) (by decide +kernel)) rfl a
theorem gf_X5_42 {p : Program} {l : Launch} {e : Env} {R : Room} {s : State} {m : MethodId} {args : Array Value} {below : List Frame} {meth : Method} {c : Code} {H : Heap} {locs : List Loc} {cells slots : Nat} {Q : State → Prop} {D : va_G} {cI cZ cK : ClassId} {cc : ByteArray} {pc : Nat} {ls : Array Slot} {rest : List Value} {a : Nat} {fs : List Value} {ws : va_W} {v : Value} (hx : p.tables.exec = Jvm.exec) (hb : c.code = cc) (hown : s.vm.findClass RX5 = some m.cls) (hk : kq D cI cZ cK s) (hP : va_P D vwCl ws H) (q0 : Nat) (he : ws[q0]? = some (a, .inr (7, fs))) (hv : fs[5]? = some v) (hdg : decode cc pc = .ok (.getfield 42, 3)) (kk : W p l e R s m args below meth c H locs cells slots Q (F0 m (pc + 3) ls (v :: rest))) : W p l e R s m args below meth c H locs cells slots Q (F0 m pc ls (.ref a :: rest)) := va_get (C := RX7) (T := TX7) (N := 6) hx hb (lay_X7 hk.2.1 args) (fun _ h => h) hown hk.1 hP q0 he rfl 5 (by decide) (fl_X5_42 hk.2.1 args) (fun _ h9 => h9) hv hdg kk
theorem fl_X5_45 {U : State} (h : tb U) (a : Array Value) : (Cond.fieldLink RX5 45 RX1 (TX1 2).2.1 (TX1 2).2.2.1).before a U = true := h (Cond.fieldLink "AskedRoutes$Post" 45 "AskedRoutes$Known" "guesses" "[I") (List.mem_of_getElem? (i := 183) (by decide +kernel)) rfl a
theorem gf_X5_45 {p : Program} {l : Launch} {e : Env} {R : Room} {s : State} {m : MethodId} {args : Array Value} {below : List Frame} {meth : Method} {c : Code} {H : Heap} {locs : List Loc} {cells slots : Nat} {Q : State → Prop} {D : va_G} {cI cZ cK : ClassId} {cc : ByteArray} {pc : Nat} {ls : Array Slot} {rest : List Value} {a : Nat} {fs : List Value} {ws : va_W} {v : Value} (hx : p.tables.exec = Jvm.exec) (hb : c.code = cc) (hown : s.vm.findClass RX5 = some m.cls) (hk : kq D cI cZ cK s) (hP : va_P D vwCl ws H) (q0 : Nat) (he : ws[q0]? = some (a, .inr (1, fs))) (hv : fs[2]? = some v) (hdg : decode cc pc = .ok (.getfield 45, 3)) (kk : W p l e R s m args below meth c H locs cells slots Q (F0 m (pc + 3) ls (v :: rest))) : W p l e R s m args below meth c H locs cells slots Q (F0 m pc ls (.ref a :: rest)) := va_get (C := RX1) (T := TX1) (N := 9) hx hb (lay_X1 hk.2.1 args) (fun _ h => h) hown hk.1 hP q0 he rfl 2 (by decide) (fl_X5_45 hk.2.1 args) (fun _ h9 => h9) hv hdg kk
theorem fl_X5_52 {U : State} (h : tb U) (a : Array Value) : (Cond.fieldLink RX5 52 RX7 (TX7 0).2.1 (TX7 0).2.2.1).before a U = true := h (Cond.fieldLink "AskedRoutes$Post" 52 "AskedRoutes$Rules" "nodes" "I") (List.mem_of_getElem? (i := 85) (by decide +kernel)) rfl a
theorem gf_X5_52 {p : Program} {l : Launch} {e : Env} {R : Room} {s : State} {m : MethodId} {args : Array Value} {below : List Frame} {meth : Method} {c : Code} {H : Heap} {locs : List Loc} {cells slots : Nat} {Q : State → Prop} {D : va_G} {cI cZ cK : ClassId} {cc : ByteArray} {pc : Nat} {ls : Array Slot} {rest : List Value} {a : Nat} {fs : List Value} {ws : va_W} {v : Value} (hx : p.tables.exec = Jvm.exec) (hb : c.code = cc) (hown : s.vm.findClass RX5 = some m.cls) (hk : kq D cI cZ cK s) (hP : va_P D vwCl ws H) (q0 : Nat) (he : ws[q0]? = some (a, .inr (7, fs))) (hv : fs[0]? = some v) (hdg : decode cc pc = .ok (.getfield 52, 3)) (kk : W p l e R s m args below meth c H locs cells slots Q (F0 m (pc + 3) ls (v :: rest))) : W p l e R s m args below meth c H locs cells slots Q (F0 m pc ls (.ref a :: rest)) := va_get (C := RX7) (T := TX7) (N := 6) hx hb (lay_X7 hk.2.1 args) (fun _ h => h) hown hk.1 hP q0 he rfl 0 (by decide) (fl_X5_52 hk.2.1 args) (fun _ h9 => h9) hv hdg kk
theorem fl_X5_55 {U : State} (h : tb U) (a : Array Value) : (Cond.fieldLink RX5 55 RX1 (TX1 0).2.1 (TX1 0).2.2.1).before a U = true := h (Cond.fieldLink "AskedRoutes$Post" 55 "AskedRoutes$Known" "links" "LAskedRoutes$Links;") (List.mem_of_getElem? (i := 178) (by decide +kernel)) rfl a
theorem gf_X5_55 {p : Program} {l : Launch} {e : Env} {R : Room} {s : State} {m : MethodId} {args : Array Value} {below : List Frame} {meth : Method} {c : Code} {H : Heap} {locs : List Loc} {cells slots : Nat} {Q : State → Prop} {D : va_G} {cI cZ cK : ClassId} {cc : ByteArray} {pc : Nat} {ls : Array Slot} {rest : List Value} {a : Nat} {fs : List Value} {ws : va_W} {v : Value} (hx : p.tables.exec = Jvm.exec) (hb : c.code = cc) (hown : s.vm.findClass RX5 = some m.cls) (hk : kq D cI cZ cK s) (hP : va_P D vwCl ws H) (q0 : Nat) (he : ws[q0]? = some (a, .inr (1, fs))) (hv : fs[0]? = some v) (hdg : decode cc pc = .ok (.getfield 55, 3)) (kk : W p l e R s m args below meth c H locs cells slots Q (F0 m (pc + 3) ls (v :: rest))) : W p l e R s m args below meth c H locs cells slots Q (F0 m pc ls (.ref a :: rest)) := va_get (C := RX1) (T := TX1) (N := 9) hx hb (lay_X1 hk.2.1 args) (fun _ h => h) hown hk.1 hP q0 he rfl 0 (by decide) (fl_X5_55 hk.2.1 args) (fun _ h9 => h9) hv hdg kk
theorem fl_X5_59 {U : State} (h : tb U) (a : Array Value) : (Cond.fieldLink RX5 59 RX3 (TX3 0).2.1 (TX3 0).2.2.1).before a U = true := h (Cond.fieldLink "AskedRoutes$Post" 59 "AskedRoutes$Links" "delays" "[I") (List.mem_of_getElem? (i := 128) (by decide +kernel)) rfl a
theorem gf_X5_59 {p : Program} {l : Launch} {e : Env} {R : Room} {s : State} {m : MethodId} {args : Array Value} {below : List Frame} {meth : Method} {c : Code} {H : Heap} {locs : List Loc} {cells slots : Nat} {Q : State → Prop} {D : va_G} {cI cZ cK : ClassId} {cc : ByteArray} {pc : Nat} {ls : Array Slot} {rest : List Value} {a : Nat} {fs : List Value} {ws : va_W} {v : Value} (hx : p.tables.exec = Jvm.exec) (hb : c.code = cc) (hown : s.vm.findClass RX5 = some m.cls) (hk : kq D cI cZ cK s) (hP : va_P D vwCl ws H) (q0 : Nat) (he : ws[q0]? = some (a, .inr (3, fs))) (hv : fs[0]? = some v) (hdg : decode cc pc = .ok (.getfield 59, 3)) (kk : W p l e R s m args below meth c H locs cells slots Q (F0 m (pc + 3) ls (v :: rest))) : W p l e R s m args below meth c H locs cells slots Q (F0 m pc ls (.ref a :: rest)) := va_get (C := RX3) (T := TX3) (N := 2) hx hb (lay_X3 hk.2.1 args) (fun _ h => h) hown hk.1 hP q0 he rfl 0 (by decide) (fl_X5_59 hk.2.1 args) (fun _ h9 => h9) hv hdg kk
theorem fl_X5_67 {U : State} (h : tb U) (a : Array Value) : (Cond.fieldLink RX5 67 RX1 (TX1 4).2.1 (TX1 4).2.2.1).before a U = true := h (Cond.fieldLink "AskedRoutes$Post" 67 "AskedRoutes$Known" "counts" "[I") (List.mem_of_getElem? (i := 188) (by decide +kernel)) rfl a
theorem gf_X5_67 {p : Program} {l : Launch} {e : Env} {R : Room} {s : State} {m : MethodId} {args : Array Value} {below : List Frame} {meth : Method} {c : Code} {H : Heap} {locs : List Loc} {cells slots : Nat} {Q : State → Prop} {D : va_G} {cI cZ cK : ClassId} {cc : ByteArray} {pc : Nat} {ls : Array Slot} {rest : List Value} {a : Nat} {fs : List Value} {ws : va_W} {v : Value} (hx : p.tables.exec = Jvm.exec) (hb : c.code = cc) (hown : s.vm.findClass RX5 = some m.cls) (hk : kq D cI cZ cK s) (hP : va_P D vwCl ws H) (q0 : Nat) (he : ws[q0]? = some (a, .inr (1, fs))) (hv : fs[4]? = some v) (hdg : decode cc pc = .ok (.getfield 67, 3)) (kk : W p l e R s m args below meth c H locs cells slots Q (F0 m (pc + 3) ls (v :: rest))) : W p l e R s m args below meth c H locs cells slots Q (F0 m pc ls (.ref a :: rest)) := va_get (C := RX1) (T := TX1) (N := 9) hx hb (lay_X1 hk.2.1 args) (fun _ h => h) hown hk.1 hP q0 he rfl 4 (by decide) (fl_X5_67 hk.2.1 args) (fun _ h9 => h9) hv hdg kk
theorem fl_X5_70 {U : State} (h : tb U) (a : Array Value) : (Cond.fieldLink RX5 70 RX7 (TX7 1).2.1 (TX7 1).2.2.1).before a U = true := h (Cond.fieldLink "AskedRoutes$Post" 70 "AskedRoutes$Rules" "every" "I") (List.mem_of_getElem? (i := 89) (by decide +kernel)) rfl a
theorem gf_X5_70 {p : Program} {l : Launch} {e : Env} {R : Room} {s : State} {m : MethodId} {args : Array Value} {below : List Frame} {meth : Method} {c : Code} {H : Heap} {locs : List Loc} {cells slots : Nat} {Q : State → Prop} {D : va_G} {cI cZ cK : ClassId} {cc : ByteArray} {pc : Nat} {ls : Array Slot} {rest : List Value} {a : Nat} {fs : List Value} {ws : va_W} {v : Value} (hx : p.tables.exec = Jvm.exec) (hb : c.code = cc) (hown : s.vm.findClass RX5 = some m.cls) (hk : kq D cI cZ cK s) (hP : va_P D vwCl ws H) (q0 : Nat) (he : ws[q0]? = some (a, .inr (7, fs))) (hv : fs[1]? = some v) (hdg : decode cc pc = .ok (.getfield 70, 3)) (kk : W p l e R s m args below meth c H locs cells slots Q (F0 m (pc + 3) ls (v :: rest))) : W p l e R s m args below meth c H locs cells slots Q (F0 m pc ls (.ref a :: rest)) := va_get (C := RX7) (T := TX7) (N := 6) hx hb (lay_X7 hk.2.1 args) (fun _ h => h) hown hk.1 hP q0 he rfl 1 (by decide) (fl_X5_70 hk.2.1 args) (fun _ h9 => h9) hv hdg kk
theorem fl_X5_73 {U : State} (h : tb U) (a : Array Value) : (Cond.fieldLink RX5 73 RX1 (TX1 5).2.1 (TX1 5).2.2.1).before a U = true := h (Cond.fieldLink "AskedRoutes$Post" 73 "AskedRoutes$Known" "explored" "[I") (List.mem_of_getElem? (i := 191) (by decide +kernel)) rfl a
theorem gf_X5_73 {p : Program} {l : Launch} {e : Env} {R : Room} {s : State} {m : MethodId} {args : Array Value} {below : List Frame} {meth : Method} {c : Code} {H : Heap} {locs : List Loc} {cells slots : Nat} {Q : State → Prop} {D : va_G} {cI cZ cK : ClassId} {cc : ByteArray} {pc : Nat} {ls : Array Slot} {rest : List Value} {a : Nat} {fs : List Value} {ws : va_W} {v : Value} (hx : p.tables.exec = Jvm.exec) (hb : c.code = cc) (hown : s.vm.findClass RX5 = some m.cls) (hk : kq D cI cZ cK s) (hP : va_P D vwCl ws H) (q0 : Nat) (he : ws[q0]? = some (a, .inr (1, fs))) (hv : fs[5]? = some v) (hdg : decode cc pc = .ok (.getfield 73, 3)) (kk : W p l e R s m args below meth c H locs cells slots Q (F0 m (pc + 3) ls (v :: rest))) : W p l e R s m args below meth c H locs cells slots Q (F0 m pc ls (.ref a :: rest)) := va_get (C := RX1) (T := TX1) (N := 9) hx hb (lay_X1 hk.2.1 args) (fun _ h => h) hown hk.1 hP q0 he rfl 5 (by decide) (fl_X5_73 hk.2.1 args) (fun _ h9 => h9) hv hdg kk
theorem fl_X5_91 {U : State} (h : tb U) (a : Array Value) : (Cond.fieldLink RX5 91 RX7 (TX7 2).2.1 (TX7 2).2.2.1).before a U = true := h (Cond.fieldLink "AskedRoutes$Post" 91 "AskedRoutes$Rules" "halves" "I") (List.mem_of_getElem? (i := 94) (by decide +kernel)) rfl a
theorem gf_X5_91 {p : Program} {l : Launch} {e : Env} {R : Room} {s : State} {m : MethodId} {args : Array Value} {below : List Frame} {meth : Method} {c : Code} {H : Heap} {locs : List Loc} {cells slots : Nat} {Q : State → Prop} {D : va_G} {cI cZ cK : ClassId} {cc : ByteArray} {pc : Nat} {ls : Array Slot} {rest : List Value} {a : Nat} {fs : List Value} {ws : va_W} {v : Value} (hx : p.tables.exec = Jvm.exec) (hb : c.code = cc) (hown : s.vm.findClass RX5 = some m.cls) (hk : kq D cI cZ cK s) (hP : va_P D vwCl ws H) (q0 : Nat) (he : ws[q0]? = some (a, .inr (7, fs))) (hv : fs[2]? = some v) (hdg : decode cc pc = .ok (.getfield 91, 3)) (kk : W p l e R s m args below meth c H locs cells slots Q (F0 m (pc + 3) ls (v :: rest))) : W p l e R s m args below meth c H locs cells slots Q (F0 m pc ls (.ref a :: rest)) := va_get (C := RX7) (T := TX7) (N := 6) hx hb (lay_X7 hk.2.1 args) (fun _ h => h) hown hk.1 hP q0 he rfl 2 (by decide) (fl_X5_91 hk.2.1 args) (fun _ h9 => h9) hv hdg kk
theorem fl_X5_100 {U : State} (h : tb U) (a : Array Value) : (Cond.fieldLink RX5 100 RX1 (TX1 7).2.1 (TX1 7).2.2.1).before a U = true := h (Cond.fieldLink "AskedRoutes$Post" 100 "AskedRoutes$Known" "waySize" "I") (List.mem_of_getElem? (i := 196) (by decide +kernel)) rfl a
theorem gf_X5_100 {p : Program} {l : Launch} {e : Env} {R : Room} {s : State} {m : MethodId} {args : Array Value} {below : List Frame} {meth : Method} {c : Code} {H : Heap} {locs : List Loc} {cells slots : Nat} {Q : State → Prop} {D : va_G} {cI cZ cK : ClassId} {cc : ByteArray} {pc : Nat} {ls : Array Slot} {rest : List Value} {a : Nat} {fs : List Value} {ws : va_W} {v : Value} (hx : p.tables.exec = Jvm.exec) (hb : c.code = cc) (hown : s.vm.findClass RX5 = some m.cls) (hk : kq D cI cZ cK s) (hP : va_P D vwCl ws H) (q0 : Nat) (he : ws[q0]? = some (a, .inr (1, fs))) (hv : fs[7]? = some v) (hdg : decode cc pc = .ok (.getfield 100, 3)) (kk : W p l e R s m args below meth c H locs cells slots Q (F0 m (pc + 3) ls (v :: rest))) : W p l e R s m args below meth c H locs cells slots Q (F0 m pc ls (.ref a :: rest)) := va_get (C := RX1) (T := TX1) (N := 9) hx hb (lay_X1 hk.2.1 args) (fun _ h => h) hown hk.1 hP q0 he rfl 7 (by decide) (fl_X5_100 hk.2.1 args) (fun _ h9 => h9) hv hdg kk
theorem pf_X5_100 {p : Program} {l : Launch} {e : Env} {R : Room} {s : State} {m : MethodId} {args : Array Value} {below : List Frame} {meth : Method} {c : Code} {H : Heap} {locs : List Loc} {cells slots : Nat} {Q : State → Prop} {D : va_G} {cI cZ cK : ClassId} {cc : ByteArray} {pc : Nat} {ls : Array Slot} {rest : List Value} {a : Nat} {fs : List Value} {A : Nat → Prop} {H0 : Heap} {ws ws' : va_W} {x : Int32} (hx : p.tables.exec = Jvm.exec) (hb : c.code = cc) (hown : s.vm.findClass RX5 = some m.cls) (hk : kq D cI cZ cK s) (w : wd D A H0 H locs ws) (q0 : Nat) (he : ws[q0]? = some (a, .inr (1, fs))) (hl : 7 < fs.length) (hs : ws.set q0 (a, .inr (1, fs.set 7 (.int x))) = ws') (hdg : decode cc pc = .ok (.putfield 100, 3)) (kk : ∀ (H1 : Heap) (locs1 : List Loc), wd D A H0 H1 locs1 ws' → W p l e R s m args below meth c H1 locs1 cells slots Q (F0 m (pc + 3) ls rest)) : W p l e R s m args below meth c H locs cells slots Q (F0 m pc ls (.int x :: .ref a :: rest)) := va_put (ty := .int) (C := RX1) (T := TX1) (N := 9) hx hb (lay_X1 hk.2.1 args) (fun _ h => h) tyX1 tyX1_ok nmX1 hown hk.1 w.1 w.2.1 w.2.2 q0 he rfl 7 (by decide) (fl_X5_100 hk.2.1 args) (fun _ h9 => h9) rfl (by decide +kernel) (vp_nar_int x) rfl hl hdg (fun H1 locs1 h1 h2 h3 => kk H1 locs1 ⟨by rw [← hs]; exact h1, by rw [← hs]; exact h2, h3⟩)
theorem fl_X5_118 {U : State} (h : tb U) (a : Array Value) : (Cond.fieldLink RX5 118 RX7 (TX7 4).2.1 (TX7 4).2.2.1).before a U = true := h (Cond.fieldLink "AskedRoutes$Post" 118 "AskedRoutes$Rules" "life" "I") (List.mem_of_getElem? (i := 102) (by decide +kernel)) rfl a
theorem gf_X5_118 {p : Program} {l : Launch} {e : Env} {R : Room} {s : State} {m : MethodId} {args : Array Value} {below : List Frame} {meth : Method} {c : Code} {H : Heap} {locs : List Loc} {cells slots : Nat} {Q : State → Prop} {D : va_G} {cI cZ cK : ClassId} {cc : ByteArray} {pc : Nat} {ls : Array Slot} {rest : List Value} {a : Nat} {fs : List Value} {ws : va_W} {v : Value} (hx : p.tables.exec = Jvm.exec) (hb : c.code = cc) (hown : s.vm.findClass RX5 = some m.cls) (hk : kq D cI cZ cK s) (hP : va_P D vwCl ws H) (q0 : Nat) (he : ws[q0]? = some (a, .inr (7, fs))) (hv : fs[4]? = some v) (hdg : decode cc pc = .ok (.getfield 118, 3)) (kk : W p l e R s m args below meth c H locs cells slots Q (F0 m (pc + 3) ls (v :: rest))) : W p l e R s m args below meth c H locs cells slots Q (F0 m pc ls (.ref a :: rest)) := va_get (C := RX7) (T := TX7) (N := 6) hx hb (lay_X7 hk.2.1 args) (fun _ h => h) hown hk.1 hP q0 he rfl 4 (by decide) (fl_X5_118 hk.2.1 args) (fun _ h9 => h9) hv hdg kk
theorem fl_X6_12 {U : State} (h : tb U) (a : Array Value) : (Cond.fieldLink RX6 12 RX6 (TX6 1).2.1 (TX6 1).2.2.1).before a U = true := h (Cond.fieldLink "AskedRoutes$Reader" 12 "AskedRoutes$Reader" "rules" "LAskedRoutes$Rules;") (List.mem_of_getElem? (i := 139) (by decide +kernel)) rfl a
theorem gf_X6_12 {p : Program} {l : Launch} {e : Env} {R : Room} {s : State} {m : MethodId} {args : Array Value} {below : List Frame} {meth : Method} {c : Code} {H : Heap} {locs : List Loc} {cells slots : Nat} {Q : State → Prop} {D : va_G} {cI cZ cK : ClassId} {cc : ByteArray} {pc : Nat} {ls : Array Slot} {rest : List Value} {a : Nat} {fs : List Value} {ws : va_W} {v : Value} (hx : p.tables.exec = Jvm.exec) (hb : c.code = cc) (hown : s.vm.findClass RX6 = some m.cls) (hk : kq D cI cZ cK s) (hP : va_P D vwCl ws H) (q0 : Nat) (he : ws[q0]? = some (a, .inr (6, fs))) (hv : fs[1]? = some v) (hdg : decode cc pc = .ok (.getfield 12, 3)) (kk : W p l e R s m args below meth c H locs cells slots Q (F0 m (pc + 3) ls (v :: rest))) : W p l e R s m args below meth c H locs cells slots Q (F0 m pc ls (.ref a :: rest)) := va_get (C := RX6) (T := TX6) (N := 8) hx hb (lay_X6 hk.2.1 args) (fun _ h => h) hown hk.1 hP q0 he rfl 1 (by decide) (fl_X6_12 hk.2.1 args) (fun _ h9 => h9) hv hdg kk
theorem fl_X6_21 {U : State} (h : tb U) (a : Array Value) : (Cond.fieldLink RX6 21 RX6 (TX6 2).2.1 (TX6 2).2.2.1).before a U = true := h (Cond.fieldLink "AskedRoutes$Reader" 21 "AskedRoutes$Reader" "links" "LAskedRoutes$Links;") (List.mem_of_getElem? (i := 141) (by decide +kernel)) rfl a
theorem gf_X6_21 {p : Program} {l : Launch} {e : Env} {R : Room} {s : State} {m : MethodId} {args : Array Value} {below : List Frame} {meth : Method} {c : Code} {H : Heap} {locs : List Loc} {cells slots : Nat} {Q : State → Prop} {D : va_G} {cI cZ cK : ClassId} {cc : ByteArray} {pc : Nat} {ls : Array Slot} {rest : List Value} {a : Nat} {fs : List Value} {ws : va_W} {v : Value} (hx : p.tables.exec = Jvm.exec) (hb : c.code = cc) (hown : s.vm.findClass RX6 = some m.cls) (hk : kq D cI cZ cK s) (hP : va_P D vwCl ws H) (q0 : Nat) (he : ws[q0]? = some (a, .inr (6, fs))) (hv : fs[2]? = some v) (hdg : decode cc pc = .ok (.getfield 21, 3)) (kk : W p l e R s m args below meth c H locs cells slots Q (F0 m (pc + 3) ls (v :: rest))) : W p l e R s m args below meth c H locs cells slots Q (F0 m pc ls (.ref a :: rest)) := va_get (C := RX6) (T := TX6) (N := 8) hx hb (lay_X6 hk.2.1 args) (fun _ h => h) hown hk.1 hP q0 he rfl 2 (by decide) (fl_X6_21 hk.2.1 args) (fun _ h9 => h9) hv hdg kk
theorem fl_X6_25 {U : State} (h : tb U) (a : Array Value) : (Cond.fieldLink RX6 25 RX6 (TX6 0).2.1 (TX6 0).2.2.1).before a U = true := h (Cond.fieldLink "AskedRoutes$Reader" 25 "AskedRoutes$Reader" "text" "LAskedRoutes$Text;") (List.mem_of_getElem? (i := 138) (by decide +kernel)) rfl a
theorem gf_X6_25 {p : Program} {l : Launch} {e : Env} {R : Room} {s : State} {m : MethodId} {args : Array Value} {below : List Frame} {meth : Method} {c : Code} {H : Heap} {locs : List Loc} {cells slots : Nat} {Q : State → Prop} {D : va_G} {cI cZ cK : ClassId} {cc : ByteArray} {pc : Nat} {ls : Array Slot} {rest : List Value} {a : Nat} {fs : List Value} {ws : va_W} {v : Value} (hx : p.tables.exec = Jvm.exec) (hb : c.code = cc) (hown : s.vm.findClass RX6 = some m.cls) (hk : kq D cI cZ cK s) (hP : va_P D vwCl ws H) (q0 : Nat) (he : ws[q0]? = some (a, .inr (6, fs))) (hv : fs[0]? = some v) (hdg : decode cc pc = .ok (.getfield 25, 3)) (kk : W p l e R s m args below meth c H locs cells slots Q (F0 m (pc + 3) ls (v :: rest))) : W p l e R s m args below meth c H locs cells slots Q (F0 m pc ls (.ref a :: rest)) := va_get (C := RX6) (T := TX6) (N := 8) hx hb (lay_X6 hk.2.1 args) (fun _ h => h) hown hk.1 hP q0 he rfl 0 (by decide) (fl_X6_25 hk.2.1 args) (fun _ h9 => h9) hv hdg kk
theorem fl_X6_33 {U : State} (h : tb U) (a : Array Value) : (Cond.fieldLink RX6 33 RX6 (TX6 3).2.1 (TX6 3).2.2.1).before a U = true := h (Cond.fieldLink "AskedRoutes$Reader" 33 "AskedRoutes$Reader" "items" "I") (List.mem_of_getElem? (i := 143) (by decide +kernel)) rfl a
theorem gf_X6_33 {p : Program} {l : Launch} {e : Env} {R : Room} {s : State} {m : MethodId} {args : Array Value} {below : List Frame} {meth : Method} {c : Code} {H : Heap} {locs : List Loc} {cells slots : Nat} {Q : State → Prop} {D : va_G} {cI cZ cK : ClassId} {cc : ByteArray} {pc : Nat} {ls : Array Slot} {rest : List Value} {a : Nat} {fs : List Value} {ws : va_W} {v : Value} (hx : p.tables.exec = Jvm.exec) (hb : c.code = cc) (hown : s.vm.findClass RX6 = some m.cls) (hk : kq D cI cZ cK s) (hP : va_P D vwCl ws H) (q0 : Nat) (he : ws[q0]? = some (a, .inr (6, fs))) (hv : fs[3]? = some v) (hdg : decode cc pc = .ok (.getfield 33, 3)) (kk : W p l e R s m args below meth c H locs cells slots Q (F0 m (pc + 3) ls (v :: rest))) : W p l e R s m args below meth c H locs cells slots Q (F0 m pc ls (.ref a :: rest)) := va_get (C := RX6) (T := TX6) (N := 8) hx hb (lay_X6 hk.2.1 args) (fun _ h => h) hown hk.1 hP q0 he rfl 3 (by decide) (fl_X6_33 hk.2.1 args) (fun _ h9 => h9) hv hdg kk
theorem pf_X6_33 {p : Program} {l : Launch} {e : Env} {R : Room} {s : State} {m : MethodId} {args : Array Value} {below : List Frame} {meth : Method} {c : Code} {H : Heap} {locs : List Loc} {cells slots : Nat} {Q : State → Prop} {D : va_G} {cI cZ cK : ClassId} {cc : ByteArray} {pc : Nat} {ls : Array Slot} {rest : List Value} {a : Nat} {fs : List Value} {A : Nat → Prop} {H0 : Heap} {ws ws' : va_W} {x : Int32} (hx : p.tables.exec = Jvm.exec) (hb : c.code = cc) (hown : s.vm.findClass RX6 = some m.cls) (hk : kq D cI cZ cK s) (w : wd D A H0 H locs ws) (q0 : Nat) (he : ws[q0]? = some (a, .inr (6, fs))) (hl : 3 < fs.length) (hs : ws.set q0 (a, .inr (6, fs.set 3 (.int x))) = ws') (hdg : decode cc pc = .ok (.putfield 33, 3)) (kk : ∀ (H1 : Heap) (locs1 : List Loc), wd D A H0 H1 locs1 ws' → W p l e R s m args below meth c H1 locs1 cells slots Q (F0 m (pc + 3) ls rest)) : W p l e R s m args below meth c H locs cells slots Q (F0 m pc ls (.int x :: .ref a :: rest)) := va_put (ty := .int) (C := RX6) (T := TX6) (N := 8) hx hb (lay_X6 hk.2.1 args) (fun _ h => h) tyX6 tyX6_ok nmX6 hown hk.1 w.1 w.2.1 w.2.2 q0 he rfl 3 (by decide) (fl_X6_33 hk.2.1 args) (fun _ h9 => h9) rfl (by decide +kernel) (vp_nar_int x) rfl hl hdg (fun H1 locs1 h1 h2 h3 => kk H1 locs1 ⟨by rw [← hs]; exact h1, by rw [← hs]; exact h2, h3⟩)
theorem fl_X6_37 {U : State} (h : tb U) (a : Array Value) : (Cond.fieldLink RX6 37 RX6 (TX6 7).2.1 (TX6 7).2.2.1).before a U = true := h (Cond.fieldLink "AskedRoutes$Reader" 37 "AskedRoutes$Reader" "next" "I") (List.mem_of_getElem? (i := 148) (by decide +kernel)) rfl a
theorem gf_X6_37 {p : Program} {l : Launch} {e : Env} {R : Room} {s : State} {m : MethodId} {args : Array Value} {below : List Frame} {meth : Method} {c : Code} {H : Heap} {locs : List Loc} {cells slots : Nat} {Q : State → Prop} {D : va_G} {cI cZ cK : ClassId} {cc : ByteArray} {pc : Nat} {ls : Array Slot} {rest : List Value} {a : Nat} {fs : List Value} {ws : va_W} {v : Value} (hx : p.tables.exec = Jvm.exec) (hb : c.code = cc) (hown : s.vm.findClass RX6 = some m.cls) (hk : kq D cI cZ cK s) (hP : va_P D vwCl ws H) (q0 : Nat) (he : ws[q0]? = some (a, .inr (6, fs))) (hv : fs[7]? = some v) (hdg : decode cc pc = .ok (.getfield 37, 3)) (kk : W p l e R s m args below meth c H locs cells slots Q (F0 m (pc + 3) ls (v :: rest))) : W p l e R s m args below meth c H locs cells slots Q (F0 m pc ls (.ref a :: rest)) := va_get (C := RX6) (T := TX6) (N := 8) hx hb (lay_X6 hk.2.1 args) (fun _ h => h) hown hk.1 hP q0 he rfl 7 (by decide) (fl_X6_37 hk.2.1 args) (fun _ h9 => h9) hv hdg kk
theorem pf_X6_37 {p : Program} {l : Launch} {e : Env} {R : Room} {s : State} {m : MethodId} {args : Array Value} {below : List Frame} {meth : Method} {c : Code} {H : Heap} {locs : List Loc} {cells slots : Nat} {Q : State → Prop} {D : va_G} {cI cZ cK : ClassId} {cc : ByteArray} {pc : Nat} {ls : Array Slot} {rest : List Value} {a : Nat} {fs : List Value} {A : Nat → Prop} {H0 : Heap} {ws ws' : va_W} {x : Int32} (hx : p.tables.exec = Jvm.exec) (hb : c.code = cc) (hown : s.vm.findClass RX6 = some m.cls) (hk : kq D cI cZ cK s) (w : wd D A H0 H locs ws) (q0 : Nat) (he : ws[q0]? = some (a, .inr (6, fs))) (hl : 7 < fs.length) (hs : ws.set q0 (a, .inr (6, fs.set 7 (.int x))) = ws') (hdg : decode cc pc = .ok (.putfield 37, 3)) (kk : ∀ (H1 : Heap) (locs1 : List Loc), wd D A H0 H1 locs1 ws' → W p l e R s m args below meth c H1 locs1 cells slots Q (F0 m (pc + 3) ls rest)) : W p l e R s m args below meth c H locs cells slots Q (F0 m pc ls (.int x :: .ref a :: rest)) := va_put (ty := .int) (C := RX6) (T := TX6) (N := 8) hx hb (lay_X6 hk.2.1 args) (fun _ h => h) tyX6 tyX6_ok nmX6 hown hk.1 w.1 w.2.1 w.2.2 q0 he rfl 7 (by decide) (fl_X6_37 hk.2.1 args) (fun _ h9 => h9) rfl (by decide +kernel) (vp_nar_int x) rfl hl hdg (fun H1 locs1 h1 h2 h3 => kk H1 locs1 ⟨by rw [← hs]; exact h1, by rw [← hs]; exact h2, h3⟩)
theorem fl_X6_43 {U : State} (h : tb U) (a : Array Value) : (Cond.fieldLink RX6 43 RX6 (TX6 4).2.1 (TX6 4).2.2.1).before a U = true := h (Cond.fieldLink "AskedRoutes$Reader" 43 "AskedRoutes$Reader" "kind" "I") (List.mem_of_getElem? (i := 145) (by decide +kernel)) rfl a
theorem gf_X6_43 {p : Program} {l : Launch} {e : Env} {R : Room} {s : State} {m : MethodId} {args : Array Value} {below : List Frame} {meth : Method} {c : Code} {H : Heap} {locs : List Loc} {cells slots : Nat} {Q : State → Prop} {D : va_G} {cI cZ cK : ClassId} {cc : ByteArray} {pc : Nat} {ls : Array Slot} {rest : List Value} {a : Nat} {fs : List Value} {ws : va_W} {v : Value} (hx : p.tables.exec = Jvm.exec) (hb : c.code = cc) (hown : s.vm.findClass RX6 = some m.cls) (hk : kq D cI cZ cK s) (hP : va_P D vwCl ws H) (q0 : Nat) (he : ws[q0]? = some (a, .inr (6, fs))) (hv : fs[4]? = some v) (hdg : decode cc pc = .ok (.getfield 43, 3)) (kk : W p l e R s m args below meth c H locs cells slots Q (F0 m (pc + 3) ls (v :: rest))) : W p l e R s m args below meth c H locs cells slots Q (F0 m pc ls (.ref a :: rest)) := va_get (C := RX6) (T := TX6) (N := 8) hx hb (lay_X6 hk.2.1 args) (fun _ h => h) hown hk.1 hP q0 he rfl 4 (by decide) (fl_X6_43 hk.2.1 args) (fun _ h9 => h9) hv hdg kk
theorem pf_X6_43 {p : Program} {l : Launch} {e : Env} {R : Room} {s : State} {m : MethodId} {args : Array Value} {below : List Frame} {meth : Method} {c : Code} {H : Heap} {locs : List Loc} {cells slots : Nat} {Q : State → Prop} {D : va_G} {cI cZ cK : ClassId} {cc : ByteArray} {pc : Nat} {ls : Array Slot} {rest : List Value} {a : Nat} {fs : List Value} {A : Nat → Prop} {H0 : Heap} {ws ws' : va_W} {x : Int32} (hx : p.tables.exec = Jvm.exec) (hb : c.code = cc) (hown : s.vm.findClass RX6 = some m.cls) (hk : kq D cI cZ cK s) (w : wd D A H0 H locs ws) (q0 : Nat) (he : ws[q0]? = some (a, .inr (6, fs))) (hl : 4 < fs.length) (hs : ws.set q0 (a, .inr (6, fs.set 4 (.int x))) = ws') (hdg : decode cc pc = .ok (.putfield 43, 3)) (kk : ∀ (H1 : Heap) (locs1 : List Loc), wd D A H0 H1 locs1 ws' → W p l e R s m args below meth c H1 locs1 cells slots Q (F0 m (pc + 3) ls rest)) : W p l e R s m args below meth c H locs cells slots Q (F0 m pc ls (.int x :: .ref a :: rest)) := va_put (ty := .int) (C := RX6) (T := TX6) (N := 8) hx hb (lay_X6 hk.2.1 args) (fun _ h => h) tyX6 tyX6_ok nmX6 hown hk.1 w.1 w.2.1 w.2.2 q0 he rfl 4 (by decide) (fl_X6_43 hk.2.1 args) (fun _ h9 => h9) rfl (by decide +kernel) (vp_nar_int x) rfl hl hdg (fun H1 locs1 h1 h2 h3 => kk H1 locs1 ⟨by rw [← hs]; exact h1, by rw [← hs]; exact h2, h3⟩)
theorem fl_X6_53 {U : State} (h : tb U) (a : Array Value) : (Cond.fieldLink RX6 53 RX6 (TX6 6).2.1 (TX6 6).2.2.1).before a U = true := h (Cond.fieldLink "AskedRoutes$Reader" 53 "AskedRoutes$Reader" "place" "I") (List.mem_of_getElem? (i := 147) (by decide +kernel)) rfl a
theorem gf_X6_53 {p : Program} {l : Launch} {e : Env} {R : Room} {s : State} {m : MethodId} {args : Array Value} {below : List Frame} {meth : Method} {c : Code} {H : Heap} {locs : List Loc} {cells slots : Nat} {Q : State → Prop} {D : va_G} {cI cZ cK : ClassId} {cc : ByteArray} {pc : Nat} {ls : Array Slot} {rest : List Value} {a : Nat} {fs : List Value} {ws : va_W} {v : Value} (hx : p.tables.exec = Jvm.exec) (hb : c.code = cc) (hown : s.vm.findClass RX6 = some m.cls) (hk : kq D cI cZ cK s) (hP : va_P D vwCl ws H) (q0 : Nat) (he : ws[q0]? = some (a, .inr (6, fs))) (hv : fs[6]? = some v) (hdg : decode cc pc = .ok (.getfield 53, 3)) (kk : W p l e R s m args below meth c H locs cells slots Q (F0 m (pc + 3) ls (v :: rest))) : W p l e R s m args below meth c H locs cells slots Q (F0 m pc ls (.ref a :: rest)) := va_get (C := RX6) (T := TX6) (N := 8) hx hb (lay_X6 hk.2.1 args) (fun _ h => h) hown hk.1 hP q0 he rfl 6 (by decide) (fl_X6_53 hk.2.1 args) (fun _ h9 => h9) hv hdg kk
theorem pf_X6_53 {p : Program} {l : Launch} {e : Env} {R : Room} {s : State} {m : MethodId} {args : Array Value} {below : List Frame} {meth : Method} {c : Code} {H : Heap} {locs : List Loc} {cells slots : Nat} {Q : State → Prop} {D : va_G} {cI cZ cK : ClassId} {cc : ByteArray} {pc : Nat} {ls : Array Slot} {rest : List Value} {a : Nat} {fs : List Value} {A : Nat → Prop} {H0 : Heap} {ws ws' : va_W} {x : Int32} (hx : p.tables.exec = Jvm.exec) (hb : c.code = cc) (hown : s.vm.findClass RX6 = some m.cls) (hk : kq D cI cZ cK s) (w : wd D A H0 H locs ws) (q0 : Nat) (he : ws[q0]? = some (a, .inr (6, fs))) (hl : 6 < fs.length) (hs : ws.set q0 (a, .inr (6, fs.set 6 (.int x))) = ws') (hdg : decode cc pc = .ok (.putfield 53, 3)) (kk : ∀ (H1 : Heap) (locs1 : List Loc), wd D A H0 H1 locs1 ws' → W p l e R s m args below meth c H1 locs1 cells slots Q (F0 m (pc + 3) ls rest)) : W p l e R s m args below meth c H locs cells slots Q (F0 m pc ls (.int x :: .ref a :: rest)) := va_put (ty := .int) (C := RX6) (T := TX6) (N := 8) hx hb (lay_X6 hk.2.1 args) (fun _ h => h) tyX6 tyX6_ok nmX6 hown hk.1 w.1 w.2.1 w.2.2 q0 he rfl 6 (by decide) (fl_X6_53 hk.2.1 args) (fun _ h9 => h9) rfl (by decide +kernel) (vp_nar_int x) rfl hl hdg (fun H1 locs1 h1 h2 h3 => kk H1 locs1 ⟨by rw [← hs]; exact h1, by rw [← hs]; exact h2, h3⟩)
theorem fl_X6_59 {U : State} (h : tb U) (a : Array Value) : (Cond.fieldLink RX6 59 RX3 (TX3 1).2.1 (TX3 1).2.2.1).before a U = true := h (Cond.fieldLink "AskedRoutes$Reader" 59 "AskedRoutes$Links" "total" "I") (List.mem_of_getElem? (i := 131) (by decide +kernel)) rfl a
theorem gf_X6_59 {p : Program} {l : Launch} {e : Env} {R : Room} {s : State} {m : MethodId} {args : Array Value} {below : List Frame} {meth : Method} {c : Code} {H : Heap} {locs : List Loc} {cells slots : Nat} {Q : State → Prop} {D : va_G} {cI cZ cK : ClassId} {cc : ByteArray} {pc : Nat} {ls : Array Slot} {rest : List Value} {a : Nat} {fs : List Value} {ws : va_W} {v : Value} (hx : p.tables.exec = Jvm.exec) (hb : c.code = cc) (hown : s.vm.findClass RX6 = some m.cls) (hk : kq D cI cZ cK s) (hP : va_P D vwCl ws H) (q0 : Nat) (he : ws[q0]? = some (a, .inr (3, fs))) (hv : fs[1]? = some v) (hdg : decode cc pc = .ok (.getfield 59, 3)) (kk : W p l e R s m args below meth c H locs cells slots Q (F0 m (pc + 3) ls (v :: rest))) : W p l e R s m args below meth c H locs cells slots Q (F0 m pc ls (.ref a :: rest)) := va_get (C := RX3) (T := TX3) (N := 2) hx hb (lay_X3 hk.2.1 args) (fun _ h => h) hown hk.1 hP q0 he rfl 1 (by decide) (fl_X6_59 hk.2.1 args) (fun _ h9 => h9) hv hdg kk
theorem fl_X6_73 {U : State} (h : tb U) (a : Array Value) : (Cond.fieldLink RX6 73 RX6 (TX6 5).2.1 (TX6 5).2.2.1).before a U = true := h (Cond.fieldLink "AskedRoutes$Reader" 73 "AskedRoutes$Reader" "number" "I") (List.mem_of_getElem? (i := 146) (by decide +kernel)) rfl a
theorem gf_X6_73 {p : Program} {l : Launch} {e : Env} {R : Room} {s : State} {m : MethodId} {args : Array Value} {below : List Frame} {meth : Method} {c : Code} {H : Heap} {locs : List Loc} {cells slots : Nat} {Q : State → Prop} {D : va_G} {cI cZ cK : ClassId} {cc : ByteArray} {pc : Nat} {ls : Array Slot} {rest : List Value} {a : Nat} {fs : List Value} {ws : va_W} {v : Value} (hx : p.tables.exec = Jvm.exec) (hb : c.code = cc) (hown : s.vm.findClass RX6 = some m.cls) (hk : kq D cI cZ cK s) (hP : va_P D vwCl ws H) (q0 : Nat) (he : ws[q0]? = some (a, .inr (6, fs))) (hv : fs[5]? = some v) (hdg : decode cc pc = .ok (.getfield 73, 3)) (kk : W p l e R s m args below meth c H locs cells slots Q (F0 m (pc + 3) ls (v :: rest))) : W p l e R s m args below meth c H locs cells slots Q (F0 m pc ls (.ref a :: rest)) := va_get (C := RX6) (T := TX6) (N := 8) hx hb (lay_X6 hk.2.1 args) (fun _ h => h) hown hk.1 hP q0 he rfl 5 (by decide) (fl_X6_73 hk.2.1 args) (fun _ h9 => h9) hv hdg kk
theorem pf_X6_73 {p : Program} {l : Launch} {e : Env} {R : Room} {s : State} {m : MethodId} {args : Array Value} {below : List Frame} {meth : Method} {c : Code} {H : Heap} {locs : List Loc} {cells slots : Nat} {Q : State → Prop} {D : va_G} {cI cZ cK : ClassId} {cc : ByteArray} {pc : Nat} {ls : Array Slot} {rest : List Value} {a : Nat} {fs : List Value} {A : Nat → Prop} {H0 : Heap} {ws ws' : va_W} {x : Int32} (hx : p.tables.exec = Jvm.exec) (hb : c.code = cc) (hown : s.vm.findClass RX6 = some m.cls) (hk : kq D cI cZ cK s) (w : wd D A H0 H locs ws) (q0 : Nat) (he : ws[q0]? = some (a, .inr (6, fs))) (hl : 5 < fs.length) (hs : ws.set q0 (a, .inr (6, fs.set 5 (.int x))) = ws') (hdg : decode cc pc = .ok (.putfield 73, 3)) (kk : ∀ (H1 : Heap) (locs1 : List Loc), wd D A H0 H1 locs1 ws' → W p l e R s m args below meth c H1 locs1 cells slots Q (F0 m (pc + 3) ls rest)) : W p l e R s m args below meth c H locs cells slots Q (F0 m pc ls (.int x :: .ref a :: rest)) := va_put (ty := .int) (C := RX6) (T := TX6) (N := 8) hx hb (lay_X6 hk.2.1 args) (fun _ h => h) tyX6 tyX6_ok nmX6 hown hk.1 w.1 w.2.1 w.2.2 q0 he rfl 5 (by decide) (fl_X6_73 hk.2.1 args) (fun _ h9 => h9) rfl (by decide +kernel) (vp_nar_int x) rfl hl hdg (fun H1 locs1 h1 h2 h3 => kk H1 locs1 ⟨by rw [← hs]; exact h1, by rw [← hs]; exact h2, h3⟩)
theorem fl_X6_76 {U : State} (h : tb U) (a : Array Value) : (Cond.fieldLink RX6 76 RX7 (TX7 0).2.1 (TX7 0).2.2.1).before a U = true := h (Cond.fieldLink "AskedRoutes$Reader" 76 "AskedRoutes$Rules" "nodes" "I") (List.mem_of_getElem? (i := 86) (by decide +kernel)) rfl a
theorem gf_X6_76 {p : Program} {l : Launch} {e : Env} {R : Room} {s : State} {m : MethodId} {args : Array Value} {below : List Frame} {meth : Method} {c : Code} {H : Heap} {locs : List Loc} {cells slots : Nat} {Q : State → Prop} {D : va_G} {cI cZ cK : ClassId} {cc : ByteArray} {pc : Nat} {ls : Array Slot} {rest : List Value} {a : Nat} {fs : List Value} {ws : va_W} {v : Value} (hx : p.tables.exec = Jvm.exec) (hb : c.code = cc) (hown : s.vm.findClass RX6 = some m.cls) (hk : kq D cI cZ cK s) (hP : va_P D vwCl ws H) (q0 : Nat) (he : ws[q0]? = some (a, .inr (7, fs))) (hv : fs[0]? = some v) (hdg : decode cc pc = .ok (.getfield 76, 3)) (kk : W p l e R s m args below meth c H locs cells slots Q (F0 m (pc + 3) ls (v :: rest))) : W p l e R s m args below meth c H locs cells slots Q (F0 m pc ls (.ref a :: rest)) := va_get (C := RX7) (T := TX7) (N := 6) hx hb (lay_X7 hk.2.1 args) (fun _ h => h) hown hk.1 hP q0 he rfl 0 (by decide) (fl_X6_76 hk.2.1 args) (fun _ h9 => h9) hv hdg kk
theorem pf_X6_76 {p : Program} {l : Launch} {e : Env} {R : Room} {s : State} {m : MethodId} {args : Array Value} {below : List Frame} {meth : Method} {c : Code} {H : Heap} {locs : List Loc} {cells slots : Nat} {Q : State → Prop} {D : va_G} {cI cZ cK : ClassId} {cc : ByteArray} {pc : Nat} {ls : Array Slot} {rest : List Value} {a : Nat} {fs : List Value} {A : Nat → Prop} {H0 : Heap} {ws ws' : va_W} {x : Int32} (hx : p.tables.exec = Jvm.exec) (hb : c.code = cc) (hown : s.vm.findClass RX6 = some m.cls) (hk : kq D cI cZ cK s) (w : wd D A H0 H locs ws) (q0 : Nat) (he : ws[q0]? = some (a, .inr (7, fs))) (hl : 0 < fs.length) (hs : ws.set q0 (a, .inr (7, fs.set 0 (.int x))) = ws') (hdg : decode cc pc = .ok (.putfield 76, 3)) (kk : ∀ (H1 : Heap) (locs1 : List Loc), wd D A H0 H1 locs1 ws' → W p l e R s m args below meth c H1 locs1 cells slots Q (F0 m (pc + 3) ls rest)) : W p l e R s m args below meth c H locs cells slots Q (F0 m pc ls (.int x :: .ref a :: rest)) := va_put (ty := .int) (C := RX7) (T := TX7) (N := 6) hx hb (lay_X7 hk.2.1 args) (fun _ h => h) tyX7 tyX7_ok nmX7 hown hk.1 w.1 w.2.1 w.2.2 q0 he rfl 0 (by decide) (fl_X6_76 hk.2.1 args) (fun _ h9 => h9) rfl (by decide +kernel) (vp_nar_int x) rfl hl hdg (fun H1 locs1 h1 h2 h3 => kk H1 locs1 ⟨by rw [← hs]; exact h1, by rw [← hs]; exact h2, h3⟩)
theorem fl_X6_94 {U : State} (h : tb U) (a : Array Value) : (Cond.fieldLink RX6 94 RX7 (TX7 1).2.1 (TX7 1).2.2.1).before a U = true := h (Cond.fieldLink "AskedRoutes$Reader" 94 "AskedRoutes$Rules" "every" "I") (List.mem_of_getElem? (i := 90) (by decide +kernel)) rfl a
theorem gf_X6_94 {p : Program} {l : Launch} {e : Env} {R : Room} {s : State} {m : MethodId} {args : Array Value} {below : List Frame} {meth : Method} {c : Code} {H : Heap} {locs : List Loc} {cells slots : Nat} {Q : State → Prop} {D : va_G} {cI cZ cK : ClassId} {cc : ByteArray} {pc : Nat} {ls : Array Slot} {rest : List Value} {a : Nat} {fs : List Value} {ws : va_W} {v : Value} (hx : p.tables.exec = Jvm.exec) (hb : c.code = cc) (hown : s.vm.findClass RX6 = some m.cls) (hk : kq D cI cZ cK s) (hP : va_P D vwCl ws H) (q0 : Nat) (he : ws[q0]? = some (a, .inr (7, fs))) (hv : fs[1]? = some v) (hdg : decode cc pc = .ok (.getfield 94, 3)) (kk : W p l e R s m args below meth c H locs cells slots Q (F0 m (pc + 3) ls (v :: rest))) : W p l e R s m args below meth c H locs cells slots Q (F0 m pc ls (.ref a :: rest)) := va_get (C := RX7) (T := TX7) (N := 6) hx hb (lay_X7 hk.2.1 args) (fun _ h => h) hown hk.1 hP q0 he rfl 1 (by decide) (fl_X6_94 hk.2.1 args) (fun _ h9 => h9) hv hdg kk
theorem pf_X6_94 {p : Program} {l : Launch} {e : Env} {R : Room} {s : State} {m : MethodId} {args : Array Value} {below : List Frame} {meth : Method} {c : Code} {H : Heap} {locs : List Loc} {cells slots : Nat} {Q : State → Prop} {D : va_G} {cI cZ cK : ClassId} {cc : ByteArray} {pc : Nat} {ls : Array Slot} {rest : List Value} {a : Nat} {fs : List Value} {A : Nat → Prop} {H0 : Heap} {ws ws' : va_W} {x : Int32} (hx : p.tables.exec = Jvm.exec) (hb : c.code = cc) (hown : s.vm.findClass RX6 = some m.cls) (hk : kq D cI cZ cK s) (w : wd D A H0 H locs ws) (q0 : Nat) (he : ws[q0]? = some (a, .inr (7, fs))) (hl : 1 < fs.length) (hs : ws.set q0 (a, .inr (7, fs.set 1 (.int x))) = ws') (hdg : decode cc pc = .ok (.putfield 94, 3)) (kk : ∀ (H1 : Heap) (locs1 : List Loc), wd D A H0 H1 locs1 ws' → W p l e R s m args below meth c H1 locs1 cells slots Q (F0 m (pc + 3) ls rest)) : W p l e R s m args below meth c H locs cells slots Q (F0 m pc ls (.int x :: .ref a :: rest)) := va_put (ty := .int) (C := RX7) (T := TX7) (N := 6) hx hb (lay_X7 hk.2.1 args) (fun _ h => h) tyX7 tyX7_ok nmX7 hown hk.1 w.1 w.2.1 w.2.2 q0 he rfl 1 (by decide) (fl_X6_94 hk.2.1 args) (fun _ h9 => h9) rfl (by decide +kernel) (vp_nar_int x) rfl hl hdg (fun H1 locs1 h1 h2 h3 => kk H1 locs1 ⟨by rw [← hs]; exact h1, by rw [← hs]; exact h2, h3⟩)
theorem fl_X6_97 {U : State} (h : tb U) (a : Array Value) : (Cond.fieldLink RX6 97 RX7 (TX7 2).2.1 (TX7 2).2.2.1).before a U = true := h (Cond.fieldLink "AskedRoutes$Reader" 97 "AskedRoutes$Rules" "halves" "I") (List.mem_of_getElem? (i := 93) (by decide +kernel)) rfl a
theorem gf_X6_97 {p : Program} {l : Launch} {e : Env} {R : Room} {s : State} {m : MethodId} {args : Array Value} {below : List Frame} {meth : Method} {c : Code} {H : Heap} {locs : List Loc} {cells slots : Nat} {Q : State → Prop} {D : va_G} {cI cZ cK : ClassId} {cc : ByteArray} {pc : Nat} {ls : Array Slot} {rest : List Value} {a : Nat} {fs : List Value} {ws : va_W} {v : Value} (hx : p.tables.exec = Jvm.exec) (hb : c.code = cc) (hown : s.vm.findClass RX6 = some m.cls) (hk : kq D cI cZ cK s) (hP : va_P D vwCl ws H) (q0 : Nat) (he : ws[q0]? = some (a, .inr (7, fs))) (hv : fs[2]? = some v) (hdg : decode cc pc = .ok (.getfield 97, 3)) (kk : W p l e R s m args below meth c H locs cells slots Q (F0 m (pc + 3) ls (v :: rest))) : W p l e R s m args below meth c H locs cells slots Q (F0 m pc ls (.ref a :: rest)) := va_get (C := RX7) (T := TX7) (N := 6) hx hb (lay_X7 hk.2.1 args) (fun _ h => h) hown hk.1 hP q0 he rfl 2 (by decide) (fl_X6_97 hk.2.1 args) (fun _ h9 => h9) hv hdg kk
theorem pf_X6_97 {p : Program} {l : Launch} {e : Env} {R : Room} {s : State} {m : MethodId} {args : Array Value} {below : List Frame} {meth : Method} {c : Code} {H : Heap} {locs : List Loc} {cells slots : Nat} {Q : State → Prop} {D : va_G} {cI cZ cK : ClassId} {cc : ByteArray} {pc : Nat} {ls : Array Slot} {rest : List Value} {a : Nat} {fs : List Value} {A : Nat → Prop} {H0 : Heap} {ws ws' : va_W} {x : Int32} (hx : p.tables.exec = Jvm.exec) (hb : c.code = cc) (hown : s.vm.findClass RX6 = some m.cls) (hk : kq D cI cZ cK s) (w : wd D A H0 H locs ws) (q0 : Nat) (he : ws[q0]? = some (a, .inr (7, fs))) (hl : 2 < fs.length) (hs : ws.set q0 (a, .inr (7, fs.set 2 (.int x))) = ws') (hdg : decode cc pc = .ok (.putfield 97, 3)) (kk : ∀ (H1 : Heap) (locs1 : List Loc), wd D A H0 H1 locs1 ws' → W p l e R s m args below meth c H1 locs1 cells slots Q (F0 m (pc + 3) ls rest)) : W p l e R s m args below meth c H locs cells slots Q (F0 m pc ls (.int x :: .ref a :: rest)) := va_put (ty := .int) (C := RX7) (T := TX7) (N := 6) hx hb (lay_X7 hk.2.1 args) (fun _ h => h) tyX7 tyX7_ok nmX7 hown hk.1 w.1 w.2.1 w.2.2 q0 he rfl 2 (by decide) (fl_X6_97 hk.2.1 args) (fun _ h9 => h9) rfl (by decide +kernel) (vp_nar_int x) rfl hl hdg (fun H1 locs1 h1 h2 h3 => kk H1 locs1 ⟨by rw [← hs]; exact h1, by rw [← hs]; exact h2, h3⟩)
theorem fl_X6_100 {U : State} (h : tb U) (a : Array Value) : (Cond.fieldLink RX6 100 RX7 (TX7 3).2.1 (TX7 3).2.2.1).before a U = true := h (Cond.fieldLink "AskedRoutes$Reader" 100 "AskedRoutes$Rules" "age" "I") (List.mem_of_getElem? (i := 98) (by decide +kernel)) rfl a
theorem gf_X6_100 {p : Program} {l : Launch} {e : Env} {R : Room} {s : State} {m : MethodId} {args : Array Value} {below : List Frame} {meth : Method} {c : Code} {H : Heap} {locs : List Loc} {cells slots : Nat} {Q : State → Prop} {D : va_G} {cI cZ cK : ClassId} {cc : ByteArray} {pc : Nat} {ls : Array Slot} {rest : List Value} {a : Nat} {fs : List Value} {ws : va_W} {v : Value} (hx : p.tables.exec = Jvm.exec) (hb : c.code = cc) (hown : s.vm.findClass RX6 = some m.cls) (hk : kq D cI cZ cK s) (hP : va_P D vwCl ws H) (q0 : Nat) (he : ws[q0]? = some (a, .inr (7, fs))) (hv : fs[3]? = some v) (hdg : decode cc pc = .ok (.getfield 100, 3)) (kk : W p l e R s m args below meth c H locs cells slots Q (F0 m (pc + 3) ls (v :: rest))) : W p l e R s m args below meth c H locs cells slots Q (F0 m pc ls (.ref a :: rest)) := va_get (C := RX7) (T := TX7) (N := 6) hx hb (lay_X7 hk.2.1 args) (fun _ h => h) hown hk.1 hP q0 he rfl 3 (by decide) (fl_X6_100 hk.2.1 args) (fun _ h9 => h9) hv hdg kk
theorem pf_X6_100 {p : Program} {l : Launch} {e : Env} {R : Room} {s : State} {m : MethodId} {args : Array Value} {below : List Frame} {meth : Method} {c : Code} {H : Heap} {locs : List Loc} {cells slots : Nat} {Q : State → Prop} {D : va_G} {cI cZ cK : ClassId} {cc : ByteArray} {pc : Nat} {ls : Array Slot} {rest : List Value} {a : Nat} {fs : List Value} {A : Nat → Prop} {H0 : Heap} {ws ws' : va_W} {x : Int32} (hx : p.tables.exec = Jvm.exec) (hb : c.code = cc) (hown : s.vm.findClass RX6 = some m.cls) (hk : kq D cI cZ cK s) (w : wd D A H0 H locs ws) (q0 : Nat) (he : ws[q0]? = some (a, .inr (7, fs))) (hl : 3 < fs.length) (hs : ws.set q0 (a, .inr (7, fs.set 3 (.int x))) = ws') (hdg : decode cc pc = .ok (.putfield 100, 3)) (kk : ∀ (H1 : Heap) (locs1 : List Loc), wd D A H0 H1 locs1 ws' → W p l e R s m args below meth c H1 locs1 cells slots Q (F0 m (pc + 3) ls rest)) : W p l e R s m args below meth c H locs cells slots Q (F0 m pc ls (.int x :: .ref a :: rest)) := va_put (ty := .int) (C := RX7) (T := TX7) (N := 6) hx hb (lay_X7 hk.2.1 args) (fun _ h => h) tyX7 tyX7_ok nmX7 hown hk.1 w.1 w.2.1 w.2.2 q0 he rfl 3 (by decide) (fl_X6_100 hk.2.1 args) (fun _ h9 => h9) rfl (by decide +kernel) (vp_nar_int x) rfl hl hdg (fun H1 locs1 h1 h2 h3 => kk H1 locs1 ⟨by rw [← hs]; exact h1, by rw [← hs]; exact h2, h3⟩)
theorem fl_X6_103 {U : State} (h : tb U) (a : Array Value) : (Cond.fieldLink RX6 103 RX7 (TX7 4).2.1 (TX7 4).2.2.1).before a U = true := h (Cond.fieldLink "AskedRoutes$Reader" 103 "AskedRoutes$Rules" "life" "I") (List.mem_of_getElem? (i := 101) (by decide +kernel)) rfl a
theorem gf_X6_103 {p : Program} {l : Launch} {e : Env} {R : Room} {s : State} {m : MethodId} {args : Array Value} {below : List Frame} {meth : Method} {c : Code} {H : Heap} {locs : List Loc} {cells slots : Nat} {Q : State → Prop} {D : va_G} {cI cZ cK : ClassId} {cc : ByteArray} {pc : Nat} {ls : Array Slot} {rest : List Value} {a : Nat} {fs : List Value} {ws : va_W} {v : Value} (hx : p.tables.exec = Jvm.exec) (hb : c.code = cc) (hown : s.vm.findClass RX6 = some m.cls) (hk : kq D cI cZ cK s) (hP : va_P D vwCl ws H) (q0 : Nat) (he : ws[q0]? = some (a, .inr (7, fs))) (hv : fs[4]? = some v) (hdg : decode cc pc = .ok (.getfield 103, 3)) (kk : W p l e R s m args below meth c H locs cells slots Q (F0 m (pc + 3) ls (v :: rest))) : W p l e R s m args below meth c H locs cells slots Q (F0 m pc ls (.ref a :: rest)) := va_get (C := RX7) (T := TX7) (N := 6) hx hb (lay_X7 hk.2.1 args) (fun _ h => h) hown hk.1 hP q0 he rfl 4 (by decide) (fl_X6_103 hk.2.1 args) (fun _ h9 => h9) hv hdg kk
theorem pf_X6_103 {p : Program} {l : Launch} {e : Env} {R : Room} {s : State} {m : MethodId} {args : Array Value} {below : List Frame} {meth : Method} {c : Code} {H : Heap} {locs : List Loc} {cells slots : Nat} {Q : State → Prop} {D : va_G} {cI cZ cK : ClassId} {cc : ByteArray} {pc : Nat} {ls : Array Slot} {rest : List Value} {a : Nat} {fs : List Value} {A : Nat → Prop} {H0 : Heap} {ws ws' : va_W} {x : Int32} (hx : p.tables.exec = Jvm.exec) (hb : c.code = cc) (hown : s.vm.findClass RX6 = some m.cls) (hk : kq D cI cZ cK s) (w : wd D A H0 H locs ws) (q0 : Nat) (he : ws[q0]? = some (a, .inr (7, fs))) (hl : 4 < fs.length) (hs : ws.set q0 (a, .inr (7, fs.set 4 (.int x))) = ws') (hdg : decode cc pc = .ok (.putfield 103, 3)) (kk : ∀ (H1 : Heap) (locs1 : List Loc), wd D A H0 H1 locs1 ws' → W p l e R s m args below meth c H1 locs1 cells slots Q (F0 m (pc + 3) ls rest)) : W p l e R s m args below meth c H locs cells slots Q (F0 m pc ls (.int x :: .ref a :: rest)) := va_put (ty := .int) (C := RX7) (T := TX7) (N := 6) hx hb (lay_X7 hk.2.1 args) (fun _ h => h) tyX7 tyX7_ok nmX7 hown hk.1 w.1 w.2.1 w.2.2 q0 he rfl 4 (by decide) (fl_X6_103 hk.2.1 args) (fun _ h9 => h9) rfl (by decide +kernel) (vp_nar_int x) rfl hl hdg (fun H1 locs1 h1 h2 h3 => kk H1 locs1 ⟨by rw [← hs]; exact h1, by rw [← hs]; exact h2, h3⟩)
theorem fl_X6_106 {U : State} (h : tb U) (a : Array Value) : (Cond.fieldLink RX6 106 RX7 (TX7 5).2.1 (TX7 5).2.2.1).before a U = true := h (Cond.fieldLink "AskedRoutes$Reader" 106 "AskedRoutes$Rules" "first" "I") (List.mem_of_getElem? (i := 106) (by decide +kernel)) rfl a
theorem gf_X6_106 {p : Program} {l : Launch} {e : Env} {R : Room} {s : State} {m : MethodId} {args : Array Value} {below : List Frame} {meth : Method} {c : Code} {H : Heap} {locs : List Loc} {cells slots : Nat} {Q : State → Prop} {D : va_G} {cI cZ cK : ClassId} {cc : ByteArray} {pc : Nat} {ls : Array Slot} {rest : List Value} {a : Nat} {fs : List Value} {ws : va_W} {v : Value} (hx : p.tables.exec = Jvm.exec) (hb : c.code = cc) (hown : s.vm.findClass RX6 = some m.cls) (hk : kq D cI cZ cK s) (hP : va_P D vwCl ws H) (q0 : Nat) (he : ws[q0]? = some (a, .inr (7, fs))) (hv : fs[5]? = some v) (hdg : decode cc pc = .ok (.getfield 106, 3)) (kk : W p l e R s m args below meth c H locs cells slots Q (F0 m (pc + 3) ls (v :: rest))) : W p l e R s m args below meth c H locs cells slots Q (F0 m pc ls (.ref a :: rest)) := va_get (C := RX7) (T := TX7) (N := 6) hx hb (lay_X7 hk.2.1 args) (fun _ h => h) hown hk.1 hP q0 he rfl 5 (by decide) (fl_X6_106 hk.2.1 args) (fun _ h9 => h9) hv hdg kk
theorem pf_X6_106 {p : Program} {l : Launch} {e : Env} {R : Room} {s : State} {m : MethodId} {args : Array Value} {below : List Frame} {meth : Method} {c : Code} {H : Heap} {locs : List Loc} {cells slots : Nat} {Q : State → Prop} {D : va_G} {cI cZ cK : ClassId} {cc : ByteArray} {pc : Nat} {ls : Array Slot} {rest : List Value} {a : Nat} {fs : List Value} {A : Nat → Prop} {H0 : Heap} {ws ws' : va_W} {x : Int32} (hx : p.tables.exec = Jvm.exec) (hb : c.code = cc) (hown : s.vm.findClass RX6 = some m.cls) (hk : kq D cI cZ cK s) (w : wd D A H0 H locs ws) (q0 : Nat) (he : ws[q0]? = some (a, .inr (7, fs))) (hl : 5 < fs.length) (hs : ws.set q0 (a, .inr (7, fs.set 5 (.int x))) = ws') (hdg : decode cc pc = .ok (.putfield 106, 3)) (kk : ∀ (H1 : Heap) (locs1 : List Loc), wd D A H0 H1 locs1 ws' → W p l e R s m args below meth c H1 locs1 cells slots Q (F0 m (pc + 3) ls rest)) : W p l e R s m args below meth c H locs cells slots Q (F0 m pc ls (.int x :: .ref a :: rest)) := va_put (ty := .int) (C := RX7) (T := TX7) (N := 6) hx hb (lay_X7 hk.2.1 args) (fun _ h => h) tyX7 tyX7_ok nmX7 hown hk.1 w.1 w.2.1 w.2.2 q0 he rfl 5 (by decide) (fl_X6_106 hk.2.1 args) (fun _ h9 => h9) rfl (by decide +kernel) (vp_nar_int x) rfl hl hdg (fun H1 locs1 h1 h2 h3 => kk H1 locs1 ⟨by rw [← hs]; exact h1, by rw [← hs]; exact h2, h3⟩)
theorem fl_X6_109 {U : State} (h : tb U) (a : Array Value) : (Cond.fieldLink RX6 109 RX9 (TX9 1).2.1 (TX9 1).2.2.1).before a U = true := h (Cond.fieldLink "AskedRoutes$Reader" 109 "AskedRoutes$Text" "size" "I") (List.mem_of_getElem? (i := 61) (by decide +kernel)) rfl a
theorem gf_X6_109 {p : Program} {l : Launch} {e : Env} {R : Room} {s : State} {m : MethodId} {args : Array Value} {below : List Frame} {meth : Method} {c : Code} {H : Heap} {locs : List Loc} {cells slots : Nat} {Q : State → Prop} {D : va_G} {cI cZ cK : ClassId} {cc : ByteArray} {pc : Nat} {ls : Array Slot} {rest : List Value} {a : Nat} {fs : List Value} {ws : va_W} {v : Value} (hx : p.tables.exec = Jvm.exec) (hb : c.code = cc) (hown : s.vm.findClass RX6 = some m.cls) (hk : kq D cI cZ cK s) (hP : va_P D vwCl ws H) (q0 : Nat) (he : ws[q0]? = some (a, .inr (9, fs))) (hv : fs[1]? = some v) (hdg : decode cc pc = .ok (.getfield 109, 3)) (kk : W p l e R s m args below meth c H locs cells slots Q (F0 m (pc + 3) ls (v :: rest))) : W p l e R s m args below meth c H locs cells slots Q (F0 m pc ls (.ref a :: rest)) := va_get (C := RX9) (T := TX9) (N := 2) hx hb (lay_X9 hk.2.1 args) (fun _ h => h) hown hk.1 hP q0 he rfl 1 (by decide) (fl_X6_109 hk.2.1 args) (fun _ h9 => h9) hv hdg kk
theorem fl_X6_114 {U : State} (h : tb U) (a : Array Value) : (Cond.fieldLink RX6 114 RX9 (TX9 0).2.1 (TX9 0).2.2.1).before a U = true := h (Cond.fieldLink "AskedRoutes$Reader" 114 "AskedRoutes$Text" "letters" "[I") (List.mem_of_getElem? (i := 58) (by decide +kernel)) rfl a
theorem gf_X6_114 {p : Program} {l : Launch} {e : Env} {R : Room} {s : State} {m : MethodId} {args : Array Value} {below : List Frame} {meth : Method} {c : Code} {H : Heap} {locs : List Loc} {cells slots : Nat} {Q : State → Prop} {D : va_G} {cI cZ cK : ClassId} {cc : ByteArray} {pc : Nat} {ls : Array Slot} {rest : List Value} {a : Nat} {fs : List Value} {ws : va_W} {v : Value} (hx : p.tables.exec = Jvm.exec) (hb : c.code = cc) (hown : s.vm.findClass RX6 = some m.cls) (hk : kq D cI cZ cK s) (hP : va_P D vwCl ws H) (q0 : Nat) (he : ws[q0]? = some (a, .inr (9, fs))) (hv : fs[0]? = some v) (hdg : decode cc pc = .ok (.getfield 114, 3)) (kk : W p l e R s m args below meth c H locs cells slots Q (F0 m (pc + 3) ls (v :: rest))) : W p l e R s m args below meth c H locs cells slots Q (F0 m pc ls (.ref a :: rest)) := va_get (C := RX9) (T := TX9) (N := 2) hx hb (lay_X9 hk.2.1 args) (fun _ h => h) hown hk.1 hP q0 he rfl 0 (by decide) (fl_X6_114 hk.2.1 args) (fun _ h9 => h9) hv hdg kk
theorem fl_X7_12 {U : State} (h : tb U) (a : Array Value) : (Cond.fieldLink RX7 12 RX7 (TX7 0).2.1 (TX7 0).2.2.1).before a U = true := h (Cond.fieldLink "AskedRoutes$Rules" 12 "AskedRoutes$Rules" "nodes" "I") (List.mem_of_getElem? (i := 84) (by decide +kernel)) rfl a
theorem gf_X7_12 {p : Program} {l : Launch} {e : Env} {R : Room} {s : State} {m : MethodId} {args : Array Value} {below : List Frame} {meth : Method} {c : Code} {H : Heap} {locs : List Loc} {cells slots : Nat} {Q : State → Prop} {D : va_G} {cI cZ cK : ClassId} {cc : ByteArray} {pc : Nat} {ls : Array Slot} {rest : List Value} {a : Nat} {fs : List Value} {ws : va_W} {v : Value} (hx : p.tables.exec = Jvm.exec) (hb : c.code = cc) (hown : s.vm.findClass RX7 = some m.cls) (hk : kq D cI cZ cK s) (hP : va_P D vwCl ws H) (q0 : Nat) (he : ws[q0]? = some (a, .inr (7, fs))) (hv : fs[0]? = some v) (hdg : decode cc pc = .ok (.getfield 12, 3)) (kk : W p l e R s m args below meth c H locs cells slots Q (F0 m (pc + 3) ls (v :: rest))) : W p l e R s m args below meth c H locs cells slots Q (F0 m pc ls (.ref a :: rest)) := va_get (C := RX7) (T := TX7) (N := 6) hx hb (lay_X7 hk.2.1 args) (fun _ h => h) hown hk.1 hP q0 he rfl 0 (by decide) (fl_X7_12 hk.2.1 args) (fun _ h9 => h9) hv hdg kk
theorem pf_X7_12 {p : Program} {l : Launch} {e : Env} {R : Room} {s : State} {m : MethodId} {args : Array Value} {below : List Frame} {meth : Method} {c : Code} {H : Heap} {locs : List Loc} {cells slots : Nat} {Q : State → Prop} {D : va_G} {cI cZ cK : ClassId} {cc : ByteArray} {pc : Nat} {ls : Array Slot} {rest : List Value} {a : Nat} {fs : List Value} {A : Nat → Prop} {H0 : Heap} {ws ws' : va_W} {x : Int32} (hx : p.tables.exec = Jvm.exec) (hb : c.code = cc) (hown : s.vm.findClass RX7 = some m.cls) (hk : kq D cI cZ cK s) (w : wd D A H0 H locs ws) (q0 : Nat) (he : ws[q0]? = some (a, .inr (7, fs))) (hl : 0 < fs.length) (hs : ws.set q0 (a, .inr (7, fs.set 0 (.int x))) = ws') (hdg : decode cc pc = .ok (.putfield 12, 3)) (kk : ∀ (H1 : Heap) (locs1 : List Loc), wd D A H0 H1 locs1 ws' → W p l e R s m args below meth c H1 locs1 cells slots Q (F0 m (pc + 3) ls rest)) : W p l e R s m args below meth c H locs cells slots Q (F0 m pc ls (.int x :: .ref a :: rest)) := va_put (ty := .int) (C := RX7) (T := TX7) (N := 6) hx hb (lay_X7 hk.2.1 args) (fun _ h => h) tyX7 tyX7_ok nmX7 hown hk.1 w.1 w.2.1 w.2.2 q0 he rfl 0 (by decide) (fl_X7_12 hk.2.1 args) (fun _ h9 => h9) rfl (by decide +kernel) (vp_nar_int x) rfl hl hdg (fun H1 locs1 h1 h2 h3 => kk H1 locs1 ⟨by rw [← hs]; exact h1, by rw [← hs]; exact h2, h3⟩)
theorem fl_X7_16 {U : State} (h : tb U) (a : Array Value) : (Cond.fieldLink RX7 16 RX7 (TX7 1).2.1 (TX7 1).2.2.1).before a U = true := h (Cond.fieldLink "AskedRoutes$Rules" 16 "AskedRoutes$Rules" "every" "I") (List.mem_of_getElem? (i := 88) (by decide +kernel)) rfl a
theorem gf_X7_16 {p : Program} {l : Launch} {e : Env} {R : Room} {s : State} {m : MethodId} {args : Array Value} {below : List Frame} {meth : Method} {c : Code} {H : Heap} {locs : List Loc} {cells slots : Nat} {Q : State → Prop} {D : va_G} {cI cZ cK : ClassId} {cc : ByteArray} {pc : Nat} {ls : Array Slot} {rest : List Value} {a : Nat} {fs : List Value} {ws : va_W} {v : Value} (hx : p.tables.exec = Jvm.exec) (hb : c.code = cc) (hown : s.vm.findClass RX7 = some m.cls) (hk : kq D cI cZ cK s) (hP : va_P D vwCl ws H) (q0 : Nat) (he : ws[q0]? = some (a, .inr (7, fs))) (hv : fs[1]? = some v) (hdg : decode cc pc = .ok (.getfield 16, 3)) (kk : W p l e R s m args below meth c H locs cells slots Q (F0 m (pc + 3) ls (v :: rest))) : W p l e R s m args below meth c H locs cells slots Q (F0 m pc ls (.ref a :: rest)) := va_get (C := RX7) (T := TX7) (N := 6) hx hb (lay_X7 hk.2.1 args) (fun _ h => h) hown hk.1 hP q0 he rfl 1 (by decide) (fl_X7_16 hk.2.1 args) (fun _ h9 => h9) hv hdg kk
theorem pf_X7_16 {p : Program} {l : Launch} {e : Env} {R : Room} {s : State} {m : MethodId} {args : Array Value} {below : List Frame} {meth : Method} {c : Code} {H : Heap} {locs : List Loc} {cells slots : Nat} {Q : State → Prop} {D : va_G} {cI cZ cK : ClassId} {cc : ByteArray} {pc : Nat} {ls : Array Slot} {rest : List Value} {a : Nat} {fs : List Value} {A : Nat → Prop} {H0 : Heap} {ws ws' : va_W} {x : Int32} (hx : p.tables.exec = Jvm.exec) (hb : c.code = cc) (hown : s.vm.findClass RX7 = some m.cls) (hk : kq D cI cZ cK s) (w : wd D A H0 H locs ws) (q0 : Nat) (he : ws[q0]? = some (a, .inr (7, fs))) (hl : 1 < fs.length) (hs : ws.set q0 (a, .inr (7, fs.set 1 (.int x))) = ws') (hdg : decode cc pc = .ok (.putfield 16, 3)) (kk : ∀ (H1 : Heap) (locs1 : List Loc), wd D A H0 H1 locs1 ws' → W p l e R s m args below meth c H1 locs1 cells slots Q (F0 m (pc + 3) ls rest)) : W p l e R s m args below meth c H locs cells slots Q (F0 m pc ls (.int x :: .ref a :: rest)) := va_put (ty := .int) (C := RX7) (T := TX7) (N := 6) hx hb (lay_X7 hk.2.1 args) (fun _ h => h) tyX7 tyX7_ok nmX7 hown hk.1 w.1 w.2.1 w.2.2 q0 he rfl 1 (by decide) (fl_X7_16 hk.2.1 args) (fun _ h9 => h9) rfl (by decide +kernel) (vp_nar_int x) rfl hl hdg (fun H1 locs1 h1 h2 h3 => kk H1 locs1 ⟨by rw [← hs]; exact h1, by rw [← hs]; exact h2, h3⟩)
theorem fl_X7_19 {U : State} (h : tb U) (a : Array Value) : (Cond.fieldLink RX7 19 RX7 (TX7 2).2.1 (TX7 2).2.2.1).before a U = true := h (Cond.fieldLink "AskedRoutes$Rules" 19 "AskedRoutes$Rules" "halves" "I") (List.mem_of_getElem? (i := 92) (by decide +kernel)) rfl a
theorem gf_X7_19 {p : Program} {l : Launch} {e : Env} {R : Room} {s : State} {m : MethodId} {args : Array Value} {below : List Frame} {meth : Method} {c : Code} {H : Heap} {locs : List Loc} {cells slots : Nat} {Q : State → Prop} {D : va_G} {cI cZ cK : ClassId} {cc : ByteArray} {pc : Nat} {ls : Array Slot} {rest : List Value} {a : Nat} {fs : List Value} {ws : va_W} {v : Value} (hx : p.tables.exec = Jvm.exec) (hb : c.code = cc) (hown : s.vm.findClass RX7 = some m.cls) (hk : kq D cI cZ cK s) (hP : va_P D vwCl ws H) (q0 : Nat) (he : ws[q0]? = some (a, .inr (7, fs))) (hv : fs[2]? = some v) (hdg : decode cc pc = .ok (.getfield 19, 3)) (kk : W p l e R s m args below meth c H locs cells slots Q (F0 m (pc + 3) ls (v :: rest))) : W p l e R s m args below meth c H locs cells slots Q (F0 m pc ls (.ref a :: rest)) := va_get (C := RX7) (T := TX7) (N := 6) hx hb (lay_X7 hk.2.1 args) (fun _ h => h) hown hk.1 hP q0 he rfl 2 (by decide) (fl_X7_19 hk.2.1 args) (fun _ h9 => h9) hv hdg kk
theorem pf_X7_19 {p : Program} {l : Launch} {e : Env} {R : Room} {s : State} {m : MethodId} {args : Array Value} {below : List Frame} {meth : Method} {c : Code} {H : Heap} {locs : List Loc} {cells slots : Nat} {Q : State → Prop} {D : va_G} {cI cZ cK : ClassId} {cc : ByteArray} {pc : Nat} {ls : Array Slot} {rest : List Value} {a : Nat} {fs : List Value} {A : Nat → Prop} {H0 : Heap} {ws ws' : va_W} {x : Int32} (hx : p.tables.exec = Jvm.exec) (hb : c.code = cc) (hown : s.vm.findClass RX7 = some m.cls) (hk : kq D cI cZ cK s) (w : wd D A H0 H locs ws) (q0 : Nat) (he : ws[q0]? = some (a, .inr (7, fs))) (hl : 2 < fs.length) (hs : ws.set q0 (a, .inr (7, fs.set 2 (.int x))) = ws') (hdg : decode cc pc = .ok (.putfield 19, 3)) (kk : ∀ (H1 : Heap) (locs1 : List Loc), wd D A H0 H1 locs1 ws' → W p l e R s m args below meth c H1 locs1 cells slots Q (F0 m (pc + 3) ls rest)) : W p l e R s m args below meth c H locs cells slots Q (F0 m pc ls (.int x :: .ref a :: rest)) := va_put (ty := .int) (C := RX7) (T := TX7) (N := 6) hx hb (lay_X7 hk.2.1 args) (fun _ h => h) tyX7 tyX7_ok nmX7 hown hk.1 w.1 w.2.1 w.2.2 q0 he rfl 2 (by decide) (fl_X7_19 hk.2.1 args) (fun _ h9 => h9) rfl (by decide +kernel) (vp_nar_int x) rfl hl hdg (fun H1 locs1 h1 h2 h3 => kk H1 locs1 ⟨by rw [← hs]; exact h1, by rw [← hs]; exact h2, h3⟩)
theorem fl_X7_22 {U : State} (h : tb U) (a : Array Value) : (Cond.fieldLink RX7 22 RX7 (TX7 3).2.1 (TX7 3).2.2.1).before a U = true := h (Cond.fieldLink "AskedRoutes$Rules" 22 "AskedRoutes$Rules" "age" "I") (List.mem_of_getElem? (i := 96) (by decide +kernel)) rfl a
theorem gf_X7_22 {p : Program} {l : Launch} {e : Env} {R : Room} {s : State} {m : MethodId} {args : Array Value} {below : List Frame} {meth : Method} {c : Code} {H : Heap} {locs : List Loc} {cells slots : Nat} {Q : State → Prop} {D : va_G} {cI cZ cK : ClassId} {cc : ByteArray} {pc : Nat} {ls : Array Slot} {rest : List Value} {a : Nat} {fs : List Value} {ws : va_W} {v : Value} (hx : p.tables.exec = Jvm.exec) (hb : c.code = cc) (hown : s.vm.findClass RX7 = some m.cls) (hk : kq D cI cZ cK s) (hP : va_P D vwCl ws H) (q0 : Nat) (he : ws[q0]? = some (a, .inr (7, fs))) (hv : fs[3]? = some v) (hdg : decode cc pc = .ok (.getfield 22, 3)) (kk : W p l e R s m args below meth c H locs cells slots Q (F0 m (pc + 3) ls (v :: rest))) : W p l e R s m args below meth c H locs cells slots Q (F0 m pc ls (.ref a :: rest)) := va_get (C := RX7) (T := TX7) (N := 6) hx hb (lay_X7 hk.2.1 args) (fun _ h => h) hown hk.1 hP q0 he rfl 3 (by decide) (fl_X7_22 hk.2.1 args) (fun _ h9 => h9) hv hdg kk
theorem pf_X7_22 {p : Program} {l : Launch} {e : Env} {R : Room} {s : State} {m : MethodId} {args : Array Value} {below : List Frame} {meth : Method} {c : Code} {H : Heap} {locs : List Loc} {cells slots : Nat} {Q : State → Prop} {D : va_G} {cI cZ cK : ClassId} {cc : ByteArray} {pc : Nat} {ls : Array Slot} {rest : List Value} {a : Nat} {fs : List Value} {A : Nat → Prop} {H0 : Heap} {ws ws' : va_W} {x : Int32} (hx : p.tables.exec = Jvm.exec) (hb : c.code = cc) (hown : s.vm.findClass RX7 = some m.cls) (hk : kq D cI cZ cK s) (w : wd D A H0 H locs ws) (q0 : Nat) (he : ws[q0]? = some (a, .inr (7, fs))) (hl : 3 < fs.length) (hs : ws.set q0 (a, .inr (7, fs.set 3 (.int x))) = ws') (hdg : decode cc pc = .ok (.putfield 22, 3)) (kk : ∀ (H1 : Heap) (locs1 : List Loc), wd D A H0 H1 locs1 ws' → W p l e R s m args below meth c H1 locs1 cells slots Q (F0 m (pc + 3) ls rest)) : W p l e R s m args below meth c H locs cells slots Q (F0 m pc ls (.int x :: .ref a :: rest)) := va_put (ty := .int) (C := RX7) (T := TX7) (N := 6) hx hb (lay_X7 hk.2.1 args) (fun _ h => h) tyX7 tyX7_ok nmX7 hown hk.1 w.1 w.2.1 w.2.2 q0 he rfl 3 (by decide) (fl_X7_22 hk.2.1 args) (fun _ h9 => h9) rfl (by decide +kernel) (vp_nar_int x) rfl hl hdg (fun H1 locs1 h1 h2 h3 => kk H1 locs1 ⟨by rw [← hs]; exact h1, by rw [← hs]; exact h2, h3⟩)
theorem fl_X7_25 {U : State} (h : tb U) (a : Array Value) : (Cond.fieldLink RX7 25 RX7 (TX7 4).2.1 (TX7 4).2.2.1).before a U = true := h (Cond.fieldLink "AskedRoutes$Rules" 25 "AskedRoutes$Rules" "life" "I") (List.mem_of_getElem? (i := 100) (by decide +kernel)) rfl a
theorem gf_X7_25 {p : Program} {l : Launch} {e : Env} {R : Room} {s : State} {m : MethodId} {args : Array Value} {below : List Frame} {meth : Method} {c : Code} {H : Heap} {locs : List Loc} {cells slots : Nat} {Q : State → Prop} {D : va_G} {cI cZ cK : ClassId} {cc : ByteArray} {pc : Nat} {ls : Array Slot} {rest : List Value} {a : Nat} {fs : List Value} {ws : va_W} {v : Value} (hx : p.tables.exec = Jvm.exec) (hb : c.code = cc) (hown : s.vm.findClass RX7 = some m.cls) (hk : kq D cI cZ cK s) (hP : va_P D vwCl ws H) (q0 : Nat) (he : ws[q0]? = some (a, .inr (7, fs))) (hv : fs[4]? = some v) (hdg : decode cc pc = .ok (.getfield 25, 3)) (kk : W p l e R s m args below meth c H locs cells slots Q (F0 m (pc + 3) ls (v :: rest))) : W p l e R s m args below meth c H locs cells slots Q (F0 m pc ls (.ref a :: rest)) := va_get (C := RX7) (T := TX7) (N := 6) hx hb (lay_X7 hk.2.1 args) (fun _ h => h) hown hk.1 hP q0 he rfl 4 (by decide) (fl_X7_25 hk.2.1 args) (fun _ h9 => h9) hv hdg kk
theorem pf_X7_25 {p : Program} {l : Launch} {e : Env} {R : Room} {s : State} {m : MethodId} {args : Array Value} {below : List Frame} {meth : Method} {c : Code} {H : Heap} {locs : List Loc} {cells slots : Nat} {Q : State → Prop} {D : va_G} {cI cZ cK : ClassId} {cc : ByteArray} {pc : Nat} {ls : Array Slot} {rest : List Value} {a : Nat} {fs : List Value} {A : Nat → Prop} {H0 : Heap} {ws ws' : va_W} {x : Int32} (hx : p.tables.exec = Jvm.exec) (hb : c.code = cc) (hown : s.vm.findClass RX7 = some m.cls) (hk : kq D cI cZ cK s) (w : wd D A H0 H locs ws) (q0 : Nat) (he : ws[q0]? = some (a, .inr (7, fs))) (hl : 4 < fs.length) (hs : ws.set q0 (a, .inr (7, fs.set 4 (.int x))) = ws') (hdg : decode cc pc = .ok (.putfield 25, 3)) (kk : ∀ (H1 : Heap) (locs1 : List Loc), wd D A H0 H1 locs1 ws' → W p l e R s m args below meth c H1 locs1 cells slots Q (F0 m (pc + 3) ls rest)) : W p l e R s m args below meth c H locs cells slots Q (F0 m pc ls (.int x :: .ref a :: rest)) := va_put (ty := .int) (C := RX7) (T := TX7) (N := 6) hx hb (lay_X7 hk.2.1 args) (fun _ h => h) tyX7 tyX7_ok nmX7 hown hk.1 w.1 w.2.1 w.2.2 q0 he rfl 4 (by decide) (fl_X7_25 hk.2.1 args) (fun _ h9 => h9) rfl (by decide +kernel) (vp_nar_int x) rfl hl hdg (fun H1 locs1 h1 h2 h3 => kk H1 locs1 ⟨by rw [← hs]; exact h1, by rw [← hs]; exact h2, h3⟩)
theorem fl_X7_28 {U : State} (h : tb U) (a : Array Value) : (Cond.fieldLink RX7 28 RX7 (TX7 5).2.1 (TX7 5).2.2.1).before a U = true := h (Cond.fieldLink "AskedRoutes$Rules" 28 "AskedRoutes$Rules" "first" "I") (List.mem_of_getElem? (i := 104) (by decide +kernel)) rfl a
theorem gf_X7_28 {p : Program} {l : Launch} {e : Env} {R : Room} {s : State} {m : MethodId} {args : Array Value} {below : List Frame} {meth : Method} {c : Code} {H : Heap} {locs : List Loc} {cells slots : Nat} {Q : State → Prop} {D : va_G} {cI cZ cK : ClassId} {cc : ByteArray} {pc : Nat} {ls : Array Slot} {rest : List Value} {a : Nat} {fs : List Value} {ws : va_W} {v : Value} (hx : p.tables.exec = Jvm.exec) (hb : c.code = cc) (hown : s.vm.findClass RX7 = some m.cls) (hk : kq D cI cZ cK s) (hP : va_P D vwCl ws H) (q0 : Nat) (he : ws[q0]? = some (a, .inr (7, fs))) (hv : fs[5]? = some v) (hdg : decode cc pc = .ok (.getfield 28, 3)) (kk : W p l e R s m args below meth c H locs cells slots Q (F0 m (pc + 3) ls (v :: rest))) : W p l e R s m args below meth c H locs cells slots Q (F0 m pc ls (.ref a :: rest)) := va_get (C := RX7) (T := TX7) (N := 6) hx hb (lay_X7 hk.2.1 args) (fun _ h => h) hown hk.1 hP q0 he rfl 5 (by decide) (fl_X7_28 hk.2.1 args) (fun _ h9 => h9) hv hdg kk
theorem pf_X7_28 {p : Program} {l : Launch} {e : Env} {R : Room} {s : State} {m : MethodId} {args : Array Value} {below : List Frame} {meth : Method} {c : Code} {H : Heap} {locs : List Loc} {cells slots : Nat} {Q : State → Prop} {D : va_G} {cI cZ cK : ClassId} {cc : ByteArray} {pc : Nat} {ls : Array Slot} {rest : List Value} {a : Nat} {fs : List Value} {A : Nat → Prop} {H0 : Heap} {ws ws' : va_W} {x : Int32} (hx : p.tables.exec = Jvm.exec) (hb : c.code = cc) (hown : s.vm.findClass RX7 = some m.cls) (hk : kq D cI cZ cK s) (w : wd D A H0 H locs ws) (q0 : Nat) (he : ws[q0]? = some (a, .inr (7, fs))) (hl : 5 < fs.length) (hs : ws.set q0 (a, .inr (7, fs.set 5 (.int x))) = ws') (hdg : decode cc pc = .ok (.putfield 28, 3)) (kk : ∀ (H1 : Heap) (locs1 : List Loc), wd D A H0 H1 locs1 ws' → W p l e R s m args below meth c H1 locs1 cells slots Q (F0 m (pc + 3) ls rest)) : W p l e R s m args below meth c H locs cells slots Q (F0 m pc ls (.int x :: .ref a :: rest)) := va_put (ty := .int) (C := RX7) (T := TX7) (N := 6) hx hb (lay_X7 hk.2.1 args) (fun _ h => h) tyX7 tyX7_ok nmX7 hown hk.1 w.1 w.2.1 w.2.2 q0 he rfl 5 (by decide) (fl_X7_28 hk.2.1 args) (fun _ h9 => h9) rfl (by decide +kernel) (vp_nar_int x) rfl hl hdg (fun H1 locs1 h1 h2 h3 => kk H1 locs1 ⟨by rw [← hs]; exact h1, by rw [← hs]; exact h2, h3⟩)
theorem fl_X8_9 {U : State} (h : tb U) (a : Array Value) : (Cond.fieldLink RX8 9 RX8 (TX8 0).2.1 (TX8 0).2.2.1).before a U = true := h (Cond.fieldLink "AskedRoutes$Sights" 9 "AskedRoutes$Sights" "froms" "[I") (List.mem_of_getElem? (i := 313) (by decide +kernel)) rfl a
theorem gf_X8_9 {p : Program} {l : Launch} {e : Env} {R : Room} {s : State} {m : MethodId} {args : Array Value} {below : List Frame} {meth : Method} {c : Code} {H : Heap} {locs : List Loc} {cells slots : Nat} {Q : State → Prop} {D : va_G} {cI cZ cK : ClassId} {cc : ByteArray} {pc : Nat} {ls : Array Slot} {rest : List Value} {a : Nat} {fs : List Value} {ws : va_W} {v : Value} (hx : p.tables.exec = Jvm.exec) (hb : c.code = cc) (hown : s.vm.findClass RX8 = some m.cls) (hk : kq D cI cZ cK s) (hP : va_P D vwCl ws H) (q0 : Nat) (he : ws[q0]? = some (a, .inr (8, fs))) (hv : fs[0]? = some v) (hdg : decode cc pc = .ok (.getfield 9, 3)) (kk : W p l e R s m args below meth c H locs cells slots Q (F0 m (pc + 3) ls (v :: rest))) : W p l e R s m args below meth c H locs cells slots Q (F0 m pc ls (.ref a :: rest)) := va_get (C := RX8) (T := TX8) (N := 4) hx hb (lay_X8 hk.2.1 args) (fun _ h => h) hown hk.1 hP q0 he rfl 0 (by decide) (fl_X8_9 hk.2.1 args) (fun _ h9 => h9) hv hdg kk
theorem fl_X8_15 {U : State} (h : tb U) (a : Array Value) : (Cond.fieldLink RX8 15 RX8 (TX8 1).2.1 (TX8 1).2.2.1).before a U = true := h (Cond.fieldLink "AskedRoutes$Sights" 15 "AskedRoutes$Sights" "goals" "[I") (List.mem_of_getElem? (i := 314) (by decide +kernel)) rfl a
theorem gf_X8_15 {p : Program} {l : Launch} {e : Env} {R : Room} {s : State} {m : MethodId} {args : Array Value} {below : List Frame} {meth : Method} {c : Code} {H : Heap} {locs : List Loc} {cells slots : Nat} {Q : State → Prop} {D : va_G} {cI cZ cK : ClassId} {cc : ByteArray} {pc : Nat} {ls : Array Slot} {rest : List Value} {a : Nat} {fs : List Value} {ws : va_W} {v : Value} (hx : p.tables.exec = Jvm.exec) (hb : c.code = cc) (hown : s.vm.findClass RX8 = some m.cls) (hk : kq D cI cZ cK s) (hP : va_P D vwCl ws H) (q0 : Nat) (he : ws[q0]? = some (a, .inr (8, fs))) (hv : fs[1]? = some v) (hdg : decode cc pc = .ok (.getfield 15, 3)) (kk : W p l e R s m args below meth c H locs cells slots Q (F0 m (pc + 3) ls (v :: rest))) : W p l e R s m args below meth c H locs cells slots Q (F0 m pc ls (.ref a :: rest)) := va_get (C := RX8) (T := TX8) (N := 4) hx hb (lay_X8 hk.2.1 args) (fun _ h => h) hown hk.1 hP q0 he rfl 1 (by decide) (fl_X8_15 hk.2.1 args) (fun _ h9 => h9) hv hdg kk
theorem fl_X8_18 {U : State} (h : tb U) (a : Array Value) : (Cond.fieldLink RX8 18 RX8 (TX8 2).2.1 (TX8 2).2.2.1).before a U = true := h (Cond.fieldLink "AskedRoutes$Sights" 18 "AskedRoutes$Sights" "worths" "[I") (List.mem_of_getElem? (i := 315) (by decide +kernel)) rfl a
theorem gf_X8_18 {p : Program} {l : Launch} {e : Env} {R : Room} {s : State} {m : MethodId} {args : Array Value} {below : List Frame} {meth : Method} {c : Code} {H : Heap} {locs : List Loc} {cells slots : Nat} {Q : State → Prop} {D : va_G} {cI cZ cK : ClassId} {cc : ByteArray} {pc : Nat} {ls : Array Slot} {rest : List Value} {a : Nat} {fs : List Value} {ws : va_W} {v : Value} (hx : p.tables.exec = Jvm.exec) (hb : c.code = cc) (hown : s.vm.findClass RX8 = some m.cls) (hk : kq D cI cZ cK s) (hP : va_P D vwCl ws H) (q0 : Nat) (he : ws[q0]? = some (a, .inr (8, fs))) (hv : fs[2]? = some v) (hdg : decode cc pc = .ok (.getfield 18, 3)) (kk : W p l e R s m args below meth c H locs cells slots Q (F0 m (pc + 3) ls (v :: rest))) : W p l e R s m args below meth c H locs cells slots Q (F0 m pc ls (.ref a :: rest)) := va_get (C := RX8) (T := TX8) (N := 4) hx hb (lay_X8 hk.2.1 args) (fun _ h => h) hown hk.1 hP q0 he rfl 2 (by decide) (fl_X8_18 hk.2.1 args) (fun _ h9 => h9) hv hdg kk
theorem fl_X8_21 {U : State} (h : tb U) (a : Array Value) : (Cond.fieldLink RX8 21 RX8 (TX8 3).2.1 (TX8 3).2.2.1).before a U = true := h (Cond.fieldLink "AskedRoutes$Sights" 21 "AskedRoutes$Sights" "size" "I") (List.mem_of_getElem? (i := 316) (by decide +kernel)) rfl a
theorem gf_X8_21 {p : Program} {l : Launch} {e : Env} {R : Room} {s : State} {m : MethodId} {args : Array Value} {below : List Frame} {meth : Method} {c : Code} {H : Heap} {locs : List Loc} {cells slots : Nat} {Q : State → Prop} {D : va_G} {cI cZ cK : ClassId} {cc : ByteArray} {pc : Nat} {ls : Array Slot} {rest : List Value} {a : Nat} {fs : List Value} {ws : va_W} {v : Value} (hx : p.tables.exec = Jvm.exec) (hb : c.code = cc) (hown : s.vm.findClass RX8 = some m.cls) (hk : kq D cI cZ cK s) (hP : va_P D vwCl ws H) (q0 : Nat) (he : ws[q0]? = some (a, .inr (8, fs))) (hv : fs[3]? = some v) (hdg : decode cc pc = .ok (.getfield 21, 3)) (kk : W p l e R s m args below meth c H locs cells slots Q (F0 m (pc + 3) ls (v :: rest))) : W p l e R s m args below meth c H locs cells slots Q (F0 m pc ls (.ref a :: rest)) := va_get (C := RX8) (T := TX8) (N := 4) hx hb (lay_X8 hk.2.1 args) (fun _ h => h) hown hk.1 hP q0 he rfl 3 (by decide) (fl_X8_21 hk.2.1 args) (fun _ h9 => h9) hv hdg kk
theorem pf_X8_21 {p : Program} {l : Launch} {e : Env} {R : Room} {s : State} {m : MethodId} {args : Array Value} {below : List Frame} {meth : Method} {c : Code} {H : Heap} {locs : List Loc} {cells slots : Nat} {Q : State → Prop} {D : va_G} {cI cZ cK : ClassId} {cc : ByteArray} {pc : Nat} {ls : Array Slot} {rest : List Value} {a : Nat} {fs : List Value} {A : Nat → Prop} {H0 : Heap} {ws ws' : va_W} {x : Int32} (hx : p.tables.exec = Jvm.exec) (hb : c.code = cc) (hown : s.vm.findClass RX8 = some m.cls) (hk : kq D cI cZ cK s) (w : wd D A H0 H locs ws) (q0 : Nat) (he : ws[q0]? = some (a, .inr (8, fs))) (hl : 3 < fs.length) (hs : ws.set q0 (a, .inr (8, fs.set 3 (.int x))) = ws') (hdg : decode cc pc = .ok (.putfield 21, 3)) (kk : ∀ (H1 : Heap) (locs1 : List Loc), wd D A H0 H1 locs1 ws' → W p l e R s m args below meth c H1 locs1 cells slots Q (F0 m (pc + 3) ls rest)) : W p l e R s m args below meth c H locs cells slots Q (F0 m pc ls (.int x :: .ref a :: rest)) := va_put (ty := .int) (C := RX8) (T := TX8) (N := 4) hx hb (lay_X8 hk.2.1 args) (fun _ h => h) tyX8 tyX8_ok nmX8 hown hk.1 w.1 w.2.1 w.2.2 q0 he rfl 3 (by decide) (fl_X8_21 hk.2.1 args) (fun _ h9 => h9) rfl (by decide +kernel) (vp_nar_int x) rfl hl hdg (fun H1 locs1 h1 h2 h3 => kk H1 locs1 ⟨by rw [← hs]; exact h1, by rw [← hs]; exact h2, h3⟩)
theorem fl_X9_9 {U : State} (h : tb U) (a : Array Value) : (Cond.fieldLink RX9 9 RX9 (TX9 0).2.1 (TX9 0).2.2.1).before a U = true := h (Cond.fieldLink "AskedRoutes$Text" 9 "AskedRoutes$Text" "letters" "[I") (List.mem_of_getElem? (i := 57) (by decide +kernel)) rfl a
theorem gf_X9_9 {p : Program} {l : Launch} {e : Env} {R : Room} {s : State} {m : MethodId} {args : Array Value} {below : List Frame} {meth : Method} {c : Code} {H : Heap} {locs : List Loc} {cells slots : Nat} {Q : State → Prop} {D : va_G} {cI cZ cK : ClassId} {cc : ByteArray} {pc : Nat} {ls : Array Slot} {rest : List Value} {a : Nat} {fs : List Value} {ws : va_W} {v : Value} (hx : p.tables.exec = Jvm.exec) (hb : c.code = cc) (hown : s.vm.findClass RX9 = some m.cls) (hk : kq D cI cZ cK s) (hP : va_P D vwCl ws H) (q0 : Nat) (he : ws[q0]? = some (a, .inr (9, fs))) (hv : fs[0]? = some v) (hdg : decode cc pc = .ok (.getfield 9, 3)) (kk : W p l e R s m args below meth c H locs cells slots Q (F0 m (pc + 3) ls (v :: rest))) : W p l e R s m args below meth c H locs cells slots Q (F0 m pc ls (.ref a :: rest)) := va_get (C := RX9) (T := TX9) (N := 2) hx hb (lay_X9 hk.2.1 args) (fun _ h => h) hown hk.1 hP q0 he rfl 0 (by decide) (fl_X9_9 hk.2.1 args) (fun _ h9 => h9) hv hdg kk
theorem fl_X9_15 {U : State} (h : tb U) (a : Array Value) : (Cond.fieldLink RX9 15 RX9 (TX9 1).2.1 (TX9 1).2.2.1).before a U = true := h (Cond.fieldLink "AskedRoutes$Text" 15 "AskedRoutes$Text" "size" "I") (List.mem_of_getElem? (i := 59) (by decide +kernel)) rfl a
theorem gf_X9_15 {p : Program} {l : Launch} {e : Env} {R : Room} {s : State} {m : MethodId} {args : Array Value} {below : List Frame} {meth : Method} {c : Code} {H : Heap} {locs : List Loc} {cells slots : Nat} {Q : State → Prop} {D : va_G} {cI cZ cK : ClassId} {cc : ByteArray} {pc : Nat} {ls : Array Slot} {rest : List Value} {a : Nat} {fs : List Value} {ws : va_W} {v : Value} (hx : p.tables.exec = Jvm.exec) (hb : c.code = cc) (hown : s.vm.findClass RX9 = some m.cls) (hk : kq D cI cZ cK s) (hP : va_P D vwCl ws H) (q0 : Nat) (he : ws[q0]? = some (a, .inr (9, fs))) (hv : fs[1]? = some v) (hdg : decode cc pc = .ok (.getfield 15, 3)) (kk : W p l e R s m args below meth c H locs cells slots Q (F0 m (pc + 3) ls (v :: rest))) : W p l e R s m args below meth c H locs cells slots Q (F0 m pc ls (.ref a :: rest)) := va_get (C := RX9) (T := TX9) (N := 2) hx hb (lay_X9 hk.2.1 args) (fun _ h => h) hown hk.1 hP q0 he rfl 1 (by decide) (fl_X9_15 hk.2.1 args) (fun _ h9 => h9) hv hdg kk
theorem pf_X9_15 {p : Program} {l : Launch} {e : Env} {R : Room} {s : State} {m : MethodId} {args : Array Value} {below : List Frame} {meth : Method} {c : Code} {H : Heap} {locs : List Loc} {cells slots : Nat} {Q : State → Prop} {D : va_G} {cI cZ cK : ClassId} {cc : ByteArray} {pc : Nat} {ls : Array Slot} {rest : List Value} {a : Nat} {fs : List Value} {A : Nat → Prop} {H0 : Heap} {ws ws' : va_W} {x : Int32} (hx : p.tables.exec = Jvm.exec) (hb : c.code = cc) (hown : s.vm.findClass RX9 = some m.cls) (hk : kq D cI cZ cK s) (w : wd D A H0 H locs ws) (q0 : Nat) (he : ws[q0]? = some (a, .inr (9, fs))) (hl : 1 < fs.length) (hs : ws.set q0 (a, .inr (9, fs.set 1 (.int x))) = ws') (hdg : decode cc pc = .ok (.putfield 15, 3)) (kk : ∀ (H1 : Heap) (locs1 : List Loc), wd D A H0 H1 locs1 ws' → W p l e R s m args below meth c H1 locs1 cells slots Q (F0 m (pc + 3) ls rest)) : W p l e R s m args below meth c H locs cells slots Q (F0 m pc ls (.int x :: .ref a :: rest)) := va_put (ty := .int) (C := RX9) (T := TX9) (N := 2) hx hb (lay_X9 hk.2.1 args) (fun _ h => h) tyX9 tyX9_ok nmX9 hown hk.1 w.1 w.2.1 w.2.2 q0 he rfl 1 (by decide) (fl_X9_15 hk.2.1 args) (fun _ h9 => h9) rfl (by decide +kernel) (vp_nar_int x) rfl hl hdg (fun H1 locs1 h1 h2 h3 => kk H1 locs1 ⟨by rw [← hs]; exact h1, by rw [← hs]; exact h2, h3⟩)
theorem fl_X10_9 {U : State} (h : tb U) (a : Array Value) : (Cond.fieldLink RX10 9 RX10 (TX10 1).2.1 (TX10 1).2.2.1).before a U = true := h (Cond.fieldLink "AskedRoutes$Trail" 9 "AskedRoutes$Trail" "nodes" "[I") (List.mem_of_getElem? (i := 279) (by decide +kernel)) rfl a
theorem gf_X10_9 {p : Program} {l : Launch} {e : Env} {R : Room} {s : State} {m : MethodId} {args : Array Value} {below : List Frame} {meth : Method} {c : Code} {H : Heap} {locs : List Loc} {cells slots : Nat} {Q : State → Prop} {D : va_G} {cI cZ cK : ClassId} {cc : ByteArray} {pc : Nat} {ls : Array Slot} {rest : List Value} {a : Nat} {fs : List Value} {ws : va_W} {v : Value} (hx : p.tables.exec = Jvm.exec) (hb : c.code = cc) (hown : s.vm.findClass RX10 = some m.cls) (hk : kq D cI cZ cK s) (hP : va_P D vwCl ws H) (q0 : Nat) (he : ws[q0]? = some (a, .inr (10, fs))) (hv : fs[1]? = some v) (hdg : decode cc pc = .ok (.getfield 9, 3)) (kk : W p l e R s m args below meth c H locs cells slots Q (F0 m (pc + 3) ls (v :: rest))) : W p l e R s m args below meth c H locs cells slots Q (F0 m pc ls (.ref a :: rest)) := va_get (C := RX10) (T := TX10) (N := 4) hx hb (lay_X10 hk.2.1 args) (fun _ h => h) hown hk.1 hP q0 he rfl 1 (by decide) (fl_X10_9 hk.2.1 args) (fun _ h9 => h9) hv hdg kk
theorem fl_X10_15 {U : State} (h : tb U) (a : Array Value) : (Cond.fieldLink RX10 15 RX10 (TX10 0).2.1 (TX10 0).2.2.1).before a U = true := h (Cond.fieldLink "AskedRoutes$Trail" 15 "AskedRoutes$Trail" "post" "LAskedRoutes$Post;") (List.mem_of_getElem? (i := 278) (by decide +kernel)) rfl a
theorem gf_X10_15 {p : Program} {l : Launch} {e : Env} {R : Room} {s : State} {m : MethodId} {args : Array Value} {below : List Frame} {meth : Method} {c : Code} {H : Heap} {locs : List Loc} {cells slots : Nat} {Q : State → Prop} {D : va_G} {cI cZ cK : ClassId} {cc : ByteArray} {pc : Nat} {ls : Array Slot} {rest : List Value} {a : Nat} {fs : List Value} {ws : va_W} {v : Value} (hx : p.tables.exec = Jvm.exec) (hb : c.code = cc) (hown : s.vm.findClass RX10 = some m.cls) (hk : kq D cI cZ cK s) (hP : va_P D vwCl ws H) (q0 : Nat) (he : ws[q0]? = some (a, .inr (10, fs))) (hv : fs[0]? = some v) (hdg : decode cc pc = .ok (.getfield 15, 3)) (kk : W p l e R s m args below meth c H locs cells slots Q (F0 m (pc + 3) ls (v :: rest))) : W p l e R s m args below meth c H locs cells slots Q (F0 m pc ls (.ref a :: rest)) := va_get (C := RX10) (T := TX10) (N := 4) hx hb (lay_X10 hk.2.1 args) (fun _ h => h) hown hk.1 hP q0 he rfl 0 (by decide) (fl_X10_15 hk.2.1 args) (fun _ h9 => h9) hv hdg kk
theorem fl_X10_19 {U : State} (h : tb U) (a : Array Value) : (Cond.fieldLink RX10 19 RX10 (TX10 3).2.1 (TX10 3).2.2.1).before a U = true := h (Cond.fieldLink "AskedRoutes$Trail" 19 "AskedRoutes$Trail" "delays" "I") (List.mem_of_getElem? (i := 283) (by decide +kernel)) rfl a
theorem gf_X10_19 {p : Program} {l : Launch} {e : Env} {R : Room} {s : State} {m : MethodId} {args : Array Value} {below : List Frame} {meth : Method} {c : Code} {H : Heap} {locs : List Loc} {cells slots : Nat} {Q : State → Prop} {D : va_G} {cI cZ cK : ClassId} {cc : ByteArray} {pc : Nat} {ls : Array Slot} {rest : List Value} {a : Nat} {fs : List Value} {ws : va_W} {v : Value} (hx : p.tables.exec = Jvm.exec) (hb : c.code = cc) (hown : s.vm.findClass RX10 = some m.cls) (hk : kq D cI cZ cK s) (hP : va_P D vwCl ws H) (q0 : Nat) (he : ws[q0]? = some (a, .inr (10, fs))) (hv : fs[3]? = some v) (hdg : decode cc pc = .ok (.getfield 19, 3)) (kk : W p l e R s m args below meth c H locs cells slots Q (F0 m (pc + 3) ls (v :: rest))) : W p l e R s m args below meth c H locs cells slots Q (F0 m pc ls (.ref a :: rest)) := va_get (C := RX10) (T := TX10) (N := 4) hx hb (lay_X10 hk.2.1 args) (fun _ h => h) hown hk.1 hP q0 he rfl 3 (by decide) (fl_X10_19 hk.2.1 args) (fun _ h9 => h9) hv hdg kk
theorem pf_X10_19 {p : Program} {l : Launch} {e : Env} {R : Room} {s : State} {m : MethodId} {args : Array Value} {below : List Frame} {meth : Method} {c : Code} {H : Heap} {locs : List Loc} {cells slots : Nat} {Q : State → Prop} {D : va_G} {cI cZ cK : ClassId} {cc : ByteArray} {pc : Nat} {ls : Array Slot} {rest : List Value} {a : Nat} {fs : List Value} {A : Nat → Prop} {H0 : Heap} {ws ws' : va_W} {x : Int32} (hx : p.tables.exec = Jvm.exec) (hb : c.code = cc) (hown : s.vm.findClass RX10 = some m.cls) (hk : kq D cI cZ cK s) (w : wd D A H0 H locs ws) (q0 : Nat) (he : ws[q0]? = some (a, .inr (10, fs))) (hl : 3 < fs.length) (hs : ws.set q0 (a, .inr (10, fs.set 3 (.int x))) = ws') (hdg : decode cc pc = .ok (.putfield 19, 3)) (kk : ∀ (H1 : Heap) (locs1 : List Loc), wd D A H0 H1 locs1 ws' → W p l e R s m args below meth c H1 locs1 cells slots Q (F0 m (pc + 3) ls rest)) : W p l e R s m args below meth c H locs cells slots Q (F0 m pc ls (.int x :: .ref a :: rest)) := va_put (ty := .int) (C := RX10) (T := TX10) (N := 4) hx hb (lay_X10 hk.2.1 args) (fun _ h => h) tyX10 tyX10_ok nmX10 hown hk.1 w.1 w.2.1 w.2.2 q0 he rfl 3 (by decide) (fl_X10_19 hk.2.1 args) (fun _ h9 => h9) rfl (by decide +kernel) (vp_nar_int x) rfl hl hdg (fun H1 locs1 h1 h2 h3 => kk H1 locs1 ⟨by rw [← hs]; exact h1, by rw [← hs]; exact h2, h3⟩)
theorem fl_X10_23 {U : State} (h : tb U) (a : Array Value) : (Cond.fieldLink RX10 23 RX10 (TX10 2).2.1 (TX10 2).2.2.1).before a U = true := h (Cond.fieldLink "AskedRoutes$Trail" 23 "AskedRoutes$Trail" "size" "I") (List.mem_of_getElem? (i := 281) (by decide +kernel)) rfl a
theorem gf_X10_23 {p : Program} {l : Launch} {e : Env} {R : Room} {s : State} {m : MethodId} {args : Array Value} {below : List Frame} {meth : Method} {c : Code} {H : Heap} {locs : List Loc} {cells slots : Nat} {Q : State → Prop} {D : va_G} {cI cZ cK : ClassId} {cc : ByteArray} {pc : Nat} {ls : Array Slot} {rest : List Value} {a : Nat} {fs : List Value} {ws : va_W} {v : Value} (hx : p.tables.exec = Jvm.exec) (hb : c.code = cc) (hown : s.vm.findClass RX10 = some m.cls) (hk : kq D cI cZ cK s) (hP : va_P D vwCl ws H) (q0 : Nat) (he : ws[q0]? = some (a, .inr (10, fs))) (hv : fs[2]? = some v) (hdg : decode cc pc = .ok (.getfield 23, 3)) (kk : W p l e R s m args below meth c H locs cells slots Q (F0 m (pc + 3) ls (v :: rest))) : W p l e R s m args below meth c H locs cells slots Q (F0 m pc ls (.ref a :: rest)) := va_get (C := RX10) (T := TX10) (N := 4) hx hb (lay_X10 hk.2.1 args) (fun _ h => h) hown hk.1 hP q0 he rfl 2 (by decide) (fl_X10_23 hk.2.1 args) (fun _ h9 => h9) hv hdg kk
theorem pf_X10_23 {p : Program} {l : Launch} {e : Env} {R : Room} {s : State} {m : MethodId} {args : Array Value} {below : List Frame} {meth : Method} {c : Code} {H : Heap} {locs : List Loc} {cells slots : Nat} {Q : State → Prop} {D : va_G} {cI cZ cK : ClassId} {cc : ByteArray} {pc : Nat} {ls : Array Slot} {rest : List Value} {a : Nat} {fs : List Value} {A : Nat → Prop} {H0 : Heap} {ws ws' : va_W} {x : Int32} (hx : p.tables.exec = Jvm.exec) (hb : c.code = cc) (hown : s.vm.findClass RX10 = some m.cls) (hk : kq D cI cZ cK s) (w : wd D A H0 H locs ws) (q0 : Nat) (he : ws[q0]? = some (a, .inr (10, fs))) (hl : 2 < fs.length) (hs : ws.set q0 (a, .inr (10, fs.set 2 (.int x))) = ws') (hdg : decode cc pc = .ok (.putfield 23, 3)) (kk : ∀ (H1 : Heap) (locs1 : List Loc), wd D A H0 H1 locs1 ws' → W p l e R s m args below meth c H1 locs1 cells slots Q (F0 m (pc + 3) ls rest)) : W p l e R s m args below meth c H locs cells slots Q (F0 m pc ls (.int x :: .ref a :: rest)) := va_put (ty := .int) (C := RX10) (T := TX10) (N := 4) hx hb (lay_X10 hk.2.1 args) (fun _ h => h) tyX10 tyX10_ok nmX10 hown hk.1 w.1 w.2.1 w.2.2 q0 he rfl 2 (by decide) (fl_X10_23 hk.2.1 args) (fun _ h9 => h9) rfl (by decide +kernel) (vp_nar_int x) rfl hl hdg (fun H1 locs1 h1 h2 h3 => kk H1 locs1 ⟨by rw [← hs]; exact h1, by rw [← hs]; exact h2, h3⟩)
theorem fl_X10_32 {U : State} (h : tb U) (a : Array Value) : (Cond.fieldLink RX10 32 RX5 (TX5 1).2.1 (TX5 1).2.2.1).before a U = true := h (Cond.fieldLink "AskedRoutes$Trail" 32 "AskedRoutes$Post" "known" "LAskedRoutes$Known;") (List.mem_of_getElem? (i := 228) (by decide +kernel)) rfl a
theorem gf_X10_32 {p : Program} {l : Launch} {e : Env} {R : Room} {s : State} {m : MethodId} {args : Array Value} {below : List Frame} {meth : Method} {c : Code} {H : Heap} {locs : List Loc} {cells slots : Nat} {Q : State → Prop} {D : va_G} {cI cZ cK : ClassId} {cc : ByteArray} {pc : Nat} {ls : Array Slot} {rest : List Value} {a : Nat} {fs : List Value} {ws : va_W} {v : Value} (hx : p.tables.exec = Jvm.exec) (hb : c.code = cc) (hown : s.vm.findClass RX10 = some m.cls) (hk : kq D cI cZ cK s) (hP : va_P D vwCl ws H) (q0 : Nat) (he : ws[q0]? = some (a, .inr (5, fs))) (hv : fs[1]? = some v) (hdg : decode cc pc = .ok (.getfield 32, 3)) (kk : W p l e R s m args below meth c H locs cells slots Q (F0 m (pc + 3) ls (v :: rest))) : W p l e R s m args below meth c H locs cells slots Q (F0 m pc ls (.ref a :: rest)) := va_get (C := RX5) (T := TX5) (N := 2) hx hb (lay_X5 hk.2.1 args) (fun _ h => h) hown hk.1 hP q0 he rfl 1 (by decide) (fl_X10_32 hk.2.1 args) (fun _ h9 => h9) hv hdg kk
theorem fl_X10_36 {U : State} (h : tb U) (a : Array Value) : (Cond.fieldLink RX10 36 RX1 (TX1 0).2.1 (TX1 0).2.2.1).before a U = true := h (Cond.fieldLink "AskedRoutes$Trail" 36 "AskedRoutes$Known" "links" "LAskedRoutes$Links;") (List.mem_of_getElem? (i := 177) (by decide +kernel)) rfl a
theorem gf_X10_36 {p : Program} {l : Launch} {e : Env} {R : Room} {s : State} {m : MethodId} {args : Array Value} {below : List Frame} {meth : Method} {c : Code} {H : Heap} {locs : List Loc} {cells slots : Nat} {Q : State → Prop} {D : va_G} {cI cZ cK : ClassId} {cc : ByteArray} {pc : Nat} {ls : Array Slot} {rest : List Value} {a : Nat} {fs : List Value} {ws : va_W} {v : Value} (hx : p.tables.exec = Jvm.exec) (hb : c.code = cc) (hown : s.vm.findClass RX10 = some m.cls) (hk : kq D cI cZ cK s) (hP : va_P D vwCl ws H) (q0 : Nat) (he : ws[q0]? = some (a, .inr (1, fs))) (hv : fs[0]? = some v) (hdg : decode cc pc = .ok (.getfield 36, 3)) (kk : W p l e R s m args below meth c H locs cells slots Q (F0 m (pc + 3) ls (v :: rest))) : W p l e R s m args below meth c H locs cells slots Q (F0 m pc ls (.ref a :: rest)) := va_get (C := RX1) (T := TX1) (N := 9) hx hb (lay_X1 hk.2.1 args) (fun _ h => h) hown hk.1 hP q0 he rfl 0 (by decide) (fl_X10_36 hk.2.1 args) (fun _ h9 => h9) hv hdg kk
theorem fl_X12_7 {U : State} (h : tb U) (a : Array Value) : (Cond.fieldLink RX12 7 RX12 (TX12 0).2.1 (TX12 0).2.2.1).before a U = true := h (Cond.fieldLink "AskedRoutesModel" 7 "AskedRoutesModel" "nodes" "I") (List.mem_of_getElem? (i := 725) (by decide +kernel)) rfl a
theorem gf_X12_7 {p : Program} {l : Launch} {e : Env} {R : Room} {s : State} {m : MethodId} {args : Array Value} {below : List Frame} {meth : Method} {c : Code} {H : Heap} {locs : List Loc} {cells slots : Nat} {Q : State → Prop} {D : va_G} {cI cZ cK : ClassId} {cc : ByteArray} {pc : Nat} {ls : Array Slot} {rest : List Value} {a : Nat} {fs : List Value} {ws : va_W} {v : Value} (hx : p.tables.exec = Jvm.exec) (hb : c.code = cc) (hown : s.vm.findClass RX12 = some m.cls) (hk : kq D cI cZ cK s) (hP : va_P D vwCl ws H) (q0 : Nat) (he : ws[q0]? = some (a, .inr (12, fs))) (hv : fs[0]? = some v) (hdg : decode cc pc = .ok (.getfield 7, 3)) (kk : W p l e R s m args below meth c H locs cells slots Q (F0 m (pc + 3) ls (v :: rest))) : W p l e R s m args below meth c H locs cells slots Q (F0 m pc ls (.ref a :: rest)) := va_get (C := RX12) (T := TX12) (N := 33) hx hb (lay_X12 hk.2.1 args) (fun _ h => h) hown hk.1 hP q0 he rfl 0 (by decide) (fl_X12_7 hk.2.1 args) (fun _ h9 => h9) hv hdg kk
theorem pf_X12_7 {p : Program} {l : Launch} {e : Env} {R : Room} {s : State} {m : MethodId} {args : Array Value} {below : List Frame} {meth : Method} {c : Code} {H : Heap} {locs : List Loc} {cells slots : Nat} {Q : State → Prop} {D : va_G} {cI cZ cK : ClassId} {cc : ByteArray} {pc : Nat} {ls : Array Slot} {rest : List Value} {a : Nat} {fs : List Value} {A : Nat → Prop} {H0 : Heap} {ws ws' : va_W} {x : Int32} (hx : p.tables.exec = Jvm.exec) (hb : c.code = cc) (hown : s.vm.findClass RX12 = some m.cls) (hk : kq D cI cZ cK s) (w : wd D A H0 H locs ws) (q0 : Nat) (he : ws[q0]? = some (a, .inr (12, fs))) (hl : 0 < fs.length) (hs : ws.set q0 (a, .inr (12, fs.set 0 (.int x))) = ws') (hdg : decode cc pc = .ok (.putfield 7, 3)) (kk : ∀ (H1 : Heap) (locs1 : List Loc), wd D A H0 H1 locs1 ws' → W p l e R s m args below meth c H1 locs1 cells slots Q (F0 m (pc + 3) ls rest)) : W p l e R s m args below meth c H locs cells slots Q (F0 m pc ls (.int x :: .ref a :: rest)) := va_put (ty := .int) (C := RX12) (T := TX12) (N := 33) hx hb (lay_X12 hk.2.1 args) (fun _ h => h) tyX12 tyX12_ok nmX12 hown hk.1 w.1 w.2.1 w.2.2 q0 he rfl 0 (by decide) (fl_X12_7 hk.2.1 args) (fun _ h9 => h9) rfl (by decide +kernel) (vp_nar_int x) rfl hl hdg (fun H1 locs1 h1 h2 h3 => kk H1 locs1 ⟨by rw [← hs]; exact h1, by rw [← hs]; exact h2, h3⟩)
theorem fl_X12_13 {U : State} (h : tb U) (a : Array Value) : (Cond.fieldLink RX12 13 RX12 (TX12 3).2.1 (TX12 3).2.2.1).before a U = true := h (Cond.fieldLink "AskedRoutesModel" 13 "AskedRoutesModel" "age" "I") (List.mem_of_getElem? (i := 728) (by decide +kernel)) rfl a
theorem gf_X12_13 {p : Program} {l : Launch} {e : Env} {R : Room} {s : State} {m : MethodId} {args : Array Value} {below : List Frame} {meth : Method} {c : Code} {H : Heap} {locs : List Loc} {cells slots : Nat} {Q : State → Prop} {D : va_G} {cI cZ cK : ClassId} {cc : ByteArray} {pc : Nat} {ls : Array Slot} {rest : List Value} {a : Nat} {fs : List Value} {ws : va_W} {v : Value} (hx : p.tables.exec = Jvm.exec) (hb : c.code = cc) (hown : s.vm.findClass RX12 = some m.cls) (hk : kq D cI cZ cK s) (hP : va_P D vwCl ws H) (q0 : Nat) (he : ws[q0]? = some (a, .inr (12, fs))) (hv : fs[3]? = some v) (hdg : decode cc pc = .ok (.getfield 13, 3)) (kk : W p l e R s m args below meth c H locs cells slots Q (F0 m (pc + 3) ls (v :: rest))) : W p l e R s m args below meth c H locs cells slots Q (F0 m pc ls (.ref a :: rest)) := va_get (C := RX12) (T := TX12) (N := 33) hx hb (lay_X12 hk.2.1 args) (fun _ h => h) hown hk.1 hP q0 he rfl 3 (by decide) (fl_X12_13 hk.2.1 args) (fun _ h9 => h9) hv hdg kk
theorem pf_X12_13 {p : Program} {l : Launch} {e : Env} {R : Room} {s : State} {m : MethodId} {args : Array Value} {below : List Frame} {meth : Method} {c : Code} {H : Heap} {locs : List Loc} {cells slots : Nat} {Q : State → Prop} {D : va_G} {cI cZ cK : ClassId} {cc : ByteArray} {pc : Nat} {ls : Array Slot} {rest : List Value} {a : Nat} {fs : List Value} {A : Nat → Prop} {H0 : Heap} {ws ws' : va_W} {x : Int32} (hx : p.tables.exec = Jvm.exec) (hb : c.code = cc) (hown : s.vm.findClass RX12 = some m.cls) (hk : kq D cI cZ cK s) (w : wd D A H0 H locs ws) (q0 : Nat) (he : ws[q0]? = some (a, .inr (12, fs))) (hl : 3 < fs.length) (hs : ws.set q0 (a, .inr (12, fs.set 3 (.int x))) = ws') (hdg : decode cc pc = .ok (.putfield 13, 3)) (kk : ∀ (H1 : Heap) (locs1 : List Loc), wd D A H0 H1 locs1 ws' → W p l e R s m args below meth c H1 locs1 cells slots Q (F0 m (pc + 3) ls rest)) : W p l e R s m args below meth c H locs cells slots Q (F0 m pc ls (.int x :: .ref a :: rest)) := va_put (ty := .int) (C := RX12) (T := TX12) (N := 33) hx hb (lay_X12 hk.2.1 args) (fun _ h => h) tyX12 tyX12_ok nmX12 hown hk.1 w.1 w.2.1 w.2.2 q0 he rfl 3 (by decide) (fl_X12_13 hk.2.1 args) (fun _ h9 => h9) rfl (by decide +kernel) (vp_nar_int x) rfl hl hdg (fun H1 locs1 h1 h2 h3 => kk H1 locs1 ⟨by rw [← hs]; exact h1, by rw [← hs]; exact h2, h3⟩)
theorem fl_X12_16 {U : State} (h : tb U) (a : Array Value) : (Cond.fieldLink RX12 16 RX12 (TX12 4).2.1 (TX12 4).2.2.1).before a U = true := h (Cond.fieldLink "AskedRoutesModel" 16 "AskedRoutesModel" "life" "I") (List.mem_of_getElem? (i := 729) (by decide +kernel)) rfl a
theorem gf_X12_16 {p : Program} {l : Launch} {e : Env} {R : Room} {s : State} {m : MethodId} {args : Array Value} {below : List Frame} {meth : Method} {c : Code} {H : Heap} {locs : List Loc} {cells slots : Nat} {Q : State → Prop} {D : va_G} {cI cZ cK : ClassId} {cc : ByteArray} {pc : Nat} {ls : Array Slot} {rest : List Value} {a : Nat} {fs : List Value} {ws : va_W} {v : Value} (hx : p.tables.exec = Jvm.exec) (hb : c.code = cc) (hown : s.vm.findClass RX12 = some m.cls) (hk : kq D cI cZ cK s) (hP : va_P D vwCl ws H) (q0 : Nat) (he : ws[q0]? = some (a, .inr (12, fs))) (hv : fs[4]? = some v) (hdg : decode cc pc = .ok (.getfield 16, 3)) (kk : W p l e R s m args below meth c H locs cells slots Q (F0 m (pc + 3) ls (v :: rest))) : W p l e R s m args below meth c H locs cells slots Q (F0 m pc ls (.ref a :: rest)) := va_get (C := RX12) (T := TX12) (N := 33) hx hb (lay_X12 hk.2.1 args) (fun _ h => h) hown hk.1 hP q0 he rfl 4 (by decide) (fl_X12_16 hk.2.1 args) (fun _ h9 => h9) hv hdg kk
theorem pf_X12_16 {p : Program} {l : Launch} {e : Env} {R : Room} {s : State} {m : MethodId} {args : Array Value} {below : List Frame} {meth : Method} {c : Code} {H : Heap} {locs : List Loc} {cells slots : Nat} {Q : State → Prop} {D : va_G} {cI cZ cK : ClassId} {cc : ByteArray} {pc : Nat} {ls : Array Slot} {rest : List Value} {a : Nat} {fs : List Value} {A : Nat → Prop} {H0 : Heap} {ws ws' : va_W} {x : Int32} (hx : p.tables.exec = Jvm.exec) (hb : c.code = cc) (hown : s.vm.findClass RX12 = some m.cls) (hk : kq D cI cZ cK s) (w : wd D A H0 H locs ws) (q0 : Nat) (he : ws[q0]? = some (a, .inr (12, fs))) (hl : 4 < fs.length) (hs : ws.set q0 (a, .inr (12, fs.set 4 (.int x))) = ws') (hdg : decode cc pc = .ok (.putfield 16, 3)) (kk : ∀ (H1 : Heap) (locs1 : List Loc), wd D A H0 H1 locs1 ws' → W p l e R s m args below meth c H1 locs1 cells slots Q (F0 m (pc + 3) ls rest)) : W p l e R s m args below meth c H locs cells slots Q (F0 m pc ls (.int x :: .ref a :: rest)) := va_put (ty := .int) (C := RX12) (T := TX12) (N := 33) hx hb (lay_X12 hk.2.1 args) (fun _ h => h) tyX12 tyX12_ok nmX12 hown hk.1 w.1 w.2.1 w.2.2 q0 he rfl 4 (by decide) (fl_X12_16 hk.2.1 args) (fun _ h9 => h9) rfl (by decide +kernel) (vp_nar_int x) rfl hl hdg (fun H1 locs1 h1 h2 h3 => kk H1 locs1 ⟨by rw [← hs]; exact h1, by rw [← hs]; exact h2, h3⟩)
theorem fl_X12_19 {U : State} (h : tb U) (a : Array Value) : (Cond.fieldLink RX12 19 RX12 (TX12 6).2.1 (TX12 6).2.2.1).before a U = true := h (Cond.fieldLink "AskedRoutesModel" 19 "AskedRoutesModel" "now" "[I") (List.mem_of_getElem? (i := 731) (by decide +kernel)) rfl a
theorem gf_X12_19 {p : Program} {l : Launch} {e : Env} {R : Room} {s : State} {m : MethodId} {args : Array Value} {below : List Frame} {meth : Method} {c : Code} {H : Heap} {locs : List Loc} {cells slots : Nat} {Q : State → Prop} {D : va_G} {cI cZ cK : ClassId} {cc : ByteArray} {pc : Nat} {ls : Array Slot} {rest : List Value} {a : Nat} {fs : List Value} {ws : va_W} {v : Value} (hx : p.tables.exec = Jvm.exec) (hb : c.code = cc) (hown : s.vm.findClass RX12 = some m.cls) (hk : kq D cI cZ cK s) (hP : va_P D vwCl ws H) (q0 : Nat) (he : ws[q0]? = some (a, .inr (12, fs))) (hv : fs[6]? = some v) (hdg : decode cc pc = .ok (.getfield 19, 3)) (kk : W p l e R s m args below meth c H locs cells slots Q (F0 m (pc + 3) ls (v :: rest))) : W p l e R s m args below meth c H locs cells slots Q (F0 m pc ls (.ref a :: rest)) := va_get (C := RX12) (T := TX12) (N := 33) hx hb (lay_X12 hk.2.1 args) (fun _ h => h) hown hk.1 hP q0 he rfl 6 (by decide) (fl_X12_19 hk.2.1 args) (fun _ h9 => h9) hv hdg kk
theorem fl_X12_23 {U : State} (h : tb U) (a : Array Value) : (Cond.fieldLink RX12 23 RX12 (TX12 9).2.1 (TX12 9).2.2.1).before a U = true := h (Cond.fieldLink "AskedRoutesModel" 23 "AskedRoutesModel" "undos" "[I") (List.mem_of_getElem? (i := 734) (by decide +kernel)) rfl a
theorem gf_X12_23 {p : Program} {l : Launch} {e : Env} {R : Room} {s : State} {m : MethodId} {args : Array Value} {below : List Frame} {meth : Method} {c : Code} {H : Heap} {locs : List Loc} {cells slots : Nat} {Q : State → Prop} {D : va_G} {cI cZ cK : ClassId} {cc : ByteArray} {pc : Nat} {ls : Array Slot} {rest : List Value} {a : Nat} {fs : List Value} {ws : va_W} {v : Value} (hx : p.tables.exec = Jvm.exec) (hb : c.code = cc) (hown : s.vm.findClass RX12 = some m.cls) (hk : kq D cI cZ cK s) (hP : va_P D vwCl ws H) (q0 : Nat) (he : ws[q0]? = some (a, .inr (12, fs))) (hv : fs[9]? = some v) (hdg : decode cc pc = .ok (.getfield 23, 3)) (kk : W p l e R s m args below meth c H locs cells slots Q (F0 m (pc + 3) ls (v :: rest))) : W p l e R s m args below meth c H locs cells slots Q (F0 m pc ls (.ref a :: rest)) := va_get (C := RX12) (T := TX12) (N := 33) hx hb (lay_X12 hk.2.1 args) (fun _ h => h) hown hk.1 hP q0 he rfl 9 (by decide) (fl_X12_23 hk.2.1 args) (fun _ h9 => h9) hv hdg kk
theorem fl_X12_26 {U : State} (h : tb U) (a : Array Value) : (Cond.fieldLink RX12 26 RX12 (TX12 10).2.1 (TX12 10).2.2.1).before a U = true := h (Cond.fieldLink "AskedRoutesModel" 26 "AskedRoutesModel" "isKept" "[Z") (List.mem_of_getElem? (i := 735) (by decide +kernel)) rfl a
theorem gf_X12_26 {p : Program} {l : Launch} {e : Env} {R : Room} {s : State} {m : MethodId} {args : Array Value} {below : List Frame} {meth : Method} {c : Code} {H : Heap} {locs : List Loc} {cells slots : Nat} {Q : State → Prop} {D : va_G} {cI cZ cK : ClassId} {cc : ByteArray} {pc : Nat} {ls : Array Slot} {rest : List Value} {a : Nat} {fs : List Value} {ws : va_W} {v : Value} (hx : p.tables.exec = Jvm.exec) (hb : c.code = cc) (hown : s.vm.findClass RX12 = some m.cls) (hk : kq D cI cZ cK s) (hP : va_P D vwCl ws H) (q0 : Nat) (he : ws[q0]? = some (a, .inr (12, fs))) (hv : fs[10]? = some v) (hdg : decode cc pc = .ok (.getfield 26, 3)) (kk : W p l e R s m args below meth c H locs cells slots Q (F0 m (pc + 3) ls (v :: rest))) : W p l e R s m args below meth c H locs cells slots Q (F0 m pc ls (.ref a :: rest)) := va_get (C := RX12) (T := TX12) (N := 33) hx hb (lay_X12 hk.2.1 args) (fun _ h => h) hown hk.1 hP q0 he rfl 10 (by decide) (fl_X12_26 hk.2.1 args) (fun _ h9 => h9) hv hdg kk
theorem fl_X12_30 {U : State} (h : tb U) (a : Array Value) : (Cond.fieldLink RX12 30 RX12 (TX12 11).2.1 (TX12 11).2.2.1).before a U = true := h (Cond.fieldLink "AskedRoutesModel" 30 "AskedRoutesModel" "kept" "[I") (List.mem_of_getElem? (i := 736) (by decide +kernel)) rfl a
theorem gf_X12_30 {p : Program} {l : Launch} {e : Env} {R : Room} {s : State} {m : MethodId} {args : Array Value} {below : List Frame} {meth : Method} {c : Code} {H : Heap} {locs : List Loc} {cells slots : Nat} {Q : State → Prop} {D : va_G} {cI cZ cK : ClassId} {cc : ByteArray} {pc : Nat} {ls : Array Slot} {rest : List Value} {a : Nat} {fs : List Value} {ws : va_W} {v : Value} (hx : p.tables.exec = Jvm.exec) (hb : c.code = cc) (hown : s.vm.findClass RX12 = some m.cls) (hk : kq D cI cZ cK s) (hP : va_P D vwCl ws H) (q0 : Nat) (he : ws[q0]? = some (a, .inr (12, fs))) (hv : fs[11]? = some v) (hdg : decode cc pc = .ok (.getfield 30, 3)) (kk : W p l e R s m args below meth c H locs cells slots Q (F0 m (pc + 3) ls (v :: rest))) : W p l e R s m args below meth c H locs cells slots Q (F0 m pc ls (.ref a :: rest)) := va_get (C := RX12) (T := TX12) (N := 33) hx hb (lay_X12 hk.2.1 args) (fun _ h => h) hown hk.1 hP q0 he rfl 11 (by decide) (fl_X12_30 hk.2.1 args) (fun _ h9 => h9) hv hdg kk
theorem fl_X12_33 {U : State} (h : tb U) (a : Array Value) : (Cond.fieldLink RX12 33 RX12 (TX12 13).2.1 (TX12 13).2.2.1).before a U = true := h (Cond.fieldLink "AskedRoutesModel" 33 "AskedRoutesModel" "text" "[I") (List.mem_of_getElem? (i := 738) (by decide +kernel)) rfl a
theorem gf_X12_33 {p : Program} {l : Launch} {e : Env} {R : Room} {s : State} {m : MethodId} {args : Array Value} {below : List Frame} {meth : Method} {c : Code} {H : Heap} {locs : List Loc} {cells slots : Nat} {Q : State → Prop} {D : va_G} {cI cZ cK : ClassId} {cc : ByteArray} {pc : Nat} {ls : Array Slot} {rest : List Value} {a : Nat} {fs : List Value} {ws : va_W} {v : Value} (hx : p.tables.exec = Jvm.exec) (hb : c.code = cc) (hown : s.vm.findClass RX12 = some m.cls) (hk : kq D cI cZ cK s) (hP : va_P D vwCl ws H) (q0 : Nat) (he : ws[q0]? = some (a, .inr (12, fs))) (hv : fs[13]? = some v) (hdg : decode cc pc = .ok (.getfield 33, 3)) (kk : W p l e R s m args below meth c H locs cells slots Q (F0 m (pc + 3) ls (v :: rest))) : W p l e R s m args below meth c H locs cells slots Q (F0 m pc ls (.ref a :: rest)) := va_get (C := RX12) (T := TX12) (N := 33) hx hb (lay_X12 hk.2.1 args) (fun _ h => h) hown hk.1 hP q0 he rfl 13 (by decide) (fl_X12_33 hk.2.1 args) (fun _ h9 => h9) hv hdg kk
theorem fl_X12_36 {U : State} (h : tb U) (a : Array Value) : (Cond.fieldLink RX12 36 RX12 (TX12 24).2.1 (TX12 24).2.2.1).before a U = true := h (Cond.fieldLink "AskedRoutesModel" 36 "AskedRoutesModel" "newDelay" "[I") (List.mem_of_getElem? (i := 749) (by decide +kernel)) rfl a
theorem gf_X12_36 {p : Program} {l : Launch} {e : Env} {R : Room} {s : State} {m : MethodId} {args : Array Value} {below : List Frame} {meth : Method} {c : Code} {H : Heap} {locs : List Loc} {cells slots : Nat} {Q : State → Prop} {D : va_G} {cI cZ cK : ClassId} {cc : ByteArray} {pc : Nat} {ls : Array Slot} {rest : List Value} {a : Nat} {fs : List Value} {ws : va_W} {v : Value} (hx : p.tables.exec = Jvm.exec) (hb : c.code = cc) (hown : s.vm.findClass RX12 = some m.cls) (hk : kq D cI cZ cK s) (hP : va_P D vwCl ws H) (q0 : Nat) (he : ws[q0]? = some (a, .inr (12, fs))) (hv : fs[24]? = some v) (hdg : decode cc pc = .ok (.getfield 36, 3)) (kk : W p l e R s m args below meth c H locs cells slots Q (F0 m (pc + 3) ls (v :: rest))) : W p l e R s m args below meth c H locs cells slots Q (F0 m pc ls (.ref a :: rest)) := va_get (C := RX12) (T := TX12) (N := 33) hx hb (lay_X12 hk.2.1 args) (fun _ h => h) hown hk.1 hP q0 he rfl 24 (by decide) (fl_X12_36 hk.2.1 args) (fun _ h9 => h9) hv hdg kk
theorem fl_X12_39 {U : State} (h : tb U) (a : Array Value) : (Cond.fieldLink RX12 39 RX12 (TX12 27).2.1 (TX12 27).2.2.1).before a U = true := h (Cond.fieldLink "AskedRoutesModel" 39 "AskedRoutesModel" "path" "[I") (List.mem_of_getElem? (i := 752) (by decide +kernel)) rfl a
theorem gf_X12_39 {p : Program} {l : Launch} {e : Env} {R : Room} {s : State} {m : MethodId} {args : Array Value} {below : List Frame} {meth : Method} {c : Code} {H : Heap} {locs : List Loc} {cells slots : Nat} {Q : State → Prop} {D : va_G} {cI cZ cK : ClassId} {cc : ByteArray} {pc : Nat} {ls : Array Slot} {rest : List Value} {a : Nat} {fs : List Value} {ws : va_W} {v : Value} (hx : p.tables.exec = Jvm.exec) (hb : c.code = cc) (hown : s.vm.findClass RX12 = some m.cls) (hk : kq D cI cZ cK s) (hP : va_P D vwCl ws H) (q0 : Nat) (he : ws[q0]? = some (a, .inr (12, fs))) (hv : fs[27]? = some v) (hdg : decode cc pc = .ok (.getfield 39, 3)) (kk : W p l e R s m args below meth c H locs cells slots Q (F0 m (pc + 3) ls (v :: rest))) : W p l e R s m args below meth c H locs cells slots Q (F0 m pc ls (.ref a :: rest)) := va_get (C := RX12) (T := TX12) (N := 33) hx hb (lay_X12 hk.2.1 args) (fun _ h => h) hown hk.1 hP q0 he rfl 27 (by decide) (fl_X12_39 hk.2.1 args) (fun _ h9 => h9) hv hdg kk
theorem fl_X12_42 {U : State} (h : tb U) (a : Array Value) : (Cond.fieldLink RX12 42 RX12 (TX12 28).2.1 (TX12 28).2.2.1).before a U = true := h (Cond.fieldLink "AskedRoutesModel" 42 "AskedRoutesModel" "far" "[I") (List.mem_of_getElem? (i := 753) (by decide +kernel)) rfl a
theorem gf_X12_42 {p : Program} {l : Launch} {e : Env} {R : Room} {s : State} {m : MethodId} {args : Array Value} {below : List Frame} {meth : Method} {c : Code} {H : Heap} {locs : List Loc} {cells slots : Nat} {Q : State → Prop} {D : va_G} {cI cZ cK : ClassId} {cc : ByteArray} {pc : Nat} {ls : Array Slot} {rest : List Value} {a : Nat} {fs : List Value} {ws : va_W} {v : Value} (hx : p.tables.exec = Jvm.exec) (hb : c.code = cc) (hown : s.vm.findClass RX12 = some m.cls) (hk : kq D cI cZ cK s) (hP : va_P D vwCl ws H) (q0 : Nat) (he : ws[q0]? = some (a, .inr (12, fs))) (hv : fs[28]? = some v) (hdg : decode cc pc = .ok (.getfield 42, 3)) (kk : W p l e R s m args below meth c H locs cells slots Q (F0 m (pc + 3) ls (v :: rest))) : W p l e R s m args below meth c H locs cells slots Q (F0 m pc ls (.ref a :: rest)) := va_get (C := RX12) (T := TX12) (N := 33) hx hb (lay_X12 hk.2.1 args) (fun _ h => h) hown hk.1 hP q0 he rfl 28 (by decide) (fl_X12_42 hk.2.1 args) (fun _ h9 => h9) hv hdg kk
theorem fl_X12_45 {U : State} (h : tb U) (a : Array Value) : (Cond.fieldLink RX12 45 RX12 (TX12 30).2.1 (TX12 30).2.2.1).before a U = true := h (Cond.fieldLink "AskedRoutesModel" 45 "AskedRoutesModel" "seenFrom" "[I") (List.mem_of_getElem? (i := 755) (by decide +kernel)) rfl a
theorem gf_X12_45 {p : Program} {l : Launch} {e : Env} {R : Room} {s : State} {m : MethodId} {args : Array Value} {below : List Frame} {meth : Method} {c : Code} {H : Heap} {locs : List Loc} {cells slots : Nat} {Q : State → Prop} {D : va_G} {cI cZ cK : ClassId} {cc : ByteArray} {pc : Nat} {ls : Array Slot} {rest : List Value} {a : Nat} {fs : List Value} {ws : va_W} {v : Value} (hx : p.tables.exec = Jvm.exec) (hb : c.code = cc) (hown : s.vm.findClass RX12 = some m.cls) (hk : kq D cI cZ cK s) (hP : va_P D vwCl ws H) (q0 : Nat) (he : ws[q0]? = some (a, .inr (12, fs))) (hv : fs[30]? = some v) (hdg : decode cc pc = .ok (.getfield 45, 3)) (kk : W p l e R s m args below meth c H locs cells slots Q (F0 m (pc + 3) ls (v :: rest))) : W p l e R s m args below meth c H locs cells slots Q (F0 m pc ls (.ref a :: rest)) := va_get (C := RX12) (T := TX12) (N := 33) hx hb (lay_X12 hk.2.1 args) (fun _ h => h) hown hk.1 hP q0 he rfl 30 (by decide) (fl_X12_45 hk.2.1 args) (fun _ h9 => h9) hv hdg kk
theorem fl_X12_48 {U : State} (h : tb U) (a : Array Value) : (Cond.fieldLink RX12 48 RX12 (TX12 31).2.1 (TX12 31).2.2.1).before a U = true := h (Cond.fieldLink "AskedRoutesModel" 48 "AskedRoutesModel" "seenTo" "[I") (List.mem_of_getElem? (i := 756) (by decide +kernel)) rfl a
theorem gf_X12_48 {p : Program} {l : Launch} {e : Env} {R : Room} {s : State} {m : MethodId} {args : Array Value} {below : List Frame} {meth : Method} {c : Code} {H : Heap} {locs : List Loc} {cells slots : Nat} {Q : State → Prop} {D : va_G} {cI cZ cK : ClassId} {cc : ByteArray} {pc : Nat} {ls : Array Slot} {rest : List Value} {a : Nat} {fs : List Value} {ws : va_W} {v : Value} (hx : p.tables.exec = Jvm.exec) (hb : c.code = cc) (hown : s.vm.findClass RX12 = some m.cls) (hk : kq D cI cZ cK s) (hP : va_P D vwCl ws H) (q0 : Nat) (he : ws[q0]? = some (a, .inr (12, fs))) (hv : fs[31]? = some v) (hdg : decode cc pc = .ok (.getfield 48, 3)) (kk : W p l e R s m args below meth c H locs cells slots Q (F0 m (pc + 3) ls (v :: rest))) : W p l e R s m args below meth c H locs cells slots Q (F0 m pc ls (.ref a :: rest)) := va_get (C := RX12) (T := TX12) (N := 33) hx hb (lay_X12 hk.2.1 args) (fun _ h => h) hown hk.1 hP q0 he rfl 31 (by decide) (fl_X12_48 hk.2.1 args) (fun _ h9 => h9) hv hdg kk
theorem fl_X12_51 {U : State} (h : tb U) (a : Array Value) : (Cond.fieldLink RX12 51 RX12 (TX12 32).2.1 (TX12 32).2.2.1).before a U = true := h (Cond.fieldLink "AskedRoutesModel" 51 "AskedRoutesModel" "seen" "[I") (List.mem_of_getElem? (i := 757) (by decide +kernel)) rfl a
theorem gf_X12_51 {p : Program} {l : Launch} {e : Env} {R : Room} {s : State} {m : MethodId} {args : Array Value} {below : List Frame} {meth : Method} {c : Code} {H : Heap} {locs : List Loc} {cells slots : Nat} {Q : State → Prop} {D : va_G} {cI cZ cK : ClassId} {cc : ByteArray} {pc : Nat} {ls : Array Slot} {rest : List Value} {a : Nat} {fs : List Value} {ws : va_W} {v : Value} (hx : p.tables.exec = Jvm.exec) (hb : c.code = cc) (hown : s.vm.findClass RX12 = some m.cls) (hk : kq D cI cZ cK s) (hP : va_P D vwCl ws H) (q0 : Nat) (he : ws[q0]? = some (a, .inr (12, fs))) (hv : fs[32]? = some v) (hdg : decode cc pc = .ok (.getfield 51, 3)) (kk : W p l e R s m args below meth c H locs cells slots Q (F0 m (pc + 3) ls (v :: rest))) : W p l e R s m args below meth c H locs cells slots Q (F0 m pc ls (.ref a :: rest)) := va_get (C := RX12) (T := TX12) (N := 33) hx hb (lay_X12 hk.2.1 args) (fun _ h => h) hown hk.1 hP q0 he rfl 32 (by decide) (fl_X12_51 hk.2.1 args) (fun _ h9 => h9) hv hdg kk
theorem fl_X12_66 {U : State} (h : tb U) (a : Array Value) : (Cond.fieldLink RX12 66 RX12 (TX12 12).2.1 (TX12 12).2.2.1).before a U = true := h (Cond.fieldLink "AskedRoutesModel" 66 "AskedRoutesModel" "letterMany" "I") (List.mem_of_getElem? (i := 737) (by decide +kernel)) rfl a
theorem gf_X12_66 {p : Program} {l : Launch} {e : Env} {R : Room} {s : State} {m : MethodId} {args : Array Value} {below : List Frame} {meth : Method} {c : Code} {H : Heap} {locs : List Loc} {cells slots : Nat} {Q : State → Prop} {D : va_G} {cI cZ cK : ClassId} {cc : ByteArray} {pc : Nat} {ls : Array Slot} {rest : List Value} {a : Nat} {fs : List Value} {ws : va_W} {v : Value} (hx : p.tables.exec = Jvm.exec) (hb : c.code = cc) (hown : s.vm.findClass RX12 = some m.cls) (hk : kq D cI cZ cK s) (hP : va_P D vwCl ws H) (q0 : Nat) (he : ws[q0]? = some (a, .inr (12, fs))) (hv : fs[12]? = some v) (hdg : decode cc pc = .ok (.getfield 66, 3)) (kk : W p l e R s m args below meth c H locs cells slots Q (F0 m (pc + 3) ls (v :: rest))) : W p l e R s m args below meth c H locs cells slots Q (F0 m pc ls (.ref a :: rest)) := va_get (C := RX12) (T := TX12) (N := 33) hx hb (lay_X12 hk.2.1 args) (fun _ h => h) hown hk.1 hP q0 he rfl 12 (by decide) (fl_X12_66 hk.2.1 args) (fun _ h9 => h9) hv hdg kk
theorem pf_X12_66 {p : Program} {l : Launch} {e : Env} {R : Room} {s : State} {m : MethodId} {args : Array Value} {below : List Frame} {meth : Method} {c : Code} {H : Heap} {locs : List Loc} {cells slots : Nat} {Q : State → Prop} {D : va_G} {cI cZ cK : ClassId} {cc : ByteArray} {pc : Nat} {ls : Array Slot} {rest : List Value} {a : Nat} {fs : List Value} {A : Nat → Prop} {H0 : Heap} {ws ws' : va_W} {x : Int32} (hx : p.tables.exec = Jvm.exec) (hb : c.code = cc) (hown : s.vm.findClass RX12 = some m.cls) (hk : kq D cI cZ cK s) (w : wd D A H0 H locs ws) (q0 : Nat) (he : ws[q0]? = some (a, .inr (12, fs))) (hl : 12 < fs.length) (hs : ws.set q0 (a, .inr (12, fs.set 12 (.int x))) = ws') (hdg : decode cc pc = .ok (.putfield 66, 3)) (kk : ∀ (H1 : Heap) (locs1 : List Loc), wd D A H0 H1 locs1 ws' → W p l e R s m args below meth c H1 locs1 cells slots Q (F0 m (pc + 3) ls rest)) : W p l e R s m args below meth c H locs cells slots Q (F0 m pc ls (.int x :: .ref a :: rest)) := va_put (ty := .int) (C := RX12) (T := TX12) (N := 33) hx hb (lay_X12 hk.2.1 args) (fun _ h => h) tyX12 tyX12_ok nmX12 hown hk.1 w.1 w.2.1 w.2.2 q0 he rfl 12 (by decide) (fl_X12_66 hk.2.1 args) (fun _ h9 => h9) rfl (by decide +kernel) (vp_nar_int x) rfl hl hdg (fun H1 locs1 h1 h2 h3 => kk H1 locs1 ⟨by rw [← hs]; exact h1, by rw [← hs]; exact h2, h3⟩)
theorem fl_X12_69 {U : State} (h : tb U) (a : Array Value) : (Cond.fieldLink RX12 69 RX12 (TX12 14).2.1 (TX12 14).2.2.1).before a U = true := h (Cond.fieldLink "AskedRoutesModel" 69 "AskedRoutesModel" "readAt" "I") (List.mem_of_getElem? (i := 739) (by decide +kernel)) rfl a
theorem gf_X12_69 {p : Program} {l : Launch} {e : Env} {R : Room} {s : State} {m : MethodId} {args : Array Value} {below : List Frame} {meth : Method} {c : Code} {H : Heap} {locs : List Loc} {cells slots : Nat} {Q : State → Prop} {D : va_G} {cI cZ cK : ClassId} {cc : ByteArray} {pc : Nat} {ls : Array Slot} {rest : List Value} {a : Nat} {fs : List Value} {ws : va_W} {v : Value} (hx : p.tables.exec = Jvm.exec) (hb : c.code = cc) (hown : s.vm.findClass RX12 = some m.cls) (hk : kq D cI cZ cK s) (hP : va_P D vwCl ws H) (q0 : Nat) (he : ws[q0]? = some (a, .inr (12, fs))) (hv : fs[14]? = some v) (hdg : decode cc pc = .ok (.getfield 69, 3)) (kk : W p l e R s m args below meth c H locs cells slots Q (F0 m (pc + 3) ls (v :: rest))) : W p l e R s m args below meth c H locs cells slots Q (F0 m pc ls (.ref a :: rest)) := va_get (C := RX12) (T := TX12) (N := 33) hx hb (lay_X12 hk.2.1 args) (fun _ h => h) hown hk.1 hP q0 he rfl 14 (by decide) (fl_X12_69 hk.2.1 args) (fun _ h9 => h9) hv hdg kk
theorem pf_X12_69 {p : Program} {l : Launch} {e : Env} {R : Room} {s : State} {m : MethodId} {args : Array Value} {below : List Frame} {meth : Method} {c : Code} {H : Heap} {locs : List Loc} {cells slots : Nat} {Q : State → Prop} {D : va_G} {cI cZ cK : ClassId} {cc : ByteArray} {pc : Nat} {ls : Array Slot} {rest : List Value} {a : Nat} {fs : List Value} {A : Nat → Prop} {H0 : Heap} {ws ws' : va_W} {x : Int32} (hx : p.tables.exec = Jvm.exec) (hb : c.code = cc) (hown : s.vm.findClass RX12 = some m.cls) (hk : kq D cI cZ cK s) (w : wd D A H0 H locs ws) (q0 : Nat) (he : ws[q0]? = some (a, .inr (12, fs))) (hl : 14 < fs.length) (hs : ws.set q0 (a, .inr (12, fs.set 14 (.int x))) = ws') (hdg : decode cc pc = .ok (.putfield 69, 3)) (kk : ∀ (H1 : Heap) (locs1 : List Loc), wd D A H0 H1 locs1 ws' → W p l e R s m args below meth c H1 locs1 cells slots Q (F0 m (pc + 3) ls rest)) : W p l e R s m args below meth c H locs cells slots Q (F0 m pc ls (.int x :: .ref a :: rest)) := va_put (ty := .int) (C := RX12) (T := TX12) (N := 33) hx hb (lay_X12 hk.2.1 args) (fun _ h => h) tyX12 tyX12_ok nmX12 hown hk.1 w.1 w.2.1 w.2.2 q0 he rfl 14 (by decide) (fl_X12_69 hk.2.1 args) (fun _ h9 => h9) rfl (by decide +kernel) (vp_nar_int x) rfl hl hdg (fun H1 locs1 h1 h2 h3 => kk H1 locs1 ⟨by rw [← hs]; exact h1, by rw [← hs]; exact h2, h3⟩)
theorem fl_X12_75 {U : State} (h : tb U) (a : Array Value) : (Cond.fieldLink RX12 75 RX12 (TX12 15).2.1 (TX12 15).2.2.1).before a U = true := h (Cond.fieldLink "AskedRoutesModel" 75 "AskedRoutesModel" "tokenAt" "I") (List.mem_of_getElem? (i := 740) (by decide +kernel)) rfl a
theorem gf_X12_75 {p : Program} {l : Launch} {e : Env} {R : Room} {s : State} {m : MethodId} {args : Array Value} {below : List Frame} {meth : Method} {c : Code} {H : Heap} {locs : List Loc} {cells slots : Nat} {Q : State → Prop} {D : va_G} {cI cZ cK : ClassId} {cc : ByteArray} {pc : Nat} {ls : Array Slot} {rest : List Value} {a : Nat} {fs : List Value} {ws : va_W} {v : Value} (hx : p.tables.exec = Jvm.exec) (hb : c.code = cc) (hown : s.vm.findClass RX12 = some m.cls) (hk : kq D cI cZ cK s) (hP : va_P D vwCl ws H) (q0 : Nat) (he : ws[q0]? = some (a, .inr (12, fs))) (hv : fs[15]? = some v) (hdg : decode cc pc = .ok (.getfield 75, 3)) (kk : W p l e R s m args below meth c H locs cells slots Q (F0 m (pc + 3) ls (v :: rest))) : W p l e R s m args below meth c H locs cells slots Q (F0 m pc ls (.ref a :: rest)) := va_get (C := RX12) (T := TX12) (N := 33) hx hb (lay_X12 hk.2.1 args) (fun _ h => h) hown hk.1 hP q0 he rfl 15 (by decide) (fl_X12_75 hk.2.1 args) (fun _ h9 => h9) hv hdg kk
theorem pf_X12_75 {p : Program} {l : Launch} {e : Env} {R : Room} {s : State} {m : MethodId} {args : Array Value} {below : List Frame} {meth : Method} {c : Code} {H : Heap} {locs : List Loc} {cells slots : Nat} {Q : State → Prop} {D : va_G} {cI cZ cK : ClassId} {cc : ByteArray} {pc : Nat} {ls : Array Slot} {rest : List Value} {a : Nat} {fs : List Value} {A : Nat → Prop} {H0 : Heap} {ws ws' : va_W} {x : Int32} (hx : p.tables.exec = Jvm.exec) (hb : c.code = cc) (hown : s.vm.findClass RX12 = some m.cls) (hk : kq D cI cZ cK s) (w : wd D A H0 H locs ws) (q0 : Nat) (he : ws[q0]? = some (a, .inr (12, fs))) (hl : 15 < fs.length) (hs : ws.set q0 (a, .inr (12, fs.set 15 (.int x))) = ws') (hdg : decode cc pc = .ok (.putfield 75, 3)) (kk : ∀ (H1 : Heap) (locs1 : List Loc), wd D A H0 H1 locs1 ws' → W p l e R s m args below meth c H1 locs1 cells slots Q (F0 m (pc + 3) ls rest)) : W p l e R s m args below meth c H locs cells slots Q (F0 m pc ls (.int x :: .ref a :: rest)) := va_put (ty := .int) (C := RX12) (T := TX12) (N := 33) hx hb (lay_X12 hk.2.1 args) (fun _ h => h) tyX12 tyX12_ok nmX12 hown hk.1 w.1 w.2.1 w.2.2 q0 he rfl 15 (by decide) (fl_X12_75 hk.2.1 args) (fun _ h9 => h9) rfl (by decide +kernel) (vp_nar_int x) rfl hl hdg (fun H1 locs1 h1 h2 h3 => kk H1 locs1 ⟨by rw [← hs]; exact h1, by rw [← hs]; exact h2, h3⟩)
theorem fl_X12_78 {U : State} (h : tb U) (a : Array Value) : (Cond.fieldLink RX12 78 RX12 (TX12 16).2.1 (TX12 16).2.2.1).before a U = true := h (Cond.fieldLink "AskedRoutesModel" 78 "AskedRoutesModel" "token" "I") (List.mem_of_getElem? (i := 741) (by decide +kernel)) rfl a
theorem gf_X12_78 {p : Program} {l : Launch} {e : Env} {R : Room} {s : State} {m : MethodId} {args : Array Value} {below : List Frame} {meth : Method} {c : Code} {H : Heap} {locs : List Loc} {cells slots : Nat} {Q : State → Prop} {D : va_G} {cI cZ cK : ClassId} {cc : ByteArray} {pc : Nat} {ls : Array Slot} {rest : List Value} {a : Nat} {fs : List Value} {ws : va_W} {v : Value} (hx : p.tables.exec = Jvm.exec) (hb : c.code = cc) (hown : s.vm.findClass RX12 = some m.cls) (hk : kq D cI cZ cK s) (hP : va_P D vwCl ws H) (q0 : Nat) (he : ws[q0]? = some (a, .inr (12, fs))) (hv : fs[16]? = some v) (hdg : decode cc pc = .ok (.getfield 78, 3)) (kk : W p l e R s m args below meth c H locs cells slots Q (F0 m (pc + 3) ls (v :: rest))) : W p l e R s m args below meth c H locs cells slots Q (F0 m pc ls (.ref a :: rest)) := va_get (C := RX12) (T := TX12) (N := 33) hx hb (lay_X12 hk.2.1 args) (fun _ h => h) hown hk.1 hP q0 he rfl 16 (by decide) (fl_X12_78 hk.2.1 args) (fun _ h9 => h9) hv hdg kk
theorem pf_X12_78 {p : Program} {l : Launch} {e : Env} {R : Room} {s : State} {m : MethodId} {args : Array Value} {below : List Frame} {meth : Method} {c : Code} {H : Heap} {locs : List Loc} {cells slots : Nat} {Q : State → Prop} {D : va_G} {cI cZ cK : ClassId} {cc : ByteArray} {pc : Nat} {ls : Array Slot} {rest : List Value} {a : Nat} {fs : List Value} {A : Nat → Prop} {H0 : Heap} {ws ws' : va_W} {x : Int32} (hx : p.tables.exec = Jvm.exec) (hb : c.code = cc) (hown : s.vm.findClass RX12 = some m.cls) (hk : kq D cI cZ cK s) (w : wd D A H0 H locs ws) (q0 : Nat) (he : ws[q0]? = some (a, .inr (12, fs))) (hl : 16 < fs.length) (hs : ws.set q0 (a, .inr (12, fs.set 16 (.int x))) = ws') (hdg : decode cc pc = .ok (.putfield 78, 3)) (kk : ∀ (H1 : Heap) (locs1 : List Loc), wd D A H0 H1 locs1 ws' → W p l e R s m args below meth c H1 locs1 cells slots Q (F0 m (pc + 3) ls rest)) : W p l e R s m args below meth c H locs cells slots Q (F0 m pc ls (.int x :: .ref a :: rest)) := va_put (ty := .int) (C := RX12) (T := TX12) (N := 33) hx hb (lay_X12 hk.2.1 args) (fun _ h => h) tyX12 tyX12_ok nmX12 hown hk.1 w.1 w.2.1 w.2.2 q0 he rfl 16 (by decide) (fl_X12_78 hk.2.1 args) (fun _ h9 => h9) rfl (by decide +kernel) (vp_nar_int x) rfl hl hdg (fun H1 locs1 h1 h2 h3 => kk H1 locs1 ⟨by rw [← hs]; exact h1, by rw [← hs]; exact h2, h3⟩)
theorem fl_X12_88 {U : State} (h : tb U) (a : Array Value) : (Cond.fieldLink RX12 88 RX12 (TX12 23).2.1 (TX12 23).2.2.1).before a U = true := h (Cond.fieldLink "AskedRoutesModel" 88 "AskedRoutesModel" "newLinks" "I") (List.mem_of_getElem? (i := 748) (by decide +kernel)) rfl a
theorem gf_X12_88 {p : Program} {l : Launch} {e : Env} {R : Room} {s : State} {m : MethodId} {args : Array Value} {below : List Frame} {meth : Method} {c : Code} {H : Heap} {locs : List Loc} {cells slots : Nat} {Q : State → Prop} {D : va_G} {cI cZ cK : ClassId} {cc : ByteArray} {pc : Nat} {ls : Array Slot} {rest : List Value} {a : Nat} {fs : List Value} {ws : va_W} {v : Value} (hx : p.tables.exec = Jvm.exec) (hb : c.code = cc) (hown : s.vm.findClass RX12 = some m.cls) (hk : kq D cI cZ cK s) (hP : va_P D vwCl ws H) (q0 : Nat) (he : ws[q0]? = some (a, .inr (12, fs))) (hv : fs[23]? = some v) (hdg : decode cc pc = .ok (.getfield 88, 3)) (kk : W p l e R s m args below meth c H locs cells slots Q (F0 m (pc + 3) ls (v :: rest))) : W p l e R s m args below meth c H locs cells slots Q (F0 m pc ls (.ref a :: rest)) := va_get (C := RX12) (T := TX12) (N := 33) hx hb (lay_X12 hk.2.1 args) (fun _ h => h) hown hk.1 hP q0 he rfl 23 (by decide) (fl_X12_88 hk.2.1 args) (fun _ h9 => h9) hv hdg kk
theorem pf_X12_88 {p : Program} {l : Launch} {e : Env} {R : Room} {s : State} {m : MethodId} {args : Array Value} {below : List Frame} {meth : Method} {c : Code} {H : Heap} {locs : List Loc} {cells slots : Nat} {Q : State → Prop} {D : va_G} {cI cZ cK : ClassId} {cc : ByteArray} {pc : Nat} {ls : Array Slot} {rest : List Value} {a : Nat} {fs : List Value} {A : Nat → Prop} {H0 : Heap} {ws ws' : va_W} {x : Int32} (hx : p.tables.exec = Jvm.exec) (hb : c.code = cc) (hown : s.vm.findClass RX12 = some m.cls) (hk : kq D cI cZ cK s) (w : wd D A H0 H locs ws) (q0 : Nat) (he : ws[q0]? = some (a, .inr (12, fs))) (hl : 23 < fs.length) (hs : ws.set q0 (a, .inr (12, fs.set 23 (.int x))) = ws') (hdg : decode cc pc = .ok (.putfield 88, 3)) (kk : ∀ (H1 : Heap) (locs1 : List Loc), wd D A H0 H1 locs1 ws' → W p l e R s m args below meth c H1 locs1 cells slots Q (F0 m (pc + 3) ls rest)) : W p l e R s m args below meth c H locs cells slots Q (F0 m pc ls (.int x :: .ref a :: rest)) := va_put (ty := .int) (C := RX12) (T := TX12) (N := 33) hx hb (lay_X12 hk.2.1 args) (fun _ h => h) tyX12 tyX12_ok nmX12 hown hk.1 w.1 w.2.1 w.2.2 q0 he rfl 23 (by decide) (fl_X12_88 hk.2.1 args) (fun _ h9 => h9) rfl (by decide +kernel) (vp_nar_int x) rfl hl hdg (fun H1 locs1 h1 h2 h3 => kk H1 locs1 ⟨by rw [← hs]; exact h1, by rw [← hs]; exact h2, h3⟩)
theorem fl_X12_91 {U : State} (h : tb U) (a : Array Value) : (Cond.fieldLink RX12 91 RX12 (TX12 17).2.1 (TX12 17).2.2.1).before a U = true := h (Cond.fieldLink "AskedRoutesModel" 91 "AskedRoutesModel" "newNodes" "I") (List.mem_of_getElem? (i := 742) (by decide +kernel)) rfl a
theorem gf_X12_91 {p : Program} {l : Launch} {e : Env} {R : Room} {s : State} {m : MethodId} {args : Array Value} {below : List Frame} {meth : Method} {c : Code} {H : Heap} {locs : List Loc} {cells slots : Nat} {Q : State → Prop} {D : va_G} {cI cZ cK : ClassId} {cc : ByteArray} {pc : Nat} {ls : Array Slot} {rest : List Value} {a : Nat} {fs : List Value} {ws : va_W} {v : Value} (hx : p.tables.exec = Jvm.exec) (hb : c.code = cc) (hown : s.vm.findClass RX12 = some m.cls) (hk : kq D cI cZ cK s) (hP : va_P D vwCl ws H) (q0 : Nat) (he : ws[q0]? = some (a, .inr (12, fs))) (hv : fs[17]? = some v) (hdg : decode cc pc = .ok (.getfield 91, 3)) (kk : W p l e R s m args below meth c H locs cells slots Q (F0 m (pc + 3) ls (v :: rest))) : W p l e R s m args below meth c H locs cells slots Q (F0 m pc ls (.ref a :: rest)) := va_get (C := RX12) (T := TX12) (N := 33) hx hb (lay_X12 hk.2.1 args) (fun _ h => h) hown hk.1 hP q0 he rfl 17 (by decide) (fl_X12_91 hk.2.1 args) (fun _ h9 => h9) hv hdg kk
theorem pf_X12_91 {p : Program} {l : Launch} {e : Env} {R : Room} {s : State} {m : MethodId} {args : Array Value} {below : List Frame} {meth : Method} {c : Code} {H : Heap} {locs : List Loc} {cells slots : Nat} {Q : State → Prop} {D : va_G} {cI cZ cK : ClassId} {cc : ByteArray} {pc : Nat} {ls : Array Slot} {rest : List Value} {a : Nat} {fs : List Value} {A : Nat → Prop} {H0 : Heap} {ws ws' : va_W} {x : Int32} (hx : p.tables.exec = Jvm.exec) (hb : c.code = cc) (hown : s.vm.findClass RX12 = some m.cls) (hk : kq D cI cZ cK s) (w : wd D A H0 H locs ws) (q0 : Nat) (he : ws[q0]? = some (a, .inr (12, fs))) (hl : 17 < fs.length) (hs : ws.set q0 (a, .inr (12, fs.set 17 (.int x))) = ws') (hdg : decode cc pc = .ok (.putfield 91, 3)) (kk : ∀ (H1 : Heap) (locs1 : List Loc), wd D A H0 H1 locs1 ws' → W p l e R s m args below meth c H1 locs1 cells slots Q (F0 m (pc + 3) ls rest)) : W p l e R s m args below meth c H locs cells slots Q (F0 m pc ls (.int x :: .ref a :: rest)) := va_put (ty := .int) (C := RX12) (T := TX12) (N := 33) hx hb (lay_X12 hk.2.1 args) (fun _ h => h) tyX12 tyX12_ok nmX12 hown hk.1 w.1 w.2.1 w.2.2 q0 he rfl 17 (by decide) (fl_X12_91 hk.2.1 args) (fun _ h9 => h9) rfl (by decide +kernel) (vp_nar_int x) rfl hl hdg (fun H1 locs1 h1 h2 h3 => kk H1 locs1 ⟨by rw [← hs]; exact h1, by rw [← hs]; exact h2, h3⟩)
theorem fl_X12_101 {U : State} (h : tb U) (a : Array Value) : (Cond.fieldLink RX12 101 RX12 (TX12 18).2.1 (TX12 18).2.2.1).before a U = true := h (Cond.fieldLink "AskedRoutesModel" 101 "AskedRoutesModel" "newEvery" "I") (List.mem_of_getElem? (i := 743) (by decide +kernel)) rfl a
theorem gf_X12_101 {p : Program} {l : Launch} {e : Env} {R : Room} {s : State} {m : MethodId} {args : Array Value} {below : List Frame} {meth : Method} {c : Code} {H : Heap} {locs : List Loc} {cells slots : Nat} {Q : State → Prop} {D : va_G} {cI cZ cK : ClassId} {cc : ByteArray} {pc : Nat} {ls : Array Slot} {rest : List Value} {a : Nat} {fs : List Value} {ws : va_W} {v : Value} (hx : p.tables.exec = Jvm.exec) (hb : c.code = cc) (hown : s.vm.findClass RX12 = some m.cls) (hk : kq D cI cZ cK s) (hP : va_P D vwCl ws H) (q0 : Nat) (he : ws[q0]? = some (a, .inr (12, fs))) (hv : fs[18]? = some v) (hdg : decode cc pc = .ok (.getfield 101, 3)) (kk : W p l e R s m args below meth c H locs cells slots Q (F0 m (pc + 3) ls (v :: rest))) : W p l e R s m args below meth c H locs cells slots Q (F0 m pc ls (.ref a :: rest)) := va_get (C := RX12) (T := TX12) (N := 33) hx hb (lay_X12 hk.2.1 args) (fun _ h => h) hown hk.1 hP q0 he rfl 18 (by decide) (fl_X12_101 hk.2.1 args) (fun _ h9 => h9) hv hdg kk
theorem pf_X12_101 {p : Program} {l : Launch} {e : Env} {R : Room} {s : State} {m : MethodId} {args : Array Value} {below : List Frame} {meth : Method} {c : Code} {H : Heap} {locs : List Loc} {cells slots : Nat} {Q : State → Prop} {D : va_G} {cI cZ cK : ClassId} {cc : ByteArray} {pc : Nat} {ls : Array Slot} {rest : List Value} {a : Nat} {fs : List Value} {A : Nat → Prop} {H0 : Heap} {ws ws' : va_W} {x : Int32} (hx : p.tables.exec = Jvm.exec) (hb : c.code = cc) (hown : s.vm.findClass RX12 = some m.cls) (hk : kq D cI cZ cK s) (w : wd D A H0 H locs ws) (q0 : Nat) (he : ws[q0]? = some (a, .inr (12, fs))) (hl : 18 < fs.length) (hs : ws.set q0 (a, .inr (12, fs.set 18 (.int x))) = ws') (hdg : decode cc pc = .ok (.putfield 101, 3)) (kk : ∀ (H1 : Heap) (locs1 : List Loc), wd D A H0 H1 locs1 ws' → W p l e R s m args below meth c H1 locs1 cells slots Q (F0 m (pc + 3) ls rest)) : W p l e R s m args below meth c H locs cells slots Q (F0 m pc ls (.int x :: .ref a :: rest)) := va_put (ty := .int) (C := RX12) (T := TX12) (N := 33) hx hb (lay_X12 hk.2.1 args) (fun _ h => h) tyX12 tyX12_ok nmX12 hown hk.1 w.1 w.2.1 w.2.2 q0 he rfl 18 (by decide) (fl_X12_101 hk.2.1 args) (fun _ h9 => h9) rfl (by decide +kernel) (vp_nar_int x) rfl hl hdg (fun H1 locs1 h1 h2 h3 => kk H1 locs1 ⟨by rw [← hs]; exact h1, by rw [← hs]; exact h2, h3⟩)
theorem fl_X12_104 {U : State} (h : tb U) (a : Array Value) : (Cond.fieldLink RX12 104 RX12 (TX12 19).2.1 (TX12 19).2.2.1).before a U = true := h (Cond.fieldLink "AskedRoutesModel" 104 "AskedRoutesModel" "newHalves" "I") (List.mem_of_getElem? (i := 744) (by decide +kernel)) rfl a
theorem gf_X12_104 {p : Program} {l : Launch} {e : Env} {R : Room} {s : State} {m : MethodId} {args : Array Value} {below : List Frame} {meth : Method} {c : Code} {H : Heap} {locs : List Loc} {cells slots : Nat} {Q : State → Prop} {D : va_G} {cI cZ cK : ClassId} {cc : ByteArray} {pc : Nat} {ls : Array Slot} {rest : List Value} {a : Nat} {fs : List Value} {ws : va_W} {v : Value} (hx : p.tables.exec = Jvm.exec) (hb : c.code = cc) (hown : s.vm.findClass RX12 = some m.cls) (hk : kq D cI cZ cK s) (hP : va_P D vwCl ws H) (q0 : Nat) (he : ws[q0]? = some (a, .inr (12, fs))) (hv : fs[19]? = some v) (hdg : decode cc pc = .ok (.getfield 104, 3)) (kk : W p l e R s m args below meth c H locs cells slots Q (F0 m (pc + 3) ls (v :: rest))) : W p l e R s m args below meth c H locs cells slots Q (F0 m pc ls (.ref a :: rest)) := va_get (C := RX12) (T := TX12) (N := 33) hx hb (lay_X12 hk.2.1 args) (fun _ h => h) hown hk.1 hP q0 he rfl 19 (by decide) (fl_X12_104 hk.2.1 args) (fun _ h9 => h9) hv hdg kk
theorem pf_X12_104 {p : Program} {l : Launch} {e : Env} {R : Room} {s : State} {m : MethodId} {args : Array Value} {below : List Frame} {meth : Method} {c : Code} {H : Heap} {locs : List Loc} {cells slots : Nat} {Q : State → Prop} {D : va_G} {cI cZ cK : ClassId} {cc : ByteArray} {pc : Nat} {ls : Array Slot} {rest : List Value} {a : Nat} {fs : List Value} {A : Nat → Prop} {H0 : Heap} {ws ws' : va_W} {x : Int32} (hx : p.tables.exec = Jvm.exec) (hb : c.code = cc) (hown : s.vm.findClass RX12 = some m.cls) (hk : kq D cI cZ cK s) (w : wd D A H0 H locs ws) (q0 : Nat) (he : ws[q0]? = some (a, .inr (12, fs))) (hl : 19 < fs.length) (hs : ws.set q0 (a, .inr (12, fs.set 19 (.int x))) = ws') (hdg : decode cc pc = .ok (.putfield 104, 3)) (kk : ∀ (H1 : Heap) (locs1 : List Loc), wd D A H0 H1 locs1 ws' → W p l e R s m args below meth c H1 locs1 cells slots Q (F0 m (pc + 3) ls rest)) : W p l e R s m args below meth c H locs cells slots Q (F0 m pc ls (.int x :: .ref a :: rest)) := va_put (ty := .int) (C := RX12) (T := TX12) (N := 33) hx hb (lay_X12 hk.2.1 args) (fun _ h => h) tyX12 tyX12_ok nmX12 hown hk.1 w.1 w.2.1 w.2.2 q0 he rfl 19 (by decide) (fl_X12_104 hk.2.1 args) (fun _ h9 => h9) rfl (by decide +kernel) (vp_nar_int x) rfl hl hdg (fun H1 locs1 h1 h2 h3 => kk H1 locs1 ⟨by rw [← hs]; exact h1, by rw [← hs]; exact h2, h3⟩)
theorem fl_X12_107 {U : State} (h : tb U) (a : Array Value) : (Cond.fieldLink RX12 107 RX12 (TX12 20).2.1 (TX12 20).2.2.1).before a U = true := h (Cond.fieldLink "AskedRoutesModel" 107 "AskedRoutesModel" "newAge" "I") (List.mem_of_getElem? (i := 745) (by decide +kernel)) rfl a
theorem gf_X12_107 {p : Program} {l : Launch} {e : Env} {R : Room} {s : State} {m : MethodId} {args : Array Value} {below : List Frame} {meth : Method} {c : Code} {H : Heap} {locs : List Loc} {cells slots : Nat} {Q : State → Prop} {D : va_G} {cI cZ cK : ClassId} {cc : ByteArray} {pc : Nat} {ls : Array Slot} {rest : List Value} {a : Nat} {fs : List Value} {ws : va_W} {v : Value} (hx : p.tables.exec = Jvm.exec) (hb : c.code = cc) (hown : s.vm.findClass RX12 = some m.cls) (hk : kq D cI cZ cK s) (hP : va_P D vwCl ws H) (q0 : Nat) (he : ws[q0]? = some (a, .inr (12, fs))) (hv : fs[20]? = some v) (hdg : decode cc pc = .ok (.getfield 107, 3)) (kk : W p l e R s m args below meth c H locs cells slots Q (F0 m (pc + 3) ls (v :: rest))) : W p l e R s m args below meth c H locs cells slots Q (F0 m pc ls (.ref a :: rest)) := va_get (C := RX12) (T := TX12) (N := 33) hx hb (lay_X12 hk.2.1 args) (fun _ h => h) hown hk.1 hP q0 he rfl 20 (by decide) (fl_X12_107 hk.2.1 args) (fun _ h9 => h9) hv hdg kk
theorem pf_X12_107 {p : Program} {l : Launch} {e : Env} {R : Room} {s : State} {m : MethodId} {args : Array Value} {below : List Frame} {meth : Method} {c : Code} {H : Heap} {locs : List Loc} {cells slots : Nat} {Q : State → Prop} {D : va_G} {cI cZ cK : ClassId} {cc : ByteArray} {pc : Nat} {ls : Array Slot} {rest : List Value} {a : Nat} {fs : List Value} {A : Nat → Prop} {H0 : Heap} {ws ws' : va_W} {x : Int32} (hx : p.tables.exec = Jvm.exec) (hb : c.code = cc) (hown : s.vm.findClass RX12 = some m.cls) (hk : kq D cI cZ cK s) (w : wd D A H0 H locs ws) (q0 : Nat) (he : ws[q0]? = some (a, .inr (12, fs))) (hl : 20 < fs.length) (hs : ws.set q0 (a, .inr (12, fs.set 20 (.int x))) = ws') (hdg : decode cc pc = .ok (.putfield 107, 3)) (kk : ∀ (H1 : Heap) (locs1 : List Loc), wd D A H0 H1 locs1 ws' → W p l e R s m args below meth c H1 locs1 cells slots Q (F0 m (pc + 3) ls rest)) : W p l e R s m args below meth c H locs cells slots Q (F0 m pc ls (.int x :: .ref a :: rest)) := va_put (ty := .int) (C := RX12) (T := TX12) (N := 33) hx hb (lay_X12 hk.2.1 args) (fun _ h => h) tyX12 tyX12_ok nmX12 hown hk.1 w.1 w.2.1 w.2.2 q0 he rfl 20 (by decide) (fl_X12_107 hk.2.1 args) (fun _ h9 => h9) rfl (by decide +kernel) (vp_nar_int x) rfl hl hdg (fun H1 locs1 h1 h2 h3 => kk H1 locs1 ⟨by rw [← hs]; exact h1, by rw [← hs]; exact h2, h3⟩)
theorem fl_X12_110 {U : State} (h : tb U) (a : Array Value) : (Cond.fieldLink RX12 110 RX12 (TX12 21).2.1 (TX12 21).2.2.1).before a U = true := h (Cond.fieldLink "AskedRoutesModel" 110 "AskedRoutesModel" "newLife" "I") (List.mem_of_getElem? (i := 746) (by decide +kernel)) rfl a
theorem gf_X12_110 {p : Program} {l : Launch} {e : Env} {R : Room} {s : State} {m : MethodId} {args : Array Value} {below : List Frame} {meth : Method} {c : Code} {H : Heap} {locs : List Loc} {cells slots : Nat} {Q : State → Prop} {D : va_G} {cI cZ cK : ClassId} {cc : ByteArray} {pc : Nat} {ls : Array Slot} {rest : List Value} {a : Nat} {fs : List Value} {ws : va_W} {v : Value} (hx : p.tables.exec = Jvm.exec) (hb : c.code = cc) (hown : s.vm.findClass RX12 = some m.cls) (hk : kq D cI cZ cK s) (hP : va_P D vwCl ws H) (q0 : Nat) (he : ws[q0]? = some (a, .inr (12, fs))) (hv : fs[21]? = some v) (hdg : decode cc pc = .ok (.getfield 110, 3)) (kk : W p l e R s m args below meth c H locs cells slots Q (F0 m (pc + 3) ls (v :: rest))) : W p l e R s m args below meth c H locs cells slots Q (F0 m pc ls (.ref a :: rest)) := va_get (C := RX12) (T := TX12) (N := 33) hx hb (lay_X12 hk.2.1 args) (fun _ h => h) hown hk.1 hP q0 he rfl 21 (by decide) (fl_X12_110 hk.2.1 args) (fun _ h9 => h9) hv hdg kk
theorem pf_X12_110 {p : Program} {l : Launch} {e : Env} {R : Room} {s : State} {m : MethodId} {args : Array Value} {below : List Frame} {meth : Method} {c : Code} {H : Heap} {locs : List Loc} {cells slots : Nat} {Q : State → Prop} {D : va_G} {cI cZ cK : ClassId} {cc : ByteArray} {pc : Nat} {ls : Array Slot} {rest : List Value} {a : Nat} {fs : List Value} {A : Nat → Prop} {H0 : Heap} {ws ws' : va_W} {x : Int32} (hx : p.tables.exec = Jvm.exec) (hb : c.code = cc) (hown : s.vm.findClass RX12 = some m.cls) (hk : kq D cI cZ cK s) (w : wd D A H0 H locs ws) (q0 : Nat) (he : ws[q0]? = some (a, .inr (12, fs))) (hl : 21 < fs.length) (hs : ws.set q0 (a, .inr (12, fs.set 21 (.int x))) = ws') (hdg : decode cc pc = .ok (.putfield 110, 3)) (kk : ∀ (H1 : Heap) (locs1 : List Loc), wd D A H0 H1 locs1 ws' → W p l e R s m args below meth c H1 locs1 cells slots Q (F0 m (pc + 3) ls rest)) : W p l e R s m args below meth c H locs cells slots Q (F0 m pc ls (.int x :: .ref a :: rest)) := va_put (ty := .int) (C := RX12) (T := TX12) (N := 33) hx hb (lay_X12 hk.2.1 args) (fun _ h => h) tyX12 tyX12_ok nmX12 hown hk.1 w.1 w.2.1 w.2.2 q0 he rfl 21 (by decide) (fl_X12_110 hk.2.1 args) (fun _ h9 => h9) rfl (by decide +kernel) (vp_nar_int x) rfl hl hdg (fun H1 locs1 h1 h2 h3 => kk H1 locs1 ⟨by rw [← hs]; exact h1, by rw [← hs]; exact h2, h3⟩)
theorem fl_X12_113 {U : State} (h : tb U) (a : Array Value) : (Cond.fieldLink RX12 113 RX12 (TX12 22).2.1 (TX12 22).2.2.1).before a U = true := h (Cond.fieldLink "AskedRoutesModel" 113 "AskedRoutesModel" "newFirst" "I") (List.mem_of_getElem? (i := 747) (by decide +kernel)) rfl a
theorem gf_X12_113 {p : Program} {l : Launch} {e : Env} {R : Room} {s : State} {m : MethodId} {args : Array Value} {below : List Frame} {meth : Method} {c : Code} {H : Heap} {locs : List Loc} {cells slots : Nat} {Q : State → Prop} {D : va_G} {cI cZ cK : ClassId} {cc : ByteArray} {pc : Nat} {ls : Array Slot} {rest : List Value} {a : Nat} {fs : List Value} {ws : va_W} {v : Value} (hx : p.tables.exec = Jvm.exec) (hb : c.code = cc) (hown : s.vm.findClass RX12 = some m.cls) (hk : kq D cI cZ cK s) (hP : va_P D vwCl ws H) (q0 : Nat) (he : ws[q0]? = some (a, .inr (12, fs))) (hv : fs[22]? = some v) (hdg : decode cc pc = .ok (.getfield 113, 3)) (kk : W p l e R s m args below meth c H locs cells slots Q (F0 m (pc + 3) ls (v :: rest))) : W p l e R s m args below meth c H locs cells slots Q (F0 m pc ls (.ref a :: rest)) := va_get (C := RX12) (T := TX12) (N := 33) hx hb (lay_X12 hk.2.1 args) (fun _ h => h) hown hk.1 hP q0 he rfl 22 (by decide) (fl_X12_113 hk.2.1 args) (fun _ h9 => h9) hv hdg kk
theorem pf_X12_113 {p : Program} {l : Launch} {e : Env} {R : Room} {s : State} {m : MethodId} {args : Array Value} {below : List Frame} {meth : Method} {c : Code} {H : Heap} {locs : List Loc} {cells slots : Nat} {Q : State → Prop} {D : va_G} {cI cZ cK : ClassId} {cc : ByteArray} {pc : Nat} {ls : Array Slot} {rest : List Value} {a : Nat} {fs : List Value} {A : Nat → Prop} {H0 : Heap} {ws ws' : va_W} {x : Int32} (hx : p.tables.exec = Jvm.exec) (hb : c.code = cc) (hown : s.vm.findClass RX12 = some m.cls) (hk : kq D cI cZ cK s) (w : wd D A H0 H locs ws) (q0 : Nat) (he : ws[q0]? = some (a, .inr (12, fs))) (hl : 22 < fs.length) (hs : ws.set q0 (a, .inr (12, fs.set 22 (.int x))) = ws') (hdg : decode cc pc = .ok (.putfield 113, 3)) (kk : ∀ (H1 : Heap) (locs1 : List Loc), wd D A H0 H1 locs1 ws' → W p l e R s m args below meth c H1 locs1 cells slots Q (F0 m (pc + 3) ls rest)) : W p l e R s m args below meth c H locs cells slots Q (F0 m pc ls (.int x :: .ref a :: rest)) := va_put (ty := .int) (C := RX12) (T := TX12) (N := 33) hx hb (lay_X12 hk.2.1 args) (fun _ h => h) tyX12 tyX12_ok nmX12 hown hk.1 w.1 w.2.1 w.2.2 q0 he rfl 22 (by decide) (fl_X12_113 hk.2.1 args) (fun _ h9 => h9) rfl (by decide +kernel) (vp_nar_int x) rfl hl hdg (fun H1 locs1 h1 h2 h3 => kk H1 locs1 ⟨by rw [← hs]; exact h1, by rw [← hs]; exact h2, h3⟩)
theorem fl_X12_120 {U : State} (h : tb U) (a : Array Value) : (Cond.fieldLink RX12 120 RX12 (TX12 1).2.1 (TX12 1).2.2.1).before a U = true := h (Cond.fieldLink "AskedRoutesModel" 120 "AskedRoutesModel" "every" "I") (List.mem_of_getElem? (i := 726) (by decide +kernel)) rfl a
theorem gf_X12_120 {p : Program} {l : Launch} {e : Env} {R : Room} {s : State} {m : MethodId} {args : Array Value} {below : List Frame} {meth : Method} {c : Code} {H : Heap} {locs : List Loc} {cells slots : Nat} {Q : State → Prop} {D : va_G} {cI cZ cK : ClassId} {cc : ByteArray} {pc : Nat} {ls : Array Slot} {rest : List Value} {a : Nat} {fs : List Value} {ws : va_W} {v : Value} (hx : p.tables.exec = Jvm.exec) (hb : c.code = cc) (hown : s.vm.findClass RX12 = some m.cls) (hk : kq D cI cZ cK s) (hP : va_P D vwCl ws H) (q0 : Nat) (he : ws[q0]? = some (a, .inr (12, fs))) (hv : fs[1]? = some v) (hdg : decode cc pc = .ok (.getfield 120, 3)) (kk : W p l e R s m args below meth c H locs cells slots Q (F0 m (pc + 3) ls (v :: rest))) : W p l e R s m args below meth c H locs cells slots Q (F0 m pc ls (.ref a :: rest)) := va_get (C := RX12) (T := TX12) (N := 33) hx hb (lay_X12 hk.2.1 args) (fun _ h => h) hown hk.1 hP q0 he rfl 1 (by decide) (fl_X12_120 hk.2.1 args) (fun _ h9 => h9) hv hdg kk
theorem pf_X12_120 {p : Program} {l : Launch} {e : Env} {R : Room} {s : State} {m : MethodId} {args : Array Value} {below : List Frame} {meth : Method} {c : Code} {H : Heap} {locs : List Loc} {cells slots : Nat} {Q : State → Prop} {D : va_G} {cI cZ cK : ClassId} {cc : ByteArray} {pc : Nat} {ls : Array Slot} {rest : List Value} {a : Nat} {fs : List Value} {A : Nat → Prop} {H0 : Heap} {ws ws' : va_W} {x : Int32} (hx : p.tables.exec = Jvm.exec) (hb : c.code = cc) (hown : s.vm.findClass RX12 = some m.cls) (hk : kq D cI cZ cK s) (w : wd D A H0 H locs ws) (q0 : Nat) (he : ws[q0]? = some (a, .inr (12, fs))) (hl : 1 < fs.length) (hs : ws.set q0 (a, .inr (12, fs.set 1 (.int x))) = ws') (hdg : decode cc pc = .ok (.putfield 120, 3)) (kk : ∀ (H1 : Heap) (locs1 : List Loc), wd D A H0 H1 locs1 ws' → W p l e R s m args below meth c H1 locs1 cells slots Q (F0 m (pc + 3) ls rest)) : W p l e R s m args below meth c H locs cells slots Q (F0 m pc ls (.int x :: .ref a :: rest)) := va_put (ty := .int) (C := RX12) (T := TX12) (N := 33) hx hb (lay_X12 hk.2.1 args) (fun _ h => h) tyX12 tyX12_ok nmX12 hown hk.1 w.1 w.2.1 w.2.2 q0 he rfl 1 (by decide) (fl_X12_120 hk.2.1 args) (fun _ h9 => h9) rfl (by decide +kernel) (vp_nar_int x) rfl hl hdg (fun H1 locs1 h1 h2 h3 => kk H1 locs1 ⟨by rw [← hs]; exact h1, by rw [← hs]; exact h2, h3⟩)
theorem fl_X12_123 {U : State} (h : tb U) (a : Array Value) : (Cond.fieldLink RX12 123 RX12 (TX12 2).2.1 (TX12 2).2.2.1).before a U = true := h (Cond.fieldLink "AskedRoutesModel" 123 "AskedRoutesModel" "halves" "I") (List.mem_of_getElem? (i := 727) (by decide +kernel)) rfl a
theorem gf_X12_123 {p : Program} {l : Launch} {e : Env} {R : Room} {s : State} {m : MethodId} {args : Array Value} {below : List Frame} {meth : Method} {c : Code} {H : Heap} {locs : List Loc} {cells slots : Nat} {Q : State → Prop} {D : va_G} {cI cZ cK : ClassId} {cc : ByteArray} {pc : Nat} {ls : Array Slot} {rest : List Value} {a : Nat} {fs : List Value} {ws : va_W} {v : Value} (hx : p.tables.exec = Jvm.exec) (hb : c.code = cc) (hown : s.vm.findClass RX12 = some m.cls) (hk : kq D cI cZ cK s) (hP : va_P D vwCl ws H) (q0 : Nat) (he : ws[q0]? = some (a, .inr (12, fs))) (hv : fs[2]? = some v) (hdg : decode cc pc = .ok (.getfield 123, 3)) (kk : W p l e R s m args below meth c H locs cells slots Q (F0 m (pc + 3) ls (v :: rest))) : W p l e R s m args below meth c H locs cells slots Q (F0 m pc ls (.ref a :: rest)) := va_get (C := RX12) (T := TX12) (N := 33) hx hb (lay_X12 hk.2.1 args) (fun _ h => h) hown hk.1 hP q0 he rfl 2 (by decide) (fl_X12_123 hk.2.1 args) (fun _ h9 => h9) hv hdg kk
theorem pf_X12_123 {p : Program} {l : Launch} {e : Env} {R : Room} {s : State} {m : MethodId} {args : Array Value} {below : List Frame} {meth : Method} {c : Code} {H : Heap} {locs : List Loc} {cells slots : Nat} {Q : State → Prop} {D : va_G} {cI cZ cK : ClassId} {cc : ByteArray} {pc : Nat} {ls : Array Slot} {rest : List Value} {a : Nat} {fs : List Value} {A : Nat → Prop} {H0 : Heap} {ws ws' : va_W} {x : Int32} (hx : p.tables.exec = Jvm.exec) (hb : c.code = cc) (hown : s.vm.findClass RX12 = some m.cls) (hk : kq D cI cZ cK s) (w : wd D A H0 H locs ws) (q0 : Nat) (he : ws[q0]? = some (a, .inr (12, fs))) (hl : 2 < fs.length) (hs : ws.set q0 (a, .inr (12, fs.set 2 (.int x))) = ws') (hdg : decode cc pc = .ok (.putfield 123, 3)) (kk : ∀ (H1 : Heap) (locs1 : List Loc), wd D A H0 H1 locs1 ws' → W p l e R s m args below meth c H1 locs1 cells slots Q (F0 m (pc + 3) ls rest)) : W p l e R s m args below meth c H locs cells slots Q (F0 m pc ls (.int x :: .ref a :: rest)) := va_put (ty := .int) (C := RX12) (T := TX12) (N := 33) hx hb (lay_X12 hk.2.1 args) (fun _ h => h) tyX12 tyX12_ok nmX12 hown hk.1 w.1 w.2.1 w.2.2 q0 he rfl 2 (by decide) (fl_X12_123 hk.2.1 args) (fun _ h9 => h9) rfl (by decide +kernel) (vp_nar_int x) rfl hl hdg (fun H1 locs1 h1 h2 h3 => kk H1 locs1 ⟨by rw [← hs]; exact h1, by rw [← hs]; exact h2, h3⟩)
theorem fl_X12_126 {U : State} (h : tb U) (a : Array Value) : (Cond.fieldLink RX12 126 RX12 (TX12 5).2.1 (TX12 5).2.2.1).before a U = true := h (Cond.fieldLink "AskedRoutesModel" 126 "AskedRoutesModel" "first" "I") (List.mem_of_getElem? (i := 730) (by decide +kernel)) rfl a
theorem gf_X12_126 {p : Program} {l : Launch} {e : Env} {R : Room} {s : State} {m : MethodId} {args : Array Value} {below : List Frame} {meth : Method} {c : Code} {H : Heap} {locs : List Loc} {cells slots : Nat} {Q : State → Prop} {D : va_G} {cI cZ cK : ClassId} {cc : ByteArray} {pc : Nat} {ls : Array Slot} {rest : List Value} {a : Nat} {fs : List Value} {ws : va_W} {v : Value} (hx : p.tables.exec = Jvm.exec) (hb : c.code = cc) (hown : s.vm.findClass RX12 = some m.cls) (hk : kq D cI cZ cK s) (hP : va_P D vwCl ws H) (q0 : Nat) (he : ws[q0]? = some (a, .inr (12, fs))) (hv : fs[5]? = some v) (hdg : decode cc pc = .ok (.getfield 126, 3)) (kk : W p l e R s m args below meth c H locs cells slots Q (F0 m (pc + 3) ls (v :: rest))) : W p l e R s m args below meth c H locs cells slots Q (F0 m pc ls (.ref a :: rest)) := va_get (C := RX12) (T := TX12) (N := 33) hx hb (lay_X12 hk.2.1 args) (fun _ h => h) hown hk.1 hP q0 he rfl 5 (by decide) (fl_X12_126 hk.2.1 args) (fun _ h9 => h9) hv hdg kk
theorem pf_X12_126 {p : Program} {l : Launch} {e : Env} {R : Room} {s : State} {m : MethodId} {args : Array Value} {below : List Frame} {meth : Method} {c : Code} {H : Heap} {locs : List Loc} {cells slots : Nat} {Q : State → Prop} {D : va_G} {cI cZ cK : ClassId} {cc : ByteArray} {pc : Nat} {ls : Array Slot} {rest : List Value} {a : Nat} {fs : List Value} {A : Nat → Prop} {H0 : Heap} {ws ws' : va_W} {x : Int32} (hx : p.tables.exec = Jvm.exec) (hb : c.code = cc) (hown : s.vm.findClass RX12 = some m.cls) (hk : kq D cI cZ cK s) (w : wd D A H0 H locs ws) (q0 : Nat) (he : ws[q0]? = some (a, .inr (12, fs))) (hl : 5 < fs.length) (hs : ws.set q0 (a, .inr (12, fs.set 5 (.int x))) = ws') (hdg : decode cc pc = .ok (.putfield 126, 3)) (kk : ∀ (H1 : Heap) (locs1 : List Loc), wd D A H0 H1 locs1 ws' → W p l e R s m args below meth c H1 locs1 cells slots Q (F0 m (pc + 3) ls rest)) : W p l e R s m args below meth c H locs cells slots Q (F0 m pc ls (.int x :: .ref a :: rest)) := va_put (ty := .int) (C := RX12) (T := TX12) (N := 33) hx hb (lay_X12 hk.2.1 args) (fun _ h => h) tyX12 tyX12_ok nmX12 hown hk.1 w.1 w.2.1 w.2.2 q0 he rfl 5 (by decide) (fl_X12_126 hk.2.1 args) (fun _ h9 => h9) rfl (by decide +kernel) (vp_nar_int x) rfl hl hdg (fun H1 locs1 h1 h2 h3 => kk H1 locs1 ⟨by rw [← hs]; exact h1, by rw [← hs]; exact h2, h3⟩)
theorem fl_X12_129 {U : State} (h : tb U) (a : Array Value) : (Cond.fieldLink RX12 129 RX12 (TX12 7).2.1 (TX12 7).2.2.1).before a U = true := h (Cond.fieldLink "AskedRoutesModel" 129 "AskedRoutesModel" "undoMany" "I") (List.mem_of_getElem? (i := 732) (by decide +kernel)) rfl a
theorem gf_X12_129 {p : Program} {l : Launch} {e : Env} {R : Room} {s : State} {m : MethodId} {args : Array Value} {below : List Frame} {meth : Method} {c : Code} {H : Heap} {locs : List Loc} {cells slots : Nat} {Q : State → Prop} {D : va_G} {cI cZ cK : ClassId} {cc : ByteArray} {pc : Nat} {ls : Array Slot} {rest : List Value} {a : Nat} {fs : List Value} {ws : va_W} {v : Value} (hx : p.tables.exec = Jvm.exec) (hb : c.code = cc) (hown : s.vm.findClass RX12 = some m.cls) (hk : kq D cI cZ cK s) (hP : va_P D vwCl ws H) (q0 : Nat) (he : ws[q0]? = some (a, .inr (12, fs))) (hv : fs[7]? = some v) (hdg : decode cc pc = .ok (.getfield 129, 3)) (kk : W p l e R s m args below meth c H locs cells slots Q (F0 m (pc + 3) ls (v :: rest))) : W p l e R s m args below meth c H locs cells slots Q (F0 m pc ls (.ref a :: rest)) := va_get (C := RX12) (T := TX12) (N := 33) hx hb (lay_X12 hk.2.1 args) (fun _ h => h) hown hk.1 hP q0 he rfl 7 (by decide) (fl_X12_129 hk.2.1 args) (fun _ h9 => h9) hv hdg kk
theorem pf_X12_129 {p : Program} {l : Launch} {e : Env} {R : Room} {s : State} {m : MethodId} {args : Array Value} {below : List Frame} {meth : Method} {c : Code} {H : Heap} {locs : List Loc} {cells slots : Nat} {Q : State → Prop} {D : va_G} {cI cZ cK : ClassId} {cc : ByteArray} {pc : Nat} {ls : Array Slot} {rest : List Value} {a : Nat} {fs : List Value} {A : Nat → Prop} {H0 : Heap} {ws ws' : va_W} {x : Int32} (hx : p.tables.exec = Jvm.exec) (hb : c.code = cc) (hown : s.vm.findClass RX12 = some m.cls) (hk : kq D cI cZ cK s) (w : wd D A H0 H locs ws) (q0 : Nat) (he : ws[q0]? = some (a, .inr (12, fs))) (hl : 7 < fs.length) (hs : ws.set q0 (a, .inr (12, fs.set 7 (.int x))) = ws') (hdg : decode cc pc = .ok (.putfield 129, 3)) (kk : ∀ (H1 : Heap) (locs1 : List Loc), wd D A H0 H1 locs1 ws' → W p l e R s m args below meth c H1 locs1 cells slots Q (F0 m (pc + 3) ls rest)) : W p l e R s m args below meth c H locs cells slots Q (F0 m pc ls (.int x :: .ref a :: rest)) := va_put (ty := .int) (C := RX12) (T := TX12) (N := 33) hx hb (lay_X12 hk.2.1 args) (fun _ h => h) tyX12 tyX12_ok nmX12 hown hk.1 w.1 w.2.1 w.2.2 q0 he rfl 7 (by decide) (fl_X12_129 hk.2.1 args) (fun _ h9 => h9) rfl (by decide +kernel) (vp_nar_int x) rfl hl hdg (fun H1 locs1 h1 h2 h3 => kk H1 locs1 ⟨by rw [← hs]; exact h1, by rw [← hs]; exact h2, h3⟩)
theorem fl_X12_132 {U : State} (h : tb U) (a : Array Value) : (Cond.fieldLink RX12 132 RX12 (TX12 29).2.1 (TX12 29).2.2.1).before a U = true := h (Cond.fieldLink "AskedRoutesModel" 132 "AskedRoutesModel" "seenMany" "I") (List.mem_of_getElem? (i := 754) (by decide +kernel)) rfl a
theorem gf_X12_132 {p : Program} {l : Launch} {e : Env} {R : Room} {s : State} {m : MethodId} {args : Array Value} {below : List Frame} {meth : Method} {c : Code} {H : Heap} {locs : List Loc} {cells slots : Nat} {Q : State → Prop} {D : va_G} {cI cZ cK : ClassId} {cc : ByteArray} {pc : Nat} {ls : Array Slot} {rest : List Value} {a : Nat} {fs : List Value} {ws : va_W} {v : Value} (hx : p.tables.exec = Jvm.exec) (hb : c.code = cc) (hown : s.vm.findClass RX12 = some m.cls) (hk : kq D cI cZ cK s) (hP : va_P D vwCl ws H) (q0 : Nat) (he : ws[q0]? = some (a, .inr (12, fs))) (hv : fs[29]? = some v) (hdg : decode cc pc = .ok (.getfield 132, 3)) (kk : W p l e R s m args below meth c H locs cells slots Q (F0 m (pc + 3) ls (v :: rest))) : W p l e R s m args below meth c H locs cells slots Q (F0 m pc ls (.ref a :: rest)) := va_get (C := RX12) (T := TX12) (N := 33) hx hb (lay_X12 hk.2.1 args) (fun _ h => h) hown hk.1 hP q0 he rfl 29 (by decide) (fl_X12_132 hk.2.1 args) (fun _ h9 => h9) hv hdg kk
theorem pf_X12_132 {p : Program} {l : Launch} {e : Env} {R : Room} {s : State} {m : MethodId} {args : Array Value} {below : List Frame} {meth : Method} {c : Code} {H : Heap} {locs : List Loc} {cells slots : Nat} {Q : State → Prop} {D : va_G} {cI cZ cK : ClassId} {cc : ByteArray} {pc : Nat} {ls : Array Slot} {rest : List Value} {a : Nat} {fs : List Value} {A : Nat → Prop} {H0 : Heap} {ws ws' : va_W} {x : Int32} (hx : p.tables.exec = Jvm.exec) (hb : c.code = cc) (hown : s.vm.findClass RX12 = some m.cls) (hk : kq D cI cZ cK s) (w : wd D A H0 H locs ws) (q0 : Nat) (he : ws[q0]? = some (a, .inr (12, fs))) (hl : 29 < fs.length) (hs : ws.set q0 (a, .inr (12, fs.set 29 (.int x))) = ws') (hdg : decode cc pc = .ok (.putfield 132, 3)) (kk : ∀ (H1 : Heap) (locs1 : List Loc), wd D A H0 H1 locs1 ws' → W p l e R s m args below meth c H1 locs1 cells slots Q (F0 m (pc + 3) ls rest)) : W p l e R s m args below meth c H locs cells slots Q (F0 m pc ls (.int x :: .ref a :: rest)) := va_put (ty := .int) (C := RX12) (T := TX12) (N := 33) hx hb (lay_X12 hk.2.1 args) (fun _ h => h) tyX12 tyX12_ok nmX12 hown hk.1 w.1 w.2.1 w.2.2 q0 he rfl 29 (by decide) (fl_X12_132 hk.2.1 args) (fun _ h9 => h9) rfl (by decide +kernel) (vp_nar_int x) rfl hl hdg (fun H1 locs1 h1 h2 h3 => kk H1 locs1 ⟨by rw [← hs]; exact h1, by rw [← hs]; exact h2, h3⟩)
theorem fl_X12_149 {U : State} (h : tb U) (a : Array Value) : (Cond.fieldLink RX12 149 RX12 (TX12 8).2.1 (TX12 8).2.2.1).before a U = true := h (Cond.fieldLink "AskedRoutesModel" 149 "AskedRoutesModel" "undoAt" "I") (List.mem_of_getElem? (i := 733) (by decide +kernel)) rfl a
theorem gf_X12_149 {p : Program} {l : Launch} {e : Env} {R : Room} {s : State} {m : MethodId} {args : Array Value} {below : List Frame} {meth : Method} {c : Code} {H : Heap} {locs : List Loc} {cells slots : Nat} {Q : State → Prop} {D : va_G} {cI cZ cK : ClassId} {cc : ByteArray} {pc : Nat} {ls : Array Slot} {rest : List Value} {a : Nat} {fs : List Value} {ws : va_W} {v : Value} (hx : p.tables.exec = Jvm.exec) (hb : c.code = cc) (hown : s.vm.findClass RX12 = some m.cls) (hk : kq D cI cZ cK s) (hP : va_P D vwCl ws H) (q0 : Nat) (he : ws[q0]? = some (a, .inr (12, fs))) (hv : fs[8]? = some v) (hdg : decode cc pc = .ok (.getfield 149, 3)) (kk : W p l e R s m args below meth c H locs cells slots Q (F0 m (pc + 3) ls (v :: rest))) : W p l e R s m args below meth c H locs cells slots Q (F0 m pc ls (.ref a :: rest)) := va_get (C := RX12) (T := TX12) (N := 33) hx hb (lay_X12 hk.2.1 args) (fun _ h => h) hown hk.1 hP q0 he rfl 8 (by decide) (fl_X12_149 hk.2.1 args) (fun _ h9 => h9) hv hdg kk
theorem pf_X12_149 {p : Program} {l : Launch} {e : Env} {R : Room} {s : State} {m : MethodId} {args : Array Value} {below : List Frame} {meth : Method} {c : Code} {H : Heap} {locs : List Loc} {cells slots : Nat} {Q : State → Prop} {D : va_G} {cI cZ cK : ClassId} {cc : ByteArray} {pc : Nat} {ls : Array Slot} {rest : List Value} {a : Nat} {fs : List Value} {A : Nat → Prop} {H0 : Heap} {ws ws' : va_W} {x : Int32} (hx : p.tables.exec = Jvm.exec) (hb : c.code = cc) (hown : s.vm.findClass RX12 = some m.cls) (hk : kq D cI cZ cK s) (w : wd D A H0 H locs ws) (q0 : Nat) (he : ws[q0]? = some (a, .inr (12, fs))) (hl : 8 < fs.length) (hs : ws.set q0 (a, .inr (12, fs.set 8 (.int x))) = ws') (hdg : decode cc pc = .ok (.putfield 149, 3)) (kk : ∀ (H1 : Heap) (locs1 : List Loc), wd D A H0 H1 locs1 ws' → W p l e R s m args below meth c H1 locs1 cells slots Q (F0 m (pc + 3) ls rest)) : W p l e R s m args below meth c H locs cells slots Q (F0 m pc ls (.int x :: .ref a :: rest)) := va_put (ty := .int) (C := RX12) (T := TX12) (N := 33) hx hb (lay_X12 hk.2.1 args) (fun _ h => h) tyX12 tyX12_ok nmX12 hown hk.1 w.1 w.2.1 w.2.2 q0 he rfl 8 (by decide) (fl_X12_149 hk.2.1 args) (fun _ h9 => h9) rfl (by decide +kernel) (vp_nar_int x) rfl hl hdg (fun H1 locs1 h1 h2 h3 => kk H1 locs1 ⟨by rw [← hs]; exact h1, by rw [← hs]; exact h2, h3⟩)
theorem fl_X12_182 {U : State} (h : tb U) (a : Array Value) : (Cond.fieldLink RX12 182 RX12 (TX12 25).2.1 (TX12 25).2.2.1).before a U = true := h (Cond.fieldLink "AskedRoutesModel" 182 "AskedRoutesModel" "pathMany" "I") (List.mem_of_getElem? (i := 750) (by decide +kernel)) rfl a
theorem gf_X12_182 {p : Program} {l : Launch} {e : Env} {R : Room} {s : State} {m : MethodId} {args : Array Value} {below : List Frame} {meth : Method} {c : Code} {H : Heap} {locs : List Loc} {cells slots : Nat} {Q : State → Prop} {D : va_G} {cI cZ cK : ClassId} {cc : ByteArray} {pc : Nat} {ls : Array Slot} {rest : List Value} {a : Nat} {fs : List Value} {ws : va_W} {v : Value} (hx : p.tables.exec = Jvm.exec) (hb : c.code = cc) (hown : s.vm.findClass RX12 = some m.cls) (hk : kq D cI cZ cK s) (hP : va_P D vwCl ws H) (q0 : Nat) (he : ws[q0]? = some (a, .inr (12, fs))) (hv : fs[25]? = some v) (hdg : decode cc pc = .ok (.getfield 182, 3)) (kk : W p l e R s m args below meth c H locs cells slots Q (F0 m (pc + 3) ls (v :: rest))) : W p l e R s m args below meth c H locs cells slots Q (F0 m pc ls (.ref a :: rest)) := va_get (C := RX12) (T := TX12) (N := 33) hx hb (lay_X12 hk.2.1 args) (fun _ h => h) hown hk.1 hP q0 he rfl 25 (by decide) (fl_X12_182 hk.2.1 args) (fun _ h9 => h9) hv hdg kk
theorem pf_X12_182 {p : Program} {l : Launch} {e : Env} {R : Room} {s : State} {m : MethodId} {args : Array Value} {below : List Frame} {meth : Method} {c : Code} {H : Heap} {locs : List Loc} {cells slots : Nat} {Q : State → Prop} {D : va_G} {cI cZ cK : ClassId} {cc : ByteArray} {pc : Nat} {ls : Array Slot} {rest : List Value} {a : Nat} {fs : List Value} {A : Nat → Prop} {H0 : Heap} {ws ws' : va_W} {x : Int32} (hx : p.tables.exec = Jvm.exec) (hb : c.code = cc) (hown : s.vm.findClass RX12 = some m.cls) (hk : kq D cI cZ cK s) (w : wd D A H0 H locs ws) (q0 : Nat) (he : ws[q0]? = some (a, .inr (12, fs))) (hl : 25 < fs.length) (hs : ws.set q0 (a, .inr (12, fs.set 25 (.int x))) = ws') (hdg : decode cc pc = .ok (.putfield 182, 3)) (kk : ∀ (H1 : Heap) (locs1 : List Loc), wd D A H0 H1 locs1 ws' → W p l e R s m args below meth c H1 locs1 cells slots Q (F0 m (pc + 3) ls rest)) : W p l e R s m args below meth c H locs cells slots Q (F0 m pc ls (.int x :: .ref a :: rest)) := va_put (ty := .int) (C := RX12) (T := TX12) (N := 33) hx hb (lay_X12 hk.2.1 args) (fun _ h => h) tyX12 tyX12_ok nmX12 hown hk.1 w.1 w.2.1 w.2.2 q0 he rfl 25 (by decide) (fl_X12_182 hk.2.1 args) (fun _ h9 => h9) rfl (by decide +kernel) (vp_nar_int x) rfl hl hdg (fun H1 locs1 h1 h2 h3 => kk H1 locs1 ⟨by rw [← hs]; exact h1, by rw [← hs]; exact h2, h3⟩)
theorem fl_X12_185 {U : State} (h : tb U) (a : Array Value) : (Cond.fieldLink RX12 185 RX12 (TX12 26).2.1 (TX12 26).2.2.1).before a U = true := h (Cond.fieldLink "AskedRoutesModel" 185 "AskedRoutesModel" "pathDelay" "I") (List.mem_of_getElem? (i := 751) (by decide +kernel)) rfl a
theorem gf_X12_185 {p : Program} {l : Launch} {e : Env} {R : Room} {s : State} {m : MethodId} {args : Array Value} {below : List Frame} {meth : Method} {c : Code} {H : Heap} {locs : List Loc} {cells slots : Nat} {Q : State → Prop} {D : va_G} {cI cZ cK : ClassId} {cc : ByteArray} {pc : Nat} {ls : Array Slot} {rest : List Value} {a : Nat} {fs : List Value} {ws : va_W} {v : Value} (hx : p.tables.exec = Jvm.exec) (hb : c.code = cc) (hown : s.vm.findClass RX12 = some m.cls) (hk : kq D cI cZ cK s) (hP : va_P D vwCl ws H) (q0 : Nat) (he : ws[q0]? = some (a, .inr (12, fs))) (hv : fs[26]? = some v) (hdg : decode cc pc = .ok (.getfield 185, 3)) (kk : W p l e R s m args below meth c H locs cells slots Q (F0 m (pc + 3) ls (v :: rest))) : W p l e R s m args below meth c H locs cells slots Q (F0 m pc ls (.ref a :: rest)) := va_get (C := RX12) (T := TX12) (N := 33) hx hb (lay_X12 hk.2.1 args) (fun _ h => h) hown hk.1 hP q0 he rfl 26 (by decide) (fl_X12_185 hk.2.1 args) (fun _ h9 => h9) hv hdg kk
theorem pf_X12_185 {p : Program} {l : Launch} {e : Env} {R : Room} {s : State} {m : MethodId} {args : Array Value} {below : List Frame} {meth : Method} {c : Code} {H : Heap} {locs : List Loc} {cells slots : Nat} {Q : State → Prop} {D : va_G} {cI cZ cK : ClassId} {cc : ByteArray} {pc : Nat} {ls : Array Slot} {rest : List Value} {a : Nat} {fs : List Value} {A : Nat → Prop} {H0 : Heap} {ws ws' : va_W} {x : Int32} (hx : p.tables.exec = Jvm.exec) (hb : c.code = cc) (hown : s.vm.findClass RX12 = some m.cls) (hk : kq D cI cZ cK s) (w : wd D A H0 H locs ws) (q0 : Nat) (he : ws[q0]? = some (a, .inr (12, fs))) (hl : 26 < fs.length) (hs : ws.set q0 (a, .inr (12, fs.set 26 (.int x))) = ws') (hdg : decode cc pc = .ok (.putfield 185, 3)) (kk : ∀ (H1 : Heap) (locs1 : List Loc), wd D A H0 H1 locs1 ws' → W p l e R s m args below meth c H1 locs1 cells slots Q (F0 m (pc + 3) ls rest)) : W p l e R s m args below meth c H locs cells slots Q (F0 m pc ls (.int x :: .ref a :: rest)) := va_put (ty := .int) (C := RX12) (T := TX12) (N := 33) hx hb (lay_X12 hk.2.1 args) (fun _ h => h) tyX12 tyX12_ok nmX12 hown hk.1 w.1 w.2.1 w.2.2 q0 he rfl 26 (by decide) (fl_X12_185 hk.2.1 args) (fun _ h9 => h9) rfl (by decide +kernel) (vp_nar_int x) rfl hl hdg (fun H1 locs1 h1 h2 h3 => kk H1 locs1 ⟨by rw [← hs]; exact h1, by rw [← hs]; exact h2, h3⟩)
theorem co_X2_40 {U : State} (h : tb U) (a : Array Value) : (Cond.constant RX2 40 (1000000)).before a U = true := h (Cond.constant "AskedRoutes$LeastWays" 40 (1000000)) (List.mem_of_getElem? (i := 653) (by decide +kernel)) rfl a
theorem co_X5_94 {U : State} (h : tb U) (a : Array Value) : (Cond.constant RX5 94 (63936)).before a U = true := h (Cond.constant "AskedRoutes$Post" 94 (63936)) (List.mem_of_getElem? (i := 536) (by decide +kernel)) rfl a
theorem co_X12_158 {U : State} (h : tb U) (a : Array Value) : (Cond.constant RX12 158 (63936)).before a U = true := h (Cond.constant "AskedRoutesModel" 158 (63936)) (List.mem_of_getElem? (i := 914) (by decide +kernel)) rfl a
theorem me_X0_init {U : State} (h : tb U) : meV yX0_init cX0_init 2 none 0 U := ⟨fun a => h (Cond.code yX0_init cX0_init 2 none) (List.mem_of_getElem? (i := 258) (by decide +kernel)) rfl a, fun a => h (Cond.initialized "AskedRoutes$Images") (List.mem_of_getElem? (i := 35) (by decide +kernel)) rfl a, by decide +kernel⟩
theorem mi_X0_init {U : State} (h : tb U) (a : Array Value) : (Cond.instanceMethod yX0_init).before a U = true := h (Cond.instanceMethod yX0_init) (List.mem_of_getElem? (i := 257) (by decide +kernel)) rfl a
theorem me_X0_drop {U : State} (h : tb U) : meV yX0_drop cX0_drop 2 none 0 U := ⟨fun a => h (Cond.code yX0_drop cX0_drop 2 none) (List.mem_of_getElem? (i := 461) (by decide +kernel)) rfl a, fun a => h (Cond.initialized "AskedRoutes$Images") (List.mem_of_getElem? (i := 35) (by decide +kernel)) rfl a, by decide +kernel⟩
theorem mi_X0_drop {U : State} (h : tb U) : miV yX0_drop U := ⟨fun a => h (Cond.instanceMethod yX0_drop) (List.mem_of_getElem? (i := 459) (by decide +kernel)) rfl a, fun a => h (Cond.selects yX0_drop.cls yX0_drop yX0_drop) (List.mem_of_getElem? (i := 460) (by decide +kernel)) rfl a⟩
theorem me_X1_init {U : State} (h : tb U) : meV yX1_init cX1_init 1 none 0 U := ⟨fun a => h (Cond.code yX1_init cX1_init 1 none) (List.mem_of_getElem? (i := 172) (by decide +kernel)) rfl a, fun a => h (Cond.initialized "AskedRoutes$Known") (List.mem_of_getElem? (i := 32) (by decide +kernel)) rfl a, by decide +kernel⟩
theorem mi_X1_init {U : State} (h : tb U) (a : Array Value) : (Cond.instanceMethod yX1_init).before a U = true := h (Cond.instanceMethod yX1_init) (List.mem_of_getElem? (i := 171) (by decide +kernel)) rfl a
theorem me_X1_restart {U : State} (h : tb U) : meV yX1_restart cX1_restart 2 none 1 U := ⟨fun a => h (Cond.code yX1_restart cX1_restart 2 none) (List.mem_of_getElem? (i := 449) (by decide +kernel)) rfl a, fun a => h (Cond.initialized "AskedRoutes$Known") (List.mem_of_getElem? (i := 32) (by decide +kernel)) rfl a, by decide +kernel⟩
theorem mi_X1_restart {U : State} (h : tb U) : miV yX1_restart U := ⟨fun a => h (Cond.instanceMethod yX1_restart) (List.mem_of_getElem? (i := 447) (by decide +kernel)) rfl a, fun a => h (Cond.selects yX1_restart.cls yX1_restart yX1_restart) (List.mem_of_getElem? (i := 448) (by decide +kernel)) rfl a⟩
theorem me_X1_copyFrom {U : State} (h : tb U) : meV yX1_copyFrom cX1_copyFrom 2 none 1 U := ⟨fun a => h (Cond.code yX1_copyFrom cX1_copyFrom 2 none) (List.mem_of_getElem? (i := 489) (by decide +kernel)) rfl a, fun a => h (Cond.initialized "AskedRoutes$Known") (List.mem_of_getElem? (i := 32) (by decide +kernel)) rfl a, by decide +kernel⟩
theorem mi_X1_copyFrom {U : State} (h : tb U) : miV yX1_copyFrom U := ⟨fun a => h (Cond.instanceMethod yX1_copyFrom) (List.mem_of_getElem? (i := 487) (by decide +kernel)) rfl a, fun a => h (Cond.selects yX1_copyFrom.cls yX1_copyFrom yX1_copyFrom) (List.mem_of_getElem? (i := 488) (by decide +kernel)) rfl a⟩
theorem me_X1_takeAway {U : State} (h : tb U) : meV yX1_takeAway cX1_takeAway 4 none 2 U := ⟨fun a => h (Cond.code yX1_takeAway cX1_takeAway 4 none) (List.mem_of_getElem? (i := 564) (by decide +kernel)) rfl a, fun a => h (Cond.initialized "AskedRoutes$Known") (List.mem_of_getElem? (i := 32) (by decide +kernel)) rfl a, by decide +kernel⟩
theorem mi_X1_takeAway {U : State} (h : tb U) : miV yX1_takeAway U := ⟨fun a => h (Cond.instanceMethod yX1_takeAway) (List.mem_of_getElem? (i := 562) (by decide +kernel)) rfl a, fun a => h (Cond.selects yX1_takeAway.cls yX1_takeAway yX1_takeAway) (List.mem_of_getElem? (i := 563) (by decide +kernel)) rfl a⟩
theorem me_X1_addToWay {U : State} (h : tb U) : meV yX1_addToWay cX1_addToWay 2 none 1 U := ⟨fun a => h (Cond.code yX1_addToWay cX1_addToWay 2 none) (List.mem_of_getElem? (i := 498) (by decide +kernel)) rfl a, fun a => h (Cond.initialized "AskedRoutes$Known") (List.mem_of_getElem? (i := 32) (by decide +kernel)) rfl a, by decide +kernel⟩
theorem mi_X1_addToWay {U : State} (h : tb U) : miV yX1_addToWay U := ⟨fun a => h (Cond.instanceMethod yX1_addToWay) (List.mem_of_getElem? (i := 496) (by decide +kernel)) rfl a, fun a => h (Cond.selects yX1_addToWay.cls yX1_addToWay yX1_addToWay) (List.mem_of_getElem? (i := 497) (by decide +kernel)) rfl a⟩
theorem me_X1_countHop {U : State} (h : tb U) : meV yX1_countHop cX1_countHop 3 none 2 U := ⟨fun a => h (Cond.code yX1_countHop cX1_countHop 3 none) (List.mem_of_getElem? (i := 541) (by decide +kernel)) rfl a, fun a => h (Cond.initialized "AskedRoutes$Known") (List.mem_of_getElem? (i := 32) (by decide +kernel)) rfl a, by decide +kernel⟩
theorem mi_X1_countHop {U : State} (h : tb U) : miV yX1_countHop U := ⟨fun a => h (Cond.instanceMethod yX1_countHop) (List.mem_of_getElem? (i := 539) (by decide +kernel)) rfl a, fun a => h (Cond.selects yX1_countHop.cls yX1_countHop yX1_countHop) (List.mem_of_getElem? (i := 540) (by decide +kernel)) rfl a⟩
theorem me_X2_init {U : State} (h : tb U) : meV yX2_init cX2_init 1 none 0 U := ⟨fun a => h (Cond.code yX2_init cX2_init 1 none) (List.mem_of_getElem? (i := 298) (by decide +kernel)) rfl a, fun a => h (Cond.initialized "AskedRoutes$LeastWays") (List.mem_of_getElem? (i := 37) (by decide +kernel)) rfl a, by decide +kernel⟩
theorem mi_X2_init {U : State} (h : tb U) (a : Array Value) : (Cond.instanceMethod yX2_init).before a U = true := h (Cond.instanceMethod yX2_init) (List.mem_of_getElem? (i := 297) (by decide +kernel)) rfl a
theorem me_X2_measure {U : State} (h : tb U) : meV yX2_measure cX2_measure 8 none 3 U := ⟨fun a => h (Cond.code yX2_measure cX2_measure 8 none) (List.mem_of_getElem? (i := 644) (by decide +kernel)) rfl a, fun a => h (Cond.initialized "AskedRoutes$LeastWays") (List.mem_of_getElem? (i := 37) (by decide +kernel)) rfl a, by decide +kernel⟩
theorem mi_X2_measure {U : State} (h : tb U) : miV yX2_measure U := ⟨fun a => h (Cond.instanceMethod yX2_measure) (List.mem_of_getElem? (i := 642) (by decide +kernel)) rfl a, fun a => h (Cond.selects yX2_measure.cls yX2_measure yX2_measure) (List.mem_of_getElem? (i := 643) (by decide +kernel)) rfl a⟩
theorem me_X2_stepFrom {U : State} (h : tb U) : meV yX2_stepFrom cX2_stepFrom 6 (some .int) 4 U := ⟨fun a => h (Cond.code yX2_stepFrom cX2_stepFrom 6 (some .int)) (List.mem_of_getElem? (i := 649) (by decide +kernel)) rfl a, fun a => h (Cond.initialized "AskedRoutes$LeastWays") (List.mem_of_getElem? (i := 37) (by decide +kernel)) rfl a, by decide +kernel⟩
theorem mi_X2_stepFrom {U : State} (h : tb U) : miV yX2_stepFrom U := ⟨fun a => h (Cond.instanceMethod yX2_stepFrom) (List.mem_of_getElem? (i := 647) (by decide +kernel)) rfl a, fun a => h (Cond.selects yX2_stepFrom.cls yX2_stepFrom yX2_stepFrom) (List.mem_of_getElem? (i := 648) (by decide +kernel)) rfl a⟩
theorem me_X2_between {U : State} (h : tb U) : meV yX2_between cX2_between 4 (some .int) 2 U := ⟨fun a => h (Cond.code yX2_between cX2_between 4 (some .int)) (List.mem_of_getElem? (i := 657) (by decide +kernel)) rfl a, fun a => h (Cond.initialized "AskedRoutes$LeastWays") (List.mem_of_getElem? (i := 37) (by decide +kernel)) rfl a, by decide +kernel⟩
theorem mi_X2_between {U : State} (h : tb U) : miV yX2_between U := ⟨fun a => h (Cond.instanceMethod yX2_between) (List.mem_of_getElem? (i := 655) (by decide +kernel)) rfl a, fun a => h (Cond.selects yX2_between.cls yX2_between yX2_between) (List.mem_of_getElem? (i := 656) (by decide +kernel)) rfl a⟩
theorem me_X2_sumOfAll {U : State} (h : tb U) : meV yX2_sumOfAll cX2_sumOfAll 5 (some .int) 0 U := ⟨fun a => h (Cond.code yX2_sumOfAll cX2_sumOfAll 5 (some .int)) (List.mem_of_getElem? (i := 673) (by decide +kernel)) rfl a, fun a => h (Cond.initialized "AskedRoutes$LeastWays") (List.mem_of_getElem? (i := 37) (by decide +kernel)) rfl a, by decide +kernel⟩
theorem mi_X2_sumOfAll {U : State} (h : tb U) : miV yX2_sumOfAll U := ⟨fun a => h (Cond.instanceMethod yX2_sumOfAll) (List.mem_of_getElem? (i := 671) (by decide +kernel)) rfl a, fun a => h (Cond.selects yX2_sumOfAll.cls yX2_sumOfAll yX2_sumOfAll) (List.mem_of_getElem? (i := 672) (by decide +kernel)) rfl a⟩
theorem me_X3_init {U : State} (h : tb U) : meV yX3_init cX3_init 1 none 0 U := ⟨fun a => h (Cond.code yX3_init cX3_init 1 none) (List.mem_of_getElem? (i := 125) (by decide +kernel)) rfl a, fun a => h (Cond.initialized "AskedRoutes$Links") (List.mem_of_getElem? (i := 31) (by decide +kernel)) rfl a, by decide +kernel⟩
theorem mi_X3_init {U : State} (h : tb U) (a : Array Value) : (Cond.instanceMethod yX3_init).before a U = true := h (Cond.instanceMethod yX3_init) (List.mem_of_getElem? (i := 124) (by decide +kernel)) rfl a
theorem me_X3_restart {U : State} (h : tb U) : meV yX3_restart cX3_restart 1 none 0 U := ⟨fun a => h (Cond.code yX3_restart cX3_restart 1 none) (List.mem_of_getElem? (i := 382) (by decide +kernel)) rfl a, fun a => h (Cond.initialized "AskedRoutes$Links") (List.mem_of_getElem? (i := 31) (by decide +kernel)) rfl a, by decide +kernel⟩
theorem mi_X3_restart {U : State} (h : tb U) : miV yX3_restart U := ⟨fun a => h (Cond.instanceMethod yX3_restart) (List.mem_of_getElem? (i := 380) (by decide +kernel)) rfl a, fun a => h (Cond.selects yX3_restart.cls yX3_restart yX3_restart) (List.mem_of_getElem? (i := 381) (by decide +kernel)) rfl a⟩
theorem me_X3_copyFrom {U : State} (h : tb U) : meV yX3_copyFrom cX3_copyFrom 2 none 1 U := ⟨fun a => h (Cond.code yX3_copyFrom cX3_copyFrom 2 none) (List.mem_of_getElem? (i := 453) (by decide +kernel)) rfl a, fun a => h (Cond.initialized "AskedRoutes$Links") (List.mem_of_getElem? (i := 31) (by decide +kernel)) rfl a, by decide +kernel⟩
theorem mi_X3_copyFrom {U : State} (h : tb U) : miV yX3_copyFrom U := ⟨fun a => h (Cond.instanceMethod yX3_copyFrom) (List.mem_of_getElem? (i := 451) (by decide +kernel)) rfl a, fun a => h (Cond.selects yX3_copyFrom.cls yX3_copyFrom yX3_copyFrom) (List.mem_of_getElem? (i := 452) (by decide +kernel)) rfl a⟩
theorem me_X3_delayOf {U : State} (h : tb U) : meV yX3_delayOf cX3_delayOf 3 (some .int) 2 U := ⟨fun a => h (Cond.code yX3_delayOf cX3_delayOf 3 (some .int)) (List.mem_of_getElem? (i := 419) (by decide +kernel)) rfl a, fun a => h (Cond.initialized "AskedRoutes$Links") (List.mem_of_getElem? (i := 31) (by decide +kernel)) rfl a, by decide +kernel⟩
theorem mi_X3_delayOf {U : State} (h : tb U) : miV yX3_delayOf U := ⟨fun a => h (Cond.instanceMethod yX3_delayOf) (List.mem_of_getElem? (i := 417) (by decide +kernel)) rfl a, fun a => h (Cond.selects yX3_delayOf.cls yX3_delayOf yX3_delayOf) (List.mem_of_getElem? (i := 418) (by decide +kernel)) rfl a⟩
theorem me_X3_put {U : State} (h : tb U) : meV yX3_put cX3_put 4 none 3 U := ⟨fun a => h (Cond.code yX3_put cX3_put 4 none) (List.mem_of_getElem? (i := 426) (by decide +kernel)) rfl a, fun a => h (Cond.initialized "AskedRoutes$Links") (List.mem_of_getElem? (i := 31) (by decide +kernel)) rfl a, by decide +kernel⟩
theorem mi_X3_put {U : State} (h : tb U) : miV yX3_put U := ⟨fun a => h (Cond.instanceMethod yX3_put) (List.mem_of_getElem? (i := 424) (by decide +kernel)) rfl a, fun a => h (Cond.selects yX3_put.cls yX3_put yX3_put) (List.mem_of_getElem? (i := 425) (by decide +kernel)) rfl a⟩
theorem me_X3_takeAway {U : State} (h : tb U) : meV yX3_takeAway cX3_takeAway 3 none 2 U := ⟨fun a => h (Cond.code yX3_takeAway cX3_takeAway 3 none) (List.mem_of_getElem? (i := 568) (by decide +kernel)) rfl a, fun a => h (Cond.initialized "AskedRoutes$Links") (List.mem_of_getElem? (i := 31) (by decide +kernel)) rfl a, by decide +kernel⟩
theorem mi_X3_takeAway {U : State} (h : tb U) : miV yX3_takeAway U := ⟨fun a => h (Cond.instanceMethod yX3_takeAway) (List.mem_of_getElem? (i := 566) (by decide +kernel)) rfl a, fun a => h (Cond.selects yX3_takeAway.cls yX3_takeAway yX3_takeAway) (List.mem_of_getElem? (i := 567) (by decide +kernel)) rfl a⟩
theorem me_X3_pairOf {U : State} (h : tb U) : meV yX3_pairOf cX3_pairOf 5 (some .int) 1 U := ⟨fun a => h (Cond.code yX3_pairOf cX3_pairOf 5 (some .int)) (List.mem_of_getElem? (i := 469) (by decide +kernel)) rfl a, fun a => h (Cond.initialized "AskedRoutes$Links") (List.mem_of_getElem? (i := 31) (by decide +kernel)) rfl a, by decide +kernel⟩
theorem mi_X3_pairOf {U : State} (h : tb U) : miV yX3_pairOf U := ⟨fun a => h (Cond.instanceMethod yX3_pairOf) (List.mem_of_getElem? (i := 467) (by decide +kernel)) rfl a, fun a => h (Cond.selects yX3_pairOf.cls yX3_pairOf yX3_pairOf) (List.mem_of_getElem? (i := 468) (by decide +kernel)) rfl a⟩
theorem me_X3_neighboursOf {U : State} (h : tb U) : meV yX3_neighboursOf cX3_neighboursOf 4 (some .int) 1 U := ⟨fun a => h (Cond.code yX3_neighboursOf cX3_neighboursOf 4 (some .int)) (List.mem_of_getElem? (i := 506) (by decide +kernel)) rfl a, fun a => h (Cond.initialized "AskedRoutes$Links") (List.mem_of_getElem? (i := 31) (by decide +kernel)) rfl a, by decide +kernel⟩
theorem mi_X3_neighboursOf {U : State} (h : tb U) : miV yX3_neighboursOf U := ⟨fun a => h (Cond.instanceMethod yX3_neighboursOf) (List.mem_of_getElem? (i := 504) (by decide +kernel)) rfl a, fun a => h (Cond.selects yX3_neighboursOf.cls yX3_neighboursOf yX3_neighboursOf) (List.mem_of_getElem? (i := 505) (by decide +kernel)) rfl a⟩
theorem me_X4_init {U : State} (h : tb U) : meV yX4_init cX4_init 2 none 0 U := ⟨fun a => h (Cond.code yX4_init cX4_init 2 none) (List.mem_of_getElem? (i := 238) (by decide +kernel)) rfl a, fun a => h (Cond.initialized "AskedRoutes$Past") (List.mem_of_getElem? (i := 34) (by decide +kernel)) rfl a, by decide +kernel⟩
theorem mi_X4_init {U : State} (h : tb U) (a : Array Value) : (Cond.instanceMethod yX4_init).before a U = true := h (Cond.instanceMethod yX4_init) (List.mem_of_getElem? (i := 237) (by decide +kernel)) rfl a
theorem me_X4_push {U : State} (h : tb U) : meV yX4_push cX4_push 2 none 1 U := ⟨fun a => h (Cond.code yX4_push cX4_push 2 none) (List.mem_of_getElem? (i := 485) (by decide +kernel)) rfl a, fun a => h (Cond.initialized "AskedRoutes$Past") (List.mem_of_getElem? (i := 34) (by decide +kernel)) rfl a, by decide +kernel⟩
theorem mi_X4_push {U : State} (h : tb U) : miV yX4_push U := ⟨fun a => h (Cond.instanceMethod yX4_push) (List.mem_of_getElem? (i := 483) (by decide +kernel)) rfl a, fun a => h (Cond.selects yX4_push.cls yX4_push yX4_push) (List.mem_of_getElem? (i := 484) (by decide +kernel)) rfl a⟩
theorem me_X4_pop {U : State} (h : tb U) : meV yX4_pop cX4_pop 2 (some .boolean) 1 U := ⟨fun a => h (Cond.code yX4_pop cX4_pop 2 (some .boolean)) (List.mem_of_getElem? (i := 590) (by decide +kernel)) rfl a, fun a => h (Cond.initialized "AskedRoutes$Past") (List.mem_of_getElem? (i := 34) (by decide +kernel)) rfl a, by decide +kernel⟩
theorem mi_X4_pop {U : State} (h : tb U) : miV yX4_pop U := ⟨fun a => h (Cond.instanceMethod yX4_pop) (List.mem_of_getElem? (i := 588) (by decide +kernel)) rfl a, fun a => h (Cond.selects yX4_pop.cls yX4_pop yX4_pop) (List.mem_of_getElem? (i := 589) (by decide +kernel)) rfl a⟩
theorem me_X5_init {U : State} (h : tb U) : meV yX5_init cX5_init 3 none 2 U := ⟨fun a => h (Cond.code yX5_init cX5_init 3 none) (List.mem_of_getElem? (i := 224) (by decide +kernel)) rfl a, fun a => h (Cond.initialized "AskedRoutes$Post") (List.mem_of_getElem? (i := 33) (by decide +kernel)) rfl a, by decide +kernel⟩
theorem mi_X5_init {U : State} (h : tb U) (a : Array Value) : (Cond.instanceMethod yX5_init).before a U = true := h (Cond.instanceMethod yX5_init) (List.mem_of_getElem? (i := 223) (by decide +kernel)) rfl a
theorem me_X5_guessBy {U : State} (h : tb U) : meV yX5_guessBy cX5_guessBy 4 (some .int) 3 U := ⟨fun a => h (Cond.code yX5_guessBy cX5_guessBy 4 (some .int)) (List.mem_of_getElem? (i := 535) (by decide +kernel)) rfl a, fun a => h (Cond.initialized "AskedRoutes$Post") (List.mem_of_getElem? (i := 33) (by decide +kernel)) rfl a, by decide +kernel⟩
theorem mi_X5_guessBy {U : State} (h : tb U) : miV yX5_guessBy U := ⟨fun a => h (Cond.instanceMethod yX5_guessBy) (List.mem_of_getElem? (i := 533) (by decide +kernel)) rfl a, fun a => h (Cond.selects yX5_guessBy.cls yX5_guessBy yX5_guessBy) (List.mem_of_getElem? (i := 534) (by decide +kernel)) rfl a⟩
theorem me_X5_guessAt {U : State} (h : tb U) : meV yX5_guessAt cX5_guessAt 3 (some .int) 1 U := ⟨fun a => h (Cond.code yX5_guessAt cX5_guessAt 3 (some .int)) (List.mem_of_getElem? (i := 522) (by decide +kernel)) rfl a, fun a => h (Cond.initialized "AskedRoutes$Post") (List.mem_of_getElem? (i := 33) (by decide +kernel)) rfl a, by decide +kernel⟩
theorem mi_X5_guessAt {U : State} (h : tb U) : miV yX5_guessAt U := ⟨fun a => h (Cond.instanceMethod yX5_guessAt) (List.mem_of_getElem? (i := 520) (by decide +kernel)) rfl a, fun a => h (Cond.selects yX5_guessAt.cls yX5_guessAt yX5_guessAt) (List.mem_of_getElem? (i := 521) (by decide +kernel)) rfl a⟩
theorem me_X5_bestOf {U : State} (h : tb U) : meV yX5_bestOf cX5_bestOf 9 (some .int) 2 U := ⟨fun a => h (Cond.code yX5_bestOf cX5_bestOf 9 (some .int)) (List.mem_of_getElem? (i := 518) (by decide +kernel)) rfl a, fun a => h (Cond.initialized "AskedRoutes$Post") (List.mem_of_getElem? (i := 33) (by decide +kernel)) rfl a, by decide +kernel⟩
theorem mi_X5_bestOf {U : State} (h : tb U) : miV yX5_bestOf U := ⟨fun a => h (Cond.instanceMethod yX5_bestOf) (List.mem_of_getElem? (i := 516) (by decide +kernel)) rfl a, fun a => h (Cond.selects yX5_bestOf.cls yX5_bestOf yX5_bestOf) (List.mem_of_getElem? (i := 517) (by decide +kernel)) rfl a⟩
theorem me_X5_stalestOf {U : State} (h : tb U) : meV yX5_stalestOf cX5_stalestOf 9 (some .int) 2 U := ⟨fun a => h (Cond.code yX5_stalestOf cX5_stalestOf 9 (some .int)) (List.mem_of_getElem? (i := 510) (by decide +kernel)) rfl a, fun a => h (Cond.initialized "AskedRoutes$Post") (List.mem_of_getElem? (i := 33) (by decide +kernel)) rfl a, by decide +kernel⟩
theorem mi_X5_stalestOf {U : State} (h : tb U) : miV yX5_stalestOf U := ⟨fun a => h (Cond.instanceMethod yX5_stalestOf) (List.mem_of_getElem? (i := 508) (by decide +kernel)) rfl a, fun a => h (Cond.selects yX5_stalestOf.cls yX5_stalestOf yX5_stalestOf) (List.mem_of_getElem? (i := 509) (by decide +kernel)) rfl a⟩
theorem me_X5_chooseHop {U : State} (h : tb U) : meV yX5_chooseHop cX5_chooseHop 3 (some .int) 2 U := ⟨fun a => h (Cond.code yX5_chooseHop cX5_chooseHop 3 (some .int)) (List.mem_of_getElem? (i := 502) (by decide +kernel)) rfl a, fun a => h (Cond.initialized "AskedRoutes$Post") (List.mem_of_getElem? (i := 33) (by decide +kernel)) rfl a, by decide +kernel⟩
theorem mi_X5_chooseHop {U : State} (h : tb U) : miV yX5_chooseHop U := ⟨fun a => h (Cond.instanceMethod yX5_chooseHop) (List.mem_of_getElem? (i := 500) (by decide +kernel)) rfl a, fun a => h (Cond.selects yX5_chooseHop.cls yX5_chooseHop yX5_chooseHop) (List.mem_of_getElem? (i := 501) (by decide +kernel)) rfl a⟩
theorem me_X5_toldBy {U : State} (h : tb U) : meV yX5_toldBy cX5_toldBy 4 (some .int) 2 U := ⟨fun a => h (Cond.code yX5_toldBy cX5_toldBy 4 (some .int)) (List.mem_of_getElem? (i := 531) (by decide +kernel)) rfl a, fun a => h (Cond.initialized "AskedRoutes$Post") (List.mem_of_getElem? (i := 33) (by decide +kernel)) rfl a, by decide +kernel⟩
theorem mi_X5_toldBy {U : State} (h : tb U) : miV yX5_toldBy U := ⟨fun a => h (Cond.instanceMethod yX5_toldBy) (List.mem_of_getElem? (i := 529) (by decide +kernel)) rfl a, fun a => h (Cond.selects yX5_toldBy.cls yX5_toldBy yX5_toldBy) (List.mem_of_getElem? (i := 530) (by decide +kernel)) rfl a⟩
theorem me_X5_mend {U : State} (h : tb U) : meV yX5_mend cX5_mend 7 none 3 U := ⟨fun a => h (Cond.code yX5_mend cX5_mend 7 none) (List.mem_of_getElem? (i := 527) (by decide +kernel)) rfl a, fun a => h (Cond.initialized "AskedRoutes$Post") (List.mem_of_getElem? (i := 33) (by decide +kernel)) rfl a, by decide +kernel⟩
theorem mi_X5_mend {U : State} (h : tb U) : miV yX5_mend U := ⟨fun a => h (Cond.instanceMethod yX5_mend) (List.mem_of_getElem? (i := 525) (by decide +kernel)) rfl a, fun a => h (Cond.selects yX5_mend.cls yX5_mend yX5_mend) (List.mem_of_getElem? (i := 526) (by decide +kernel)) rfl a⟩
theorem me_X5_deliver {U : State} (h : tb U) : meV yX5_deliver cX5_deliver 7 (some .int) 2 U := ⟨fun a => h (Cond.code yX5_deliver cX5_deliver 7 (some .int)) (List.mem_of_getElem? (i := 494) (by decide +kernel)) rfl a, fun a => h (Cond.initialized "AskedRoutes$Post") (List.mem_of_getElem? (i := 33) (by decide +kernel)) rfl a, by decide +kernel⟩
theorem mi_X5_deliver {U : State} (h : tb U) : miV yX5_deliver U := ⟨fun a => h (Cond.instanceMethod yX5_deliver) (List.mem_of_getElem? (i := 492) (by decide +kernel)) rfl a, fun a => h (Cond.selects yX5_deliver.cls yX5_deliver yX5_deliver) (List.mem_of_getElem? (i := 493) (by decide +kernel)) rfl a⟩
theorem me_X5_deliverRound {U : State} (h : tb U) : meV yX5_deliverRound cX5_deliverRound 4 (some .int) 0 U := ⟨fun a => h (Cond.code yX5_deliverRound cX5_deliverRound 4 (some .int)) (List.mem_of_getElem? (i := 555) (by decide +kernel)) rfl a, fun a => h (Cond.initialized "AskedRoutes$Post") (List.mem_of_getElem? (i := 33) (by decide +kernel)) rfl a, by decide +kernel⟩
theorem mi_X5_deliverRound {U : State} (h : tb U) : miV yX5_deliverRound U := ⟨fun a => h (Cond.instanceMethod yX5_deliverRound) (List.mem_of_getElem? (i := 553) (by decide +kernel)) rfl a, fun a => h (Cond.selects yX5_deliverRound.cls yX5_deliverRound yX5_deliverRound) (List.mem_of_getElem? (i := 554) (by decide +kernel)) rfl a⟩
theorem me_X6_init {U : State} (h : tb U) : meV yX6_init cX6_init 2 none 1 U := ⟨fun a => h (Cond.code yX6_init cX6_init 2 none) (List.mem_of_getElem? (i := 72) (by decide +kernel)) rfl a, fun a => h (Cond.initialized "AskedRoutes$Reader") (List.mem_of_getElem? (i := 29) (by decide +kernel)) rfl a, by decide +kernel⟩
theorem mi_X6_init {U : State} (h : tb U) (a : Array Value) : (Cond.instanceMethod yX6_init).before a U = true := h (Cond.instanceMethod yX6_init) (List.mem_of_getElem? (i := 71) (by decide +kernel)) rfl a
theorem me_X6_readText {U : State} (h : tb U) : meV yX6_readText cX6_readText 2 (some .int) 0 U := ⟨fun a => h (Cond.code yX6_readText cX6_readText 2 (some .int)) (List.mem_of_getElem? (i := 377) (by decide +kernel)) rfl a, fun a => h (Cond.initialized "AskedRoutes$Reader") (List.mem_of_getElem? (i := 29) (by decide +kernel)) rfl a, by decide +kernel⟩
theorem mi_X6_readText {U : State} (h : tb U) : miV yX6_readText U := ⟨fun a => h (Cond.instanceMethod yX6_readText) (List.mem_of_getElem? (i := 375) (by decide +kernel)) rfl a, fun a => h (Cond.selects yX6_readText.cls yX6_readText yX6_readText) (List.mem_of_getElem? (i := 376) (by decide +kernel)) rfl a⟩
theorem me_X6_readEnd {U : State} (h : tb U) : meV yX6_readEnd cX6_readEnd 1 (some .boolean) 0 U := ⟨fun a => h (Cond.code yX6_readEnd cX6_readEnd 1 (some .boolean)) (List.mem_of_getElem? (i := 441) (by decide +kernel)) rfl a, fun a => h (Cond.initialized "AskedRoutes$Reader") (List.mem_of_getElem? (i := 29) (by decide +kernel)) rfl a, by decide +kernel⟩
theorem mi_X6_readEnd {U : State} (h : tb U) : miV yX6_readEnd U := ⟨fun a => h (Cond.instanceMethod yX6_readEnd) (List.mem_of_getElem? (i := 439) (by decide +kernel)) rfl a, fun a => h (Cond.selects yX6_readEnd.cls yX6_readEnd yX6_readEnd) (List.mem_of_getElem? (i := 440) (by decide +kernel)) rfl a⟩
theorem me_X6_readItem {U : State} (h : tb U) : meV yX6_readItem cX6_readItem 1 (some .boolean) 0 U := ⟨fun a => h (Cond.code yX6_readItem cX6_readItem 1 (some .boolean)) (List.mem_of_getElem? (i := 403) (by decide +kernel)) rfl a, fun a => h (Cond.initialized "AskedRoutes$Reader") (List.mem_of_getElem? (i := 29) (by decide +kernel)) rfl a, by decide +kernel⟩
theorem mi_X6_readItem {U : State} (h : tb U) : miV yX6_readItem U := ⟨fun a => h (Cond.instanceMethod yX6_readItem) (List.mem_of_getElem? (i := 401) (by decide +kernel)) rfl a, fun a => h (Cond.selects yX6_readItem.cls yX6_readItem yX6_readItem) (List.mem_of_getElem? (i := 402) (by decide +kernel)) rfl a⟩
theorem me_X6_readNodes {U : State} (h : tb U) : meV yX6_readNodes cX6_readNodes 1 (some .boolean) 0 U := ⟨fun a => h (Cond.code yX6_readNodes cX6_readNodes 1 (some .boolean)) (List.mem_of_getElem? (i := 407) (by decide +kernel)) rfl a, fun a => h (Cond.initialized "AskedRoutes$Reader") (List.mem_of_getElem? (i := 29) (by decide +kernel)) rfl a, by decide +kernel⟩
theorem mi_X6_readNodes {U : State} (h : tb U) : miV yX6_readNodes U := ⟨fun a => h (Cond.instanceMethod yX6_readNodes) (List.mem_of_getElem? (i := 405) (by decide +kernel)) rfl a, fun a => h (Cond.selects yX6_readNodes.cls yX6_readNodes yX6_readNodes) (List.mem_of_getElem? (i := 406) (by decide +kernel)) rfl a⟩
theorem me_X6_readLink {U : State} (h : tb U) : meV yX6_readLink cX6_readLink 3 (some .boolean) 0 U := ⟨fun a => h (Cond.code yX6_readLink cX6_readLink 3 (some .boolean)) (List.mem_of_getElem? (i := 415) (by decide +kernel)) rfl a, fun a => h (Cond.initialized "AskedRoutes$Reader") (List.mem_of_getElem? (i := 29) (by decide +kernel)) rfl a, by decide +kernel⟩
theorem mi_X6_readLink {U : State} (h : tb U) : miV yX6_readLink U := ⟨fun a => h (Cond.instanceMethod yX6_readLink) (List.mem_of_getElem? (i := 413) (by decide +kernel)) rfl a, fun a => h (Cond.selects yX6_readLink.cls yX6_readLink yX6_readLink) (List.mem_of_getElem? (i := 414) (by decide +kernel)) rfl a⟩
theorem me_X6_readRule {U : State} (h : tb U) : meV yX6_readRule cX6_readRule 2 (some .boolean) 1 U := ⟨fun a => h (Cond.code yX6_readRule cX6_readRule 2 (some .boolean)) (List.mem_of_getElem? (i := 431) (by decide +kernel)) rfl a, fun a => h (Cond.initialized "AskedRoutes$Reader") (List.mem_of_getElem? (i := 29) (by decide +kernel)) rfl a, by decide +kernel⟩
theorem mi_X6_readRule {U : State} (h : tb U) : miV yX6_readRule U := ⟨fun a => h (Cond.instanceMethod yX6_readRule) (List.mem_of_getElem? (i := 429) (by decide +kernel)) rfl a, fun a => h (Cond.selects yX6_readRule.cls yX6_readRule yX6_readRule) (List.mem_of_getElem? (i := 430) (by decide +kernel)) rfl a⟩
theorem me_X6_lowestOf {U : State} (h : tb U) : meV yX6_lowestOf cX6_lowestOf 1 (some .int) 1 U := ⟨fun a => h (Cond.code yX6_lowestOf cX6_lowestOf 1 (some .int)) (List.mem_of_getElem? (i := 434) (by decide +kernel)) rfl a, fun a => h (Cond.initialized "AskedRoutes$Reader") (List.mem_of_getElem? (i := 29) (by decide +kernel)) rfl a, by decide +kernel⟩
theorem ms_X6_lowestOf {U : State} (h : tb U) : msV yX6_lowestOf U := fun a => h (Cond.static yX6_lowestOf) (List.mem_of_getElem? (i := 433) (by decide +kernel)) rfl a
theorem me_X6_highestOf {U : State} (h : tb U) : meV yX6_highestOf cX6_highestOf 1 (some .int) 1 U := ⟨fun a => h (Cond.code yX6_highestOf cX6_highestOf 1 (some .int)) (List.mem_of_getElem? (i := 437) (by decide +kernel)) rfl a, fun a => h (Cond.initialized "AskedRoutes$Reader") (List.mem_of_getElem? (i := 29) (by decide +kernel)) rfl a, by decide +kernel⟩
theorem ms_X6_highestOf {U : State} (h : tb U) : msV yX6_highestOf U := fun a => h (Cond.static yX6_highestOf) (List.mem_of_getElem? (i := 436) (by decide +kernel)) rfl a
theorem me_X6_readNumber {U : State} (h : tb U) : meV yX6_readNumber cX6_readNumber 3 (some .boolean) 2 U := ⟨fun a => h (Cond.code yX6_readNumber cX6_readNumber 3 (some .boolean)) (List.mem_of_getElem? (i := 411) (by decide +kernel)) rfl a, fun a => h (Cond.initialized "AskedRoutes$Reader") (List.mem_of_getElem? (i := 29) (by decide +kernel)) rfl a, by decide +kernel⟩
theorem mi_X6_readNumber {U : State} (h : tb U) : miV yX6_readNumber U := ⟨fun a => h (Cond.instanceMethod yX6_readNumber) (List.mem_of_getElem? (i := 409) (by decide +kernel)) rfl a, fun a => h (Cond.selects yX6_readNumber.cls yX6_readNumber yX6_readNumber) (List.mem_of_getElem? (i := 410) (by decide +kernel)) rfl a⟩
theorem me_X6_step {U : State} (h : tb U) : meV yX6_step cX6_step 1 none 0 U := ⟨fun a => h (Cond.code yX6_step cX6_step 1 none) (List.mem_of_getElem? (i := 389) (by decide +kernel)) rfl a, fun a => h (Cond.initialized "AskedRoutes$Reader") (List.mem_of_getElem? (i := 29) (by decide +kernel)) rfl a, by decide +kernel⟩
theorem mi_X6_step {U : State} (h : tb U) : miV yX6_step U := ⟨fun a => h (Cond.instanceMethod yX6_step) (List.mem_of_getElem? (i := 387) (by decide +kernel)) rfl a, fun a => h (Cond.selects yX6_step.cls yX6_step yX6_step) (List.mem_of_getElem? (i := 388) (by decide +kernel)) rfl a⟩
theorem me_X6_stepOverNumber {U : State} (h : tb U) : meV yX6_stepOverNumber cX6_stepOverNumber 2 none 0 U := ⟨fun a => h (Cond.code yX6_stepOverNumber cX6_stepOverNumber 2 none) (List.mem_of_getElem? (i := 396) (by decide +kernel)) rfl a, fun a => h (Cond.initialized "AskedRoutes$Reader") (List.mem_of_getElem? (i := 29) (by decide +kernel)) rfl a, by decide +kernel⟩
theorem mi_X6_stepOverNumber {U : State} (h : tb U) : miV yX6_stepOverNumber U := ⟨fun a => h (Cond.instanceMethod yX6_stepOverNumber) (List.mem_of_getElem? (i := 394) (by decide +kernel)) rfl a, fun a => h (Cond.selects yX6_stepOverNumber.cls yX6_stepOverNumber yX6_stepOverNumber) (List.mem_of_getElem? (i := 395) (by decide +kernel)) rfl a⟩
theorem me_X6_isDigit {U : State} (h : tb U) : meV yX6_isDigit cX6_isDigit 1 (some .boolean) 1 U := ⟨fun a => h (Cond.code yX6_isDigit cX6_isDigit 1 (some .boolean)) (List.mem_of_getElem? (i := 392) (by decide +kernel)) rfl a, fun a => h (Cond.initialized "AskedRoutes$Reader") (List.mem_of_getElem? (i := 29) (by decide +kernel)) rfl a, by decide +kernel⟩
theorem ms_X6_isDigit {U : State} (h : tb U) : msV yX6_isDigit U := fun a => h (Cond.static yX6_isDigit) (List.mem_of_getElem? (i := 391) (by decide +kernel)) rfl a
theorem me_X7_init {U : State} (h : tb U) : meV yX7_init cX7_init 1 none 0 U := ⟨fun a => h (Cond.code yX7_init cX7_init 1 none) (List.mem_of_getElem? (i := 78) (by decide +kernel)) rfl a, fun a => h (Cond.initialized "AskedRoutes$Rules") (List.mem_of_getElem? (i := 30) (by decide +kernel)) rfl a, by decide +kernel⟩
theorem mi_X7_init {U : State} (h : tb U) (a : Array Value) : (Cond.instanceMethod yX7_init).before a U = true := h (Cond.instanceMethod yX7_init) (List.mem_of_getElem? (i := 77) (by decide +kernel)) rfl a
theorem me_X7_restart {U : State} (h : tb U) : meV yX7_restart cX7_restart 1 none 0 U := ⟨fun a => h (Cond.code yX7_restart cX7_restart 1 none) (List.mem_of_getElem? (i := 83) (by decide +kernel)) rfl a, fun a => h (Cond.initialized "AskedRoutes$Rules") (List.mem_of_getElem? (i := 30) (by decide +kernel)) rfl a, by decide +kernel⟩
theorem mi_X7_restart {U : State} (h : tb U) : miV yX7_restart U := ⟨fun a => h (Cond.instanceMethod yX7_restart) (List.mem_of_getElem? (i := 81) (by decide +kernel)) rfl a, fun a => h (Cond.selects yX7_restart.cls yX7_restart yX7_restart) (List.mem_of_getElem? (i := 82) (by decide +kernel)) rfl a⟩
theorem me_X7_copyFrom {U : State} (h : tb U) : meV yX7_copyFrom cX7_copyFrom 2 none 1 U := ⟨fun a => h (Cond.code yX7_copyFrom cX7_copyFrom 2 none) (List.mem_of_getElem? (i := 445) (by decide +kernel)) rfl a, fun a => h (Cond.initialized "AskedRoutes$Rules") (List.mem_of_getElem? (i := 30) (by decide +kernel)) rfl a, by decide +kernel⟩
theorem mi_X7_copyFrom {U : State} (h : tb U) : miV yX7_copyFrom U := ⟨fun a => h (Cond.instanceMethod yX7_copyFrom) (List.mem_of_getElem? (i := 443) (by decide +kernel)) rfl a, fun a => h (Cond.selects yX7_copyFrom.cls yX7_copyFrom yX7_copyFrom) (List.mem_of_getElem? (i := 444) (by decide +kernel)) rfl a⟩
theorem me_X8_init {U : State} (h : tb U) : meV yX8_init cX8_init 1 none 0 U := ⟨fun a => h (Cond.code yX8_init cX8_init 1 none) (List.mem_of_getElem? (i := 311) (by decide +kernel)) rfl a, fun a => h (Cond.initialized "AskedRoutes$Sights") (List.mem_of_getElem? (i := 38) (by decide +kernel)) rfl a, by decide +kernel⟩
theorem mi_X8_init {U : State} (h : tb U) (a : Array Value) : (Cond.instanceMethod yX8_init).before a U = true := h (Cond.instanceMethod yX8_init) (List.mem_of_getElem? (i := 310) (by decide +kernel)) rfl a
theorem me_X8_append {U : State} (h : tb U) : meV yX8_append cX8_append 4 (some .boolean) 3 U := ⟨fun a => h (Cond.code yX8_append cX8_append 4 (some .boolean)) (List.mem_of_getElem? (i := 686) (by decide +kernel)) rfl a, fun a => h (Cond.initialized "AskedRoutes$Sights") (List.mem_of_getElem? (i := 38) (by decide +kernel)) rfl a, by decide +kernel⟩
theorem mi_X8_append {U : State} (h : tb U) : miV yX8_append U := ⟨fun a => h (Cond.instanceMethod yX8_append) (List.mem_of_getElem? (i := 684) (by decide +kernel)) rfl a, fun a => h (Cond.selects yX8_append.cls yX8_append yX8_append) (List.mem_of_getElem? (i := 685) (by decide +kernel)) rfl a⟩
theorem me_X8_agree {U : State} (h : tb U) : meV yX8_agree cX8_agree 4 (some .boolean) 1 U := ⟨fun a => h (Cond.code yX8_agree cX8_agree 4 (some .boolean)) (List.mem_of_getElem? (i := 698) (by decide +kernel)) rfl a, fun a => h (Cond.initialized "AskedRoutes$Sights") (List.mem_of_getElem? (i := 38) (by decide +kernel)) rfl a, by decide +kernel⟩
theorem mi_X8_agree {U : State} (h : tb U) : miV yX8_agree U := ⟨fun a => h (Cond.instanceMethod yX8_agree) (List.mem_of_getElem? (i := 696) (by decide +kernel)) rfl a, fun a => h (Cond.selects yX8_agree.cls yX8_agree yX8_agree) (List.mem_of_getElem? (i := 697) (by decide +kernel)) rfl a⟩
theorem me_X9_init {U : State} (h : tb U) : meV yX9_init cX9_init 1 none 0 U := ⟨fun a => h (Cond.code yX9_init cX9_init 1 none) (List.mem_of_getElem? (i := 55) (by decide +kernel)) rfl a, fun a => h (Cond.initialized "AskedRoutes$Text") (List.mem_of_getElem? (i := 28) (by decide +kernel)) rfl a, by decide +kernel⟩
theorem mi_X9_init {U : State} (h : tb U) (a : Array Value) : (Cond.instanceMethod yX9_init).before a U = true := h (Cond.instanceMethod yX9_init) (List.mem_of_getElem? (i := 54) (by decide +kernel)) rfl a
theorem me_X9_append {U : State} (h : tb U) : meV yX9_append cX9_append 2 (some .boolean) 1 U := ⟨fun a => h (Cond.code yX9_append cX9_append 2 (some .boolean)) (List.mem_of_getElem? (i := 365) (by decide +kernel)) rfl a, fun a => h (Cond.initialized "AskedRoutes$Text") (List.mem_of_getElem? (i := 28) (by decide +kernel)) rfl a, by decide +kernel⟩
theorem mi_X9_append {U : State} (h : tb U) : miV yX9_append U := ⟨fun a => h (Cond.instanceMethod yX9_append) (List.mem_of_getElem? (i := 363) (by decide +kernel)) rfl a, fun a => h (Cond.selects yX9_append.cls yX9_append yX9_append) (List.mem_of_getElem? (i := 364) (by decide +kernel)) rfl a⟩
theorem me_X10_init {U : State} (h : tb U) : meV yX10_init cX10_init 2 none 1 U := ⟨fun a => h (Cond.code yX10_init cX10_init 2 none) (List.mem_of_getElem? (i := 276) (by decide +kernel)) rfl a, fun a => h (Cond.initialized "AskedRoutes$Trail") (List.mem_of_getElem? (i := 36) (by decide +kernel)) rfl a, by decide +kernel⟩
theorem mi_X10_init {U : State} (h : tb U) (a : Array Value) : (Cond.instanceMethod yX10_init).before a U = true := h (Cond.instanceMethod yX10_init) (List.mem_of_getElem? (i := 275) (by decide +kernel)) rfl a
theorem me_X10_follow {U : State} (h : tb U) : meV yX10_follow cX10_follow 7 (some .boolean) 2 U := ⟨fun a => h (Cond.code yX10_follow cX10_follow 7 (some .boolean)) (List.mem_of_getElem? (i := 630) (by decide +kernel)) rfl a, fun a => h (Cond.initialized "AskedRoutes$Trail") (List.mem_of_getElem? (i := 36) (by decide +kernel)) rfl a, by decide +kernel⟩
theorem mi_X10_follow {U : State} (h : tb U) : miV yX10_follow U := ⟨fun a => h (Cond.instanceMethod yX10_follow) (List.mem_of_getElem? (i := 628) (by decide +kernel)) rfl a, fun a => h (Cond.selects yX10_follow.cls yX10_follow yX10_follow) (List.mem_of_getElem? (i := 629) (by decide +kernel)) rfl a⟩
theorem me_X11_init {U : State} (h : tb U) : meV yX11_init cX11_init 1 none 0 U := ⟨fun a => h (Cond.code yX11_init cX11_init 1 none) (List.mem_of_getElem? (i := 47) (by decide +kernel)) rfl a, fun a => h (Cond.initialized "AskedRoutes") (List.mem_of_getElem? (i := 27) (by decide +kernel)) rfl a, by decide +kernel⟩
theorem mi_X11_init {U : State} (h : tb U) (a : Array Value) : (Cond.instanceMethod yX11_init).before a U = true := h (Cond.instanceMethod yX11_init) (List.mem_of_getElem? (i := 46) (by decide +kernel)) rfl a
theorem me_X11_type {U : State} (h : tb U) : meV yX11_type cX11_type 2 (some .int) 1 U := ⟨fun a => h (Cond.code yX11_type cX11_type 2 (some .int)) (List.mem_of_getElem? (i := 361) (by decide +kernel)) rfl a, fun a => h (Cond.initialized "AskedRoutes") (List.mem_of_getElem? (i := 27) (by decide +kernel)) rfl a, by decide +kernel⟩
theorem mi_X11_type {U : State} (h : tb U) : miV yX11_type U := ⟨fun a => h (Cond.instanceMethod yX11_type) (List.mem_of_getElem? (i := 359) (by decide +kernel)) rfl a, fun a => h (Cond.selects yX11_type.cls yX11_type yX11_type) (List.mem_of_getElem? (i := 360) (by decide +kernel)) rfl a⟩
theorem me_X11_clear {U : State} (h : tb U) : meV yX11_clear cX11_clear 2 (some .int) 0 U := ⟨fun a => h (Cond.code yX11_clear cX11_clear 2 (some .int)) (List.mem_of_getElem? (i := 369) (by decide +kernel)) rfl a, fun a => h (Cond.initialized "AskedRoutes") (List.mem_of_getElem? (i := 27) (by decide +kernel)) rfl a, by decide +kernel⟩
theorem mi_X11_clear {U : State} (h : tb U) : miV yX11_clear U := ⟨fun a => h (Cond.instanceMethod yX11_clear) (List.mem_of_getElem? (i := 367) (by decide +kernel)) rfl a, fun a => h (Cond.selects yX11_clear.cls yX11_clear yX11_clear) (List.mem_of_getElem? (i := 368) (by decide +kernel)) rfl a⟩
theorem me_X11_net {U : State} (h : tb U) : meV yX11_net cX11_net 2 (some .int) 0 U := ⟨fun a => h (Cond.code yX11_net cX11_net 2 (some .int)) (List.mem_of_getElem? (i := 373) (by decide +kernel)) rfl a, fun a => h (Cond.initialized "AskedRoutes") (List.mem_of_getElem? (i := 27) (by decide +kernel)) rfl a, by decide +kernel⟩
theorem mi_X11_net {U : State} (h : tb U) : miV yX11_net U := ⟨fun a => h (Cond.instanceMethod yX11_net) (List.mem_of_getElem? (i := 371) (by decide +kernel)) rfl a, fun a => h (Cond.selects yX11_net.cls yX11_net yX11_net) (List.mem_of_getElem? (i := 372) (by decide +kernel)) rfl a⟩
theorem me_X11_link {U : State} (h : tb U) : meV yX11_link cX11_link 4 (some .int) 2 U := ⟨fun a => h (Cond.code yX11_link cX11_link 4 (some .int)) (List.mem_of_getElem? (i := 465) (by decide +kernel)) rfl a, fun a => h (Cond.initialized "AskedRoutes") (List.mem_of_getElem? (i := 27) (by decide +kernel)) rfl a, by decide +kernel⟩
theorem mi_X11_link {U : State} (h : tb U) : miV yX11_link U := ⟨fun a => h (Cond.instanceMethod yX11_link) (List.mem_of_getElem? (i := 463) (by decide +kernel)) rfl a, fun a => h (Cond.selects yX11_link.cls yX11_link yX11_link) (List.mem_of_getElem? (i := 464) (by decide +kernel)) rfl a⟩
theorem me_X11_sends {U : State} (h : tb U) : meV yX11_sends cX11_sends 3 (some .int) 2 U := ⟨fun a => h (Cond.code yX11_sends cX11_sends 3 (some .int)) (List.mem_of_getElem? (i := 473) (by decide +kernel)) rfl a, fun a => h (Cond.initialized "AskedRoutes") (List.mem_of_getElem? (i := 27) (by decide +kernel)) rfl a, by decide +kernel⟩
theorem mi_X11_sends {U : State} (h : tb U) : miV yX11_sends U := ⟨fun a => h (Cond.instanceMethod yX11_sends) (List.mem_of_getElem? (i := 471) (by decide +kernel)) rfl a, fun a => h (Cond.selects yX11_sends.cls yX11_sends yX11_sends) (List.mem_of_getElem? (i := 472) (by decide +kernel)) rfl a⟩
theorem me_X11_rounds {U : State} (h : tb U) : meV yX11_rounds cX11_rounds 4 (some .int) 1 U := ⟨fun a => h (Cond.code yX11_rounds cX11_rounds 4 (some .int)) (List.mem_of_getElem? (i := 551) (by decide +kernel)) rfl a, fun a => h (Cond.initialized "AskedRoutes") (List.mem_of_getElem? (i := 27) (by decide +kernel)) rfl a, by decide +kernel⟩
theorem mi_X11_rounds {U : State} (h : tb U) : miV yX11_rounds U := ⟨fun a => h (Cond.instanceMethod yX11_rounds) (List.mem_of_getElem? (i := 549) (by decide +kernel)) rfl a, fun a => h (Cond.selects yX11_rounds.cls yX11_rounds yX11_rounds) (List.mem_of_getElem? (i := 550) (by decide +kernel)) rfl a⟩
theorem me_X11_cuts {U : State} (h : tb U) : meV yX11_cuts cX11_cuts 3 (some .int) 1 U := ⟨fun a => h (Cond.code yX11_cuts cX11_cuts 3 (some .int)) (List.mem_of_getElem? (i := 560) (by decide +kernel)) rfl a, fun a => h (Cond.initialized "AskedRoutes") (List.mem_of_getElem? (i := 27) (by decide +kernel)) rfl a, by decide +kernel⟩
theorem mi_X11_cuts {U : State} (h : tb U) : miV yX11_cuts U := ⟨fun a => h (Cond.instanceMethod yX11_cuts) (List.mem_of_getElem? (i := 558) (by decide +kernel)) rfl a, fun a => h (Cond.selects yX11_cuts.cls yX11_cuts yX11_cuts) (List.mem_of_getElem? (i := 559) (by decide +kernel)) rfl a⟩
theorem me_X11_lays {U : State} (h : tb U) : meV yX11_lays cX11_lays 4 (some .int) 3 U := ⟨fun a => h (Cond.code yX11_lays cX11_lays 4 (some .int)) (List.mem_of_getElem? (i := 573) (by decide +kernel)) rfl a, fun a => h (Cond.initialized "AskedRoutes") (List.mem_of_getElem? (i := 27) (by decide +kernel)) rfl a, by decide +kernel⟩
theorem mi_X11_lays {U : State} (h : tb U) : miV yX11_lays U := ⟨fun a => h (Cond.instanceMethod yX11_lays) (List.mem_of_getElem? (i := 571) (by decide +kernel)) rfl a, fun a => h (Cond.selects yX11_lays.cls yX11_lays yX11_lays) (List.mem_of_getElem? (i := 572) (by decide +kernel)) rfl a⟩
theorem me_X11_changes {U : State} (h : tb U) : meV yX11_changes cX11_changes 5 (some .int) 2 U := ⟨fun a => h (Cond.code yX11_changes cX11_changes 5 (some .int)) (List.mem_of_getElem? (i := 582) (by decide +kernel)) rfl a, fun a => h (Cond.initialized "AskedRoutes") (List.mem_of_getElem? (i := 27) (by decide +kernel)) rfl a, by decide +kernel⟩
theorem mi_X11_changes {U : State} (h : tb U) : miV yX11_changes U := ⟨fun a => h (Cond.instanceMethod yX11_changes) (List.mem_of_getElem? (i := 580) (by decide +kernel)) rfl a, fun a => h (Cond.selects yX11_changes.cls yX11_changes yX11_changes) (List.mem_of_getElem? (i := 581) (by decide +kernel)) rfl a⟩
theorem me_X11_undo {U : State} (h : tb U) : meV yX11_undo cX11_undo 1 (some .int) 0 U := ⟨fun a => h (Cond.code yX11_undo cX11_undo 1 (some .int)) (List.mem_of_getElem? (i := 586) (by decide +kernel)) rfl a, fun a => h (Cond.initialized "AskedRoutes") (List.mem_of_getElem? (i := 27) (by decide +kernel)) rfl a, by decide +kernel⟩
theorem mi_X11_undo {U : State} (h : tb U) : miV yX11_undo U := ⟨fun a => h (Cond.instanceMethod yX11_undo) (List.mem_of_getElem? (i := 584) (by decide +kernel)) rfl a, fun a => h (Cond.selects yX11_undo.cls yX11_undo yX11_undo) (List.mem_of_getElem? (i := 585) (by decide +kernel)) rfl a⟩
theorem me_X11_guess {U : State} (h : tb U) : meV yX11_guess cX11_guess 5 (some .int) 3 U := ⟨fun a => h (Cond.code yX11_guess cX11_guess 5 (some .int)) (List.mem_of_getElem? (i := 594) (by decide +kernel)) rfl a, fun a => h (Cond.initialized "AskedRoutes") (List.mem_of_getElem? (i := 27) (by decide +kernel)) rfl a, by decide +kernel⟩
theorem mi_X11_guess {U : State} (h : tb U) : miV yX11_guess U := ⟨fun a => h (Cond.instanceMethod yX11_guess) (List.mem_of_getElem? (i := 592) (by decide +kernel)) rfl a, fun a => h (Cond.selects yX11_guess.cls yX11_guess yX11_guess) (List.mem_of_getElem? (i := 593) (by decide +kernel)) rfl a⟩
theorem me_X11_mended {U : State} (h : tb U) : meV yX11_mended cX11_mended 6 (some .int) 3 U := ⟨fun a => h (Cond.code yX11_mended cX11_mended 6 (some .int)) (List.mem_of_getElem? (i := 603) (by decide +kernel)) rfl a, fun a => h (Cond.initialized "AskedRoutes") (List.mem_of_getElem? (i := 27) (by decide +kernel)) rfl a, by decide +kernel⟩
theorem mi_X11_mended {U : State} (h : tb U) : miV yX11_mended U := ⟨fun a => h (Cond.instanceMethod yX11_mended) (List.mem_of_getElem? (i := 601) (by decide +kernel)) rfl a, fun a => h (Cond.selects yX11_mended.cls yX11_mended yX11_mended) (List.mem_of_getElem? (i := 602) (by decide +kernel)) rfl a⟩
theorem me_X11_best {U : State} (h : tb U) : meV yX11_best cX11_best 3 (some .int) 2 U := ⟨fun a => h (Cond.code yX11_best cX11_best 3 (some .int)) (List.mem_of_getElem? (i := 608) (by decide +kernel)) rfl a, fun a => h (Cond.initialized "AskedRoutes") (List.mem_of_getElem? (i := 27) (by decide +kernel)) rfl a, by decide +kernel⟩
theorem mi_X11_best {U : State} (h : tb U) : miV yX11_best U := ⟨fun a => h (Cond.instanceMethod yX11_best) (List.mem_of_getElem? (i := 606) (by decide +kernel)) rfl a, fun a => h (Cond.selects yX11_best.cls yX11_best yX11_best) (List.mem_of_getElem? (i := 607) (by decide +kernel)) rfl a⟩
theorem me_X11_node {U : State} (h : tb U) : meV yX11_node cX11_node 3 (some .int) 2 U := ⟨fun a => h (Cond.code yX11_node cX11_node 3 (some .int)) (List.mem_of_getElem? (i := 613) (by decide +kernel)) rfl a, fun a => h (Cond.initialized "AskedRoutes") (List.mem_of_getElem? (i := 27) (by decide +kernel)) rfl a, by decide +kernel⟩
theorem mi_X11_node {U : State} (h : tb U) : miV yX11_node U := ⟨fun a => h (Cond.instanceMethod yX11_node) (List.mem_of_getElem? (i := 611) (by decide +kernel)) rfl a, fun a => h (Cond.selects yX11_node.cls yX11_node yX11_node) (List.mem_of_getElem? (i := 612) (by decide +kernel)) rfl a⟩
theorem me_X11_used {U : State} (h : tb U) : meV yX11_used cX11_used 3 (some .int) 1 U := ⟨fun a => h (Cond.code yX11_used cX11_used 3 (some .int)) (List.mem_of_getElem? (i := 618) (by decide +kernel)) rfl a, fun a => h (Cond.initialized "AskedRoutes") (List.mem_of_getElem? (i := 27) (by decide +kernel)) rfl a, by decide +kernel⟩
theorem mi_X11_used {U : State} (h : tb U) : miV yX11_used U := ⟨fun a => h (Cond.instanceMethod yX11_used) (List.mem_of_getElem? (i := 616) (by decide +kernel)) rfl a, fun a => h (Cond.selects yX11_used.cls yX11_used yX11_used) (List.mem_of_getElem? (i := 617) (by decide +kernel)) rfl a⟩
theorem me_X11_way {U : State} (h : tb U) : meV yX11_way cX11_way 2 (some .int) 1 U := ⟨fun a => h (Cond.code yX11_way cX11_way 2 (some .int)) (List.mem_of_getElem? (i := 622) (by decide +kernel)) rfl a, fun a => h (Cond.initialized "AskedRoutes") (List.mem_of_getElem? (i := 27) (by decide +kernel)) rfl a, by decide +kernel⟩
theorem mi_X11_way {U : State} (h : tb U) : miV yX11_way U := ⟨fun a => h (Cond.instanceMethod yX11_way) (List.mem_of_getElem? (i := 620) (by decide +kernel)) rfl a, fun a => h (Cond.selects yX11_way.cls yX11_way yX11_way) (List.mem_of_getElem? (i := 621) (by decide +kernel)) rfl a⟩
theorem me_X11_path {U : State} (h : tb U) : meV yX11_path cX11_path 4 (some .int) 3 U := ⟨fun a => h (Cond.code yX11_path cX11_path 4 (some .int)) (List.mem_of_getElem? (i := 626) (by decide +kernel)) rfl a, fun a => h (Cond.initialized "AskedRoutes") (List.mem_of_getElem? (i := 27) (by decide +kernel)) rfl a, by decide +kernel⟩
theorem mi_X11_path {U : State} (h : tb U) : miV yX11_path U := ⟨fun a => h (Cond.instanceMethod yX11_path) (List.mem_of_getElem? (i := 624) (by decide +kernel)) rfl a, fun a => h (Cond.selects yX11_path.cls yX11_path yX11_path) (List.mem_of_getElem? (i := 625) (by decide +kernel)) rfl a⟩
theorem me_X11_astray {U : State} (h : tb U) : meV yX11_astray cX11_astray 4 (some .int) 1 U := ⟨fun a => h (Cond.code yX11_astray cX11_astray 4 (some .int)) (List.mem_of_getElem? (i := 636) (by decide +kernel)) rfl a, fun a => h (Cond.initialized "AskedRoutes") (List.mem_of_getElem? (i := 27) (by decide +kernel)) rfl a, by decide +kernel⟩
theorem mi_X11_astray {U : State} (h : tb U) : miV yX11_astray U := ⟨fun a => h (Cond.instanceMethod yX11_astray) (List.mem_of_getElem? (i := 634) (by decide +kernel)) rfl a, fun a => h (Cond.selects yX11_astray.cls yX11_astray yX11_astray) (List.mem_of_getElem? (i := 635) (by decide +kernel)) rfl a⟩
theorem me_X11_least {U : State} (h : tb U) : meV yX11_least cX11_least 3 (some .int) 2 U := ⟨fun a => h (Cond.code yX11_least cX11_least 3 (some .int)) (List.mem_of_getElem? (i := 640) (by decide +kernel)) rfl a, fun a => h (Cond.initialized "AskedRoutes") (List.mem_of_getElem? (i := 27) (by decide +kernel)) rfl a, by decide +kernel⟩
theorem mi_X11_least {U : State} (h : tb U) : miV yX11_least U := ⟨fun a => h (Cond.instanceMethod yX11_least) (List.mem_of_getElem? (i := 638) (by decide +kernel)) rfl a, fun a => h (Cond.selects yX11_least.cls yX11_least yX11_least) (List.mem_of_getElem? (i := 639) (by decide +kernel)) rfl a⟩
theorem me_X11_right {U : State} (h : tb U) : meV yX11_right cX11_right 4 (some .int) 0 U := ⟨fun a => h (Cond.code yX11_right cX11_right 4 (some .int)) (List.mem_of_getElem? (i := 661) (by decide +kernel)) rfl a, fun a => h (Cond.initialized "AskedRoutes") (List.mem_of_getElem? (i := 27) (by decide +kernel)) rfl a, by decide +kernel⟩
theorem mi_X11_right {U : State} (h : tb U) : miV yX11_right U := ⟨fun a => h (Cond.instanceMethod yX11_right) (List.mem_of_getElem? (i := 659) (by decide +kernel)) rfl a, fun a => h (Cond.selects yX11_right.cls yX11_right yX11_right) (List.mem_of_getElem? (i := 660) (by decide +kernel)) rfl a⟩
theorem me_X11_hurt {U : State} (h : tb U) : meV yX11_hurt cX11_hurt 3 (some .int) 1 U := ⟨fun a => h (Cond.code yX11_hurt cX11_hurt 3 (some .int)) (List.mem_of_getElem? (i := 665) (by decide +kernel)) rfl a, fun a => h (Cond.initialized "AskedRoutes") (List.mem_of_getElem? (i := 27) (by decide +kernel)) rfl a, by decide +kernel⟩
theorem mi_X11_hurt {U : State} (h : tb U) : miV yX11_hurt U := ⟨fun a => h (Cond.instanceMethod yX11_hurt) (List.mem_of_getElem? (i := 663) (by decide +kernel)) rfl a, fun a => h (Cond.selects yX11_hurt.cls yX11_hurt yX11_hurt) (List.mem_of_getElem? (i := 664) (by decide +kernel)) rfl a⟩
theorem me_X11_worst {U : State} (h : tb U) : meV yX11_worst cX11_worst 5 (some .int) 0 U := ⟨fun a => h (Cond.code yX11_worst cX11_worst 5 (some .int)) (List.mem_of_getElem? (i := 678) (by decide +kernel)) rfl a, fun a => h (Cond.initialized "AskedRoutes") (List.mem_of_getElem? (i := 27) (by decide +kernel)) rfl a, by decide +kernel⟩
theorem mi_X11_worst {U : State} (h : tb U) : miV yX11_worst U := ⟨fun a => h (Cond.instanceMethod yX11_worst) (List.mem_of_getElem? (i := 676) (by decide +kernel)) rfl a, fun a => h (Cond.selects yX11_worst.cls yX11_worst yX11_worst) (List.mem_of_getElem? (i := 677) (by decide +kernel)) rfl a⟩
theorem me_X11_sees {U : State} (h : tb U) : meV yX11_sees cX11_sees 4 (some .int) 3 U := ⟨fun a => h (Cond.code yX11_sees cX11_sees 4 (some .int)) (List.mem_of_getElem? (i := 682) (by decide +kernel)) rfl a, fun a => h (Cond.initialized "AskedRoutes") (List.mem_of_getElem? (i := 27) (by decide +kernel)) rfl a, by decide +kernel⟩
theorem mi_X11_sees {U : State} (h : tb U) : miV yX11_sees U := ⟨fun a => h (Cond.instanceMethod yX11_sees) (List.mem_of_getElem? (i := 680) (by decide +kernel)) rfl a, fun a => h (Cond.selects yX11_sees.cls yX11_sees yX11_sees) (List.mem_of_getElem? (i := 681) (by decide +kernel)) rfl a⟩
theorem me_X11_forget {U : State} (h : tb U) : meV yX11_forget cX11_forget 2 (some .int) 0 U := ⟨fun a => h (Cond.code yX11_forget cX11_forget 2 (some .int)) (List.mem_of_getElem? (i := 690) (by decide +kernel)) rfl a, fun a => h (Cond.initialized "AskedRoutes") (List.mem_of_getElem? (i := 27) (by decide +kernel)) rfl a, by decide +kernel⟩
theorem mi_X11_forget {U : State} (h : tb U) : miV yX11_forget U := ⟨fun a => h (Cond.instanceMethod yX11_forget) (List.mem_of_getElem? (i := 688) (by decide +kernel)) rfl a, fun a => h (Cond.selects yX11_forget.cls yX11_forget yX11_forget) (List.mem_of_getElem? (i := 689) (by decide +kernel)) rfl a⟩
theorem me_X11_unseen {U : State} (h : tb U) : meV yX11_unseen cX11_unseen 3 (some .int) 0 U := ⟨fun a => h (Cond.code yX11_unseen cX11_unseen 3 (some .int)) (List.mem_of_getElem? (i := 694) (by decide +kernel)) rfl a, fun a => h (Cond.initialized "AskedRoutes") (List.mem_of_getElem? (i := 27) (by decide +kernel)) rfl a, by decide +kernel⟩
theorem mi_X11_unseen {U : State} (h : tb U) : miV yX11_unseen U := ⟨fun a => h (Cond.instanceMethod yX11_unseen) (List.mem_of_getElem? (i := 692) (by decide +kernel)) rfl a, fun a => h (Cond.selects yX11_unseen.cls yX11_unseen yX11_unseen) (List.mem_of_getElem? (i := 693) (by decide +kernel)) rfl a⟩
theorem me_X11_keep {U : State} (h : tb U) : meV yX11_keep cX11_keep 2 (some .int) 1 U := ⟨fun a => h (Cond.code yX11_keep cX11_keep 2 (some .int)) (List.mem_of_getElem? (i := 703) (by decide +kernel)) rfl a, fun a => h (Cond.initialized "AskedRoutes") (List.mem_of_getElem? (i := 27) (by decide +kernel)) rfl a, by decide +kernel⟩
theorem mi_X11_keep {U : State} (h : tb U) : miV yX11_keep U := ⟨fun a => h (Cond.instanceMethod yX11_keep) (List.mem_of_getElem? (i := 701) (by decide +kernel)) rfl a, fun a => h (Cond.selects yX11_keep.cls yX11_keep yX11_keep) (List.mem_of_getElem? (i := 702) (by decide +kernel)) rfl a⟩
theorem me_X11_back {U : State} (h : tb U) : meV yX11_back cX11_back 2 (some .int) 1 U := ⟨fun a => h (Cond.code yX11_back cX11_back 2 (some .int)) (List.mem_of_getElem? (i := 711) (by decide +kernel)) rfl a, fun a => h (Cond.initialized "AskedRoutes") (List.mem_of_getElem? (i := 27) (by decide +kernel)) rfl a, by decide +kernel⟩
theorem mi_X11_back {U : State} (h : tb U) : miV yX11_back U := ⟨fun a => h (Cond.instanceMethod yX11_back) (List.mem_of_getElem? (i := 709) (by decide +kernel)) rfl a, fun a => h (Cond.selects yX11_back.cls yX11_back yX11_back) (List.mem_of_getElem? (i := 710) (by decide +kernel)) rfl a⟩
theorem me_X11_count {U : State} (h : tb U) : meV yX11_count cX11_count 2 (some .int) 1 U := ⟨fun a => h (Cond.code yX11_count cX11_count 2 (some .int)) (List.mem_of_getElem? (i := 715) (by decide +kernel)) rfl a, fun a => h (Cond.initialized "AskedRoutes") (List.mem_of_getElem? (i := 27) (by decide +kernel)) rfl a, by decide +kernel⟩
theorem mi_X11_count {U : State} (h : tb U) : miV yX11_count U := ⟨fun a => h (Cond.instanceMethod yX11_count) (List.mem_of_getElem? (i := 713) (by decide +kernel)) rfl a, fun a => h (Cond.selects yX11_count.cls yX11_count yX11_count) (List.mem_of_getElem? (i := 714) (by decide +kernel)) rfl a⟩
theorem me_X11_isNode {U : State} (h : tb U) : meV yX11_isNode cX11_isNode 2 (some .boolean) 1 U := ⟨fun a => h (Cond.code yX11_isNode cX11_isNode 2 (some .boolean)) (List.mem_of_getElem? (i := 481) (by decide +kernel)) rfl a, fun a => h (Cond.initialized "AskedRoutes") (List.mem_of_getElem? (i := 27) (by decide +kernel)) rfl a, by decide +kernel⟩
theorem mi_X11_isNode {U : State} (h : tb U) : miV yX11_isNode U := ⟨fun a => h (Cond.instanceMethod yX11_isNode) (List.mem_of_getElem? (i := 480) (by decide +kernel)) rfl a, fun a => h (Cond.selects yX11_isNode.cls yX11_isNode yX11_isNode) (List.mem_of_getElem? (i := 1) (by decide +kernel)) rfl a⟩
theorem me_X11_areUnlike {U : State} (h : tb U) : meV yX11_areUnlike cX11_areUnlike 3 (some .boolean) 2 U := ⟨fun a => h (Cond.code yX11_areUnlike cX11_areUnlike 3 (some .boolean)) (List.mem_of_getElem? (i := 477) (by decide +kernel)) rfl a, fun a => h (Cond.initialized "AskedRoutes") (List.mem_of_getElem? (i := 27) (by decide +kernel)) rfl a, by decide +kernel⟩
theorem mi_X11_areUnlike {U : State} (h : tb U) : miV yX11_areUnlike U := ⟨fun a => h (Cond.instanceMethod yX11_areUnlike) (List.mem_of_getElem? (i := 476) (by decide +kernel)) rfl a, fun a => h (Cond.selects yX11_areUnlike.cls yX11_areUnlike yX11_areUnlike) (List.mem_of_getElem? (i := 0) (by decide +kernel)) rfl a⟩
theorem me_X11_isDelay {U : State} (h : tb U) : meV yX11_isDelay cX11_isDelay 1 (some .boolean) 1 U := ⟨fun a => h (Cond.code yX11_isDelay cX11_isDelay 1 (some .boolean)) (List.mem_of_getElem? (i := 576) (by decide +kernel)) rfl a, fun a => h (Cond.initialized "AskedRoutes") (List.mem_of_getElem? (i := 27) (by decide +kernel)) rfl a, by decide +kernel⟩
theorem ms_X11_isDelay {U : State} (h : tb U) : msV yX11_isDelay U := fun a => h (Cond.static yX11_isDelay) (List.mem_of_getElem? (i := 575) (by decide +kernel)) rfl a
theorem me_X11_isImage {U : State} (h : tb U) : meV yX11_isImage cX11_isImage 1 (some .boolean) 1 U := ⟨fun a => h (Cond.code yX11_isImage cX11_isImage 1 (some .boolean)) (List.mem_of_getElem? (i := 706) (by decide +kernel)) rfl a, fun a => h (Cond.initialized "AskedRoutes") (List.mem_of_getElem? (i := 27) (by decide +kernel)) rfl a, by decide +kernel⟩
theorem ms_X11_isImage {U : State} (h : tb U) : msV yX11_isImage U := fun a => h (Cond.static yX11_isImage) (List.mem_of_getElem? (i := 705) (by decide +kernel)) rfl a
theorem me_X11_refusalOfGuess {U : State} (h : tb U) : meV yX11_refusalOfGuess cX11_refusalOfGuess 4 (some .int) 3 U := ⟨fun a => h (Cond.code yX11_refusalOfGuess cX11_refusalOfGuess 4 (some .int)) (List.mem_of_getElem? (i := 598) (by decide +kernel)) rfl a, fun a => h (Cond.initialized "AskedRoutes") (List.mem_of_getElem? (i := 27) (by decide +kernel)) rfl a, by decide +kernel⟩
theorem mi_X11_refusalOfGuess {U : State} (h : tb U) : miV yX11_refusalOfGuess U := ⟨fun a => h (Cond.instanceMethod yX11_refusalOfGuess) (List.mem_of_getElem? (i := 597) (by decide +kernel)) rfl a, fun a => h (Cond.selects yX11_refusalOfGuess.cls yX11_refusalOfGuess yX11_refusalOfGuess) (List.mem_of_getElem? (i := 2) (by decide +kernel)) rfl a⟩
theorem me_X11_hurtWithout {U : State} (h : tb U) : meV yX11_hurtWithout cX11_hurtWithout 2 (some .int) 1 U := ⟨fun a => h (Cond.code yX11_hurtWithout cX11_hurtWithout 2 (some .int)) (List.mem_of_getElem? (i := 669) (by decide +kernel)) rfl a, fun a => h (Cond.initialized "AskedRoutes") (List.mem_of_getElem? (i := 27) (by decide +kernel)) rfl a, by decide +kernel⟩
theorem mi_X11_hurtWithout {U : State} (h : tb U) : miV yX11_hurtWithout U := ⟨fun a => h (Cond.instanceMethod yX11_hurtWithout) (List.mem_of_getElem? (i := 668) (by decide +kernel)) rfl a, fun a => h (Cond.selects yX11_hurtWithout.cls yX11_hurtWithout yX11_hurtWithout) (List.mem_of_getElem? (i := 3) (by decide +kernel)) rfl a⟩
theorem me_X11_pairCell {U : State} (h : tb U) : meV yX11_pairCell cX11_pairCell 2 (some .int) 2 U := ⟨fun a => h (Cond.code yX11_pairCell cX11_pairCell 2 (some .int)) (List.mem_of_getElem? (i := 422) (by decide +kernel)) rfl a, fun a => h (Cond.initialized "AskedRoutes") (List.mem_of_getElem? (i := 27) (by decide +kernel)) rfl a, by decide +kernel⟩
theorem ms_X11_pairCell {U : State} (h : tb U) : msV yX11_pairCell U := fun a => h (Cond.static yX11_pairCell) (List.mem_of_getElem? (i := 421) (by decide +kernel)) rfl a
theorem me_X11_guessCell {U : State} (h : tb U) : meV yX11_guessCell cX11_guessCell 3 (some .int) 3 U := ⟨fun a => h (Cond.code yX11_guessCell cX11_guessCell 3 (some .int)) (List.mem_of_getElem? (i := 514) (by decide +kernel)) rfl a, fun a => h (Cond.initialized "AskedRoutes") (List.mem_of_getElem? (i := 27) (by decide +kernel)) rfl a, by decide +kernel⟩
theorem ms_X11_guessCell {U : State} (h : tb U) : msV yX11_guessCell U := fun a => h (Cond.static yX11_guessCell) (List.mem_of_getElem? (i := 513) (by decide +kernel)) rfl a
theorem me_X12_init {U : State} (h : tb U) : meV yX12_init cX12_init 1 none 0 U := ⟨fun a => h (Cond.code yX12_init cX12_init 1 none) (List.mem_of_getElem? (i := 720) (by decide +kernel)) rfl a, fun a => h (Cond.initialized "AskedRoutesModel") (List.mem_of_getElem? (i := 39) (by decide +kernel)) rfl a, by decide +kernel⟩
theorem mi_X12_init {U : State} (h : tb U) (a : Array Value) : (Cond.instanceMethod yX12_init).before a U = true := h (Cond.instanceMethod yX12_init) (List.mem_of_getElem? (i := 719) (by decide +kernel)) rfl a
theorem me_X12_in {U : State} (h : tb U) : meV yX12_in cX12_in 3 (some .boolean) 3 U := ⟨fun a => h (Cond.code yX12_in cX12_in 3 (some .boolean)) (List.mem_of_getElem? (i := 831) (by decide +kernel)) rfl a, fun a => h (Cond.initialized "AskedRoutesModel") (List.mem_of_getElem? (i := 39) (by decide +kernel)) rfl a, by decide +kernel⟩
theorem ms_X12_in {U : State} (h : tb U) : msV yX12_in U := fun a => h (Cond.static yX12_in) (List.mem_of_getElem? (i := 830) (by decide +kernel)) rfl a
theorem me_X12_has {U : State} (h : tb U) : meV yX12_has cX12_has 2 (some .boolean) 2 U := ⟨fun a => h (Cond.code yX12_has cX12_has 2 (some .boolean)) (List.mem_of_getElem? (i := 981) (by decide +kernel)) rfl a, fun a => h (Cond.initialized "AskedRoutesModel") (List.mem_of_getElem? (i := 39) (by decide +kernel)) rfl a, by decide +kernel⟩
theorem ms_X12_has {U : State} (h : tb U) : msV yX12_has U := fun a => h (Cond.static yX12_has) (List.mem_of_getElem? (i := 980) (by decide +kernel)) rfl a
theorem me_X12_begins {U : State} (h : tb U) : meV yX12_begins cX12_begins 2 none 1 U := ⟨fun a => h (Cond.code yX12_begins cX12_begins 2 none) (List.mem_of_getElem? (i := 724) (by decide +kernel)) rfl a, fun a => h (Cond.initialized "AskedRoutesModel") (List.mem_of_getElem? (i := 39) (by decide +kernel)) rfl a, by decide +kernel⟩
theorem ms_X12_begins {U : State} (h : tb U) : msV yX12_begins U := fun a => h (Cond.static yX12_begins) (List.mem_of_getElem? (i := 723) (by decide +kernel)) rfl a
theorem me_X12_isNode {U : State} (h : tb U) : meV yX12_isNode cX12_isNode 2 (some .boolean) 1 U := ⟨fun a => h (Cond.code yX12_isNode cX12_isNode 2 (some .boolean)) (List.mem_of_getElem? (i := 882) (by decide +kernel)) rfl a, fun a => h (Cond.initialized "AskedRoutesModel") (List.mem_of_getElem? (i := 39) (by decide +kernel)) rfl a, by decide +kernel⟩
theorem mi_X12_isNode {U : State} (h : tb U) : miV yX12_isNode U := ⟨fun a => h (Cond.instanceMethod yX12_isNode) (List.mem_of_getElem? (i := 881) (by decide +kernel)) rfl a, fun a => h (Cond.selects yX12_isNode.cls yX12_isNode yX12_isNode) (List.mem_of_getElem? (i := 11) (by decide +kernel)) rfl a⟩
theorem me_X12_pair {U : State} (h : tb U) : meV yX12_pair cX12_pair 2 (some .int) 2 U := ⟨fun a => h (Cond.code yX12_pair cX12_pair 2 (some .int)) (List.mem_of_getElem? (i := 866) (by decide +kernel)) rfl a, fun a => h (Cond.initialized "AskedRoutesModel") (List.mem_of_getElem? (i := 39) (by decide +kernel)) rfl a, by decide +kernel⟩
theorem ms_X12_pair {U : State} (h : tb U) : msV yX12_pair U := fun a => h (Cond.static yX12_pair) (List.mem_of_getElem? (i := 865) (by decide +kernel)) rfl a
theorem me_X12_delay {U : State} (h : tb U) : meV yX12_delay cX12_delay 3 (some .int) 2 U := ⟨fun a => h (Cond.code yX12_delay cX12_delay 3 (some .int)) (List.mem_of_getElem? (i := 898) (by decide +kernel)) rfl a, fun a => h (Cond.initialized "AskedRoutesModel") (List.mem_of_getElem? (i := 39) (by decide +kernel)) rfl a, by decide +kernel⟩
theorem mi_X12_delay {U : State} (h : tb U) : miV yX12_delay U := ⟨fun a => h (Cond.instanceMethod yX12_delay) (List.mem_of_getElem? (i := 897) (by decide +kernel)) rfl a, fun a => h (Cond.selects yX12_delay.cls yX12_delay yX12_delay) (List.mem_of_getElem? (i := 15) (by decide +kernel)) rfl a⟩
theorem me_X12_guessAt {U : State} (h : tb U) : meV yX12_guessAt cX12_guessAt 3 (some .int) 3 U := ⟨fun a => h (Cond.code yX12_guessAt cX12_guessAt 3 (some .int)) (List.mem_of_getElem? (i := 905) (by decide +kernel)) rfl a, fun a => h (Cond.initialized "AskedRoutesModel") (List.mem_of_getElem? (i := 39) (by decide +kernel)) rfl a, by decide +kernel⟩
theorem ms_X12_guessAt {U : State} (h : tb U) : msV yX12_guessAt U := fun a => h (Cond.static yX12_guessAt) (List.mem_of_getElem? (i := 904) (by decide +kernel)) rfl a
theorem me_X12_linkMany {U : State} (h : tb U) : meV yX12_linkMany cX12_linkMany 3 (some .int) 0 U := ⟨fun a => h (Cond.code yX12_linkMany cX12_linkMany 3 (some .int)) (List.mem_of_getElem? (i := 930) (by decide +kernel)) rfl a, fun a => h (Cond.initialized "AskedRoutesModel") (List.mem_of_getElem? (i := 39) (by decide +kernel)) rfl a, by decide +kernel⟩
theorem mi_X12_linkMany {U : State} (h : tb U) : miV yX12_linkMany U := ⟨fun a => h (Cond.instanceMethod yX12_linkMany) (List.mem_of_getElem? (i := 929) (by decide +kernel)) rfl a, fun a => h (Cond.selects yX12_linkMany.cls yX12_linkMany yX12_linkMany) (List.mem_of_getElem? (i := 20) (by decide +kernel)) rfl a⟩
theorem me_X12_pairOf {U : State} (h : tb U) : meV yX12_pairOf cX12_pairOf 4 (some .int) 1 U := ⟨fun a => h (Cond.code yX12_pairOf cX12_pairOf 4 (some .int)) (List.mem_of_getElem? (i := 874) (by decide +kernel)) rfl a, fun a => h (Cond.initialized "AskedRoutesModel") (List.mem_of_getElem? (i := 39) (by decide +kernel)) rfl a, by decide +kernel⟩
theorem mi_X12_pairOf {U : State} (h : tb U) : miV yX12_pairOf U := ⟨fun a => h (Cond.instanceMethod yX12_pairOf) (List.mem_of_getElem? (i := 873) (by decide +kernel)) rfl a, fun a => h (Cond.selects yX12_pairOf.cls yX12_pairOf yX12_pairOf) (List.mem_of_getElem? (i := 10) (by decide +kernel)) rfl a⟩
theorem me_X12_type {U : State} (h : tb U) : meV yX12_type cX12_type 2 (some .int) 1 U := ⟨fun a => h (Cond.code yX12_type cX12_type 2 (some .int)) (List.mem_of_getElem? (i := 828) (by decide +kernel)) rfl a, fun a => h (Cond.initialized "AskedRoutesModel") (List.mem_of_getElem? (i := 39) (by decide +kernel)) rfl a, by decide +kernel⟩
theorem mi_X12_type {U : State} (h : tb U) : miV yX12_type U := ⟨fun a => h (Cond.instanceMethod yX12_type) (List.mem_of_getElem? (i := 826) (by decide +kernel)) rfl a, fun a => h (Cond.selects yX12_type.cls yX12_type yX12_type) (List.mem_of_getElem? (i := 827) (by decide +kernel)) rfl a⟩
theorem me_X12_clear {U : State} (h : tb U) : meV yX12_clear cX12_clear 2 (some .int) 0 U := ⟨fun a => h (Cond.code yX12_clear cX12_clear 2 (some .int)) (List.mem_of_getElem? (i := 835) (by decide +kernel)) rfl a, fun a => h (Cond.initialized "AskedRoutesModel") (List.mem_of_getElem? (i := 39) (by decide +kernel)) rfl a, by decide +kernel⟩
theorem mi_X12_clear {U : State} (h : tb U) : miV yX12_clear U := ⟨fun a => h (Cond.instanceMethod yX12_clear) (List.mem_of_getElem? (i := 833) (by decide +kernel)) rfl a, fun a => h (Cond.selects yX12_clear.cls yX12_clear yX12_clear) (List.mem_of_getElem? (i := 834) (by decide +kernel)) rfl a⟩
theorem me_X12_isFigure {U : State} (h : tb U) : meV yX12_isFigure cX12_isFigure 1 (some .boolean) 0 U := ⟨fun a => h (Cond.code yX12_isFigure cX12_isFigure 1 (some .boolean)) (List.mem_of_getElem? (i := 855) (by decide +kernel)) rfl a, fun a => h (Cond.initialized "AskedRoutesModel") (List.mem_of_getElem? (i := 39) (by decide +kernel)) rfl a, by decide +kernel⟩
theorem mi_X12_isFigure {U : State} (h : tb U) : miV yX12_isFigure U := ⟨fun a => h (Cond.instanceMethod yX12_isFigure) (List.mem_of_getElem? (i := 854) (by decide +kernel)) rfl a, fun a => h (Cond.selects yX12_isFigure.cls yX12_isFigure yX12_isFigure) (List.mem_of_getElem? (i := 7) (by decide +kernel)) rfl a⟩
theorem me_X12_blanks {U : State} (h : tb U) : meV yX12_blanks cX12_blanks 1 none 0 U := ⟨fun a => h (Cond.code yX12_blanks cX12_blanks 1 none) (List.mem_of_getElem? (i := 843) (by decide +kernel)) rfl a, fun a => h (Cond.initialized "AskedRoutesModel") (List.mem_of_getElem? (i := 39) (by decide +kernel)) rfl a, by decide +kernel⟩
theorem mi_X12_blanks {U : State} (h : tb U) : miV yX12_blanks U := ⟨fun a => h (Cond.instanceMethod yX12_blanks) (List.mem_of_getElem? (i := 842) (by decide +kernel)) rfl a, fun a => h (Cond.selects yX12_blanks.cls yX12_blanks yX12_blanks) (List.mem_of_getElem? (i := 4) (by decide +kernel)) rfl a⟩
theorem me_X12_next {U : State} (h : tb U) : meV yX12_next cX12_next 2 none 0 U := ⟨fun a => h (Cond.code yX12_next cX12_next 2 none) (List.mem_of_getElem? (i := 851) (by decide +kernel)) rfl a, fun a => h (Cond.initialized "AskedRoutesModel") (List.mem_of_getElem? (i := 39) (by decide +kernel)) rfl a, by decide +kernel⟩
theorem mi_X12_next {U : State} (h : tb U) : miV yX12_next U := ⟨fun a => h (Cond.instanceMethod yX12_next) (List.mem_of_getElem? (i := 850) (by decide +kernel)) rfl a, fun a => h (Cond.selects yX12_next.cls yX12_next yX12_next) (List.mem_of_getElem? (i := 6) (by decide +kernel)) rfl a⟩
theorem me_X12_isNumber {U : State} (h : tb U) : meV yX12_isNumber cX12_isNumber 3 (some .boolean) 2 U := ⟨fun a => h (Cond.code yX12_isNumber cX12_isNumber 3 (some .boolean)) (List.mem_of_getElem? (i := 859) (by decide +kernel)) rfl a, fun a => h (Cond.initialized "AskedRoutesModel") (List.mem_of_getElem? (i := 39) (by decide +kernel)) rfl a, by decide +kernel⟩
theorem mi_X12_isNumber {U : State} (h : tb U) : miV yX12_isNumber U := ⟨fun a => h (Cond.instanceMethod yX12_isNumber) (List.mem_of_getElem? (i := 858) (by decide +kernel)) rfl a, fun a => h (Cond.selects yX12_isNumber.cls yX12_isNumber yX12_isNumber) (List.mem_of_getElem? (i := 8) (by decide +kernel)) rfl a⟩
theorem me_X12_readsLink {U : State} (h : tb U) : meV yX12_readsLink cX12_readsLink 3 (some .boolean) 0 U := ⟨fun a => h (Cond.code yX12_readsLink cX12_readsLink 3 (some .boolean)) (List.mem_of_getElem? (i := 863) (by decide +kernel)) rfl a, fun a => h (Cond.initialized "AskedRoutesModel") (List.mem_of_getElem? (i := 39) (by decide +kernel)) rfl a, by decide +kernel⟩
theorem mi_X12_readsLink {U : State} (h : tb U) : miV yX12_readsLink U := ⟨fun a => h (Cond.instanceMethod yX12_readsLink) (List.mem_of_getElem? (i := 862) (by decide +kernel)) rfl a, fun a => h (Cond.selects yX12_readsLink.cls yX12_readsLink yX12_readsLink) (List.mem_of_getElem? (i := 9) (by decide +kernel)) rfl a⟩
theorem me_X12_readsItem {U : State} (h : tb U) : meV yX12_readsItem cX12_readsItem 3 (some .boolean) 1 U := ⟨fun a => h (Cond.code yX12_readsItem cX12_readsItem 3 (some .boolean)) (List.mem_of_getElem? (i := 847) (by decide +kernel)) rfl a, fun a => h (Cond.initialized "AskedRoutesModel") (List.mem_of_getElem? (i := 39) (by decide +kernel)) rfl a, by decide +kernel⟩
theorem mi_X12_readsItem {U : State} (h : tb U) : miV yX12_readsItem U := ⟨fun a => h (Cond.instanceMethod yX12_readsItem) (List.mem_of_getElem? (i := 846) (by decide +kernel)) rfl a, fun a => h (Cond.selects yX12_readsItem.cls yX12_readsItem yX12_readsItem) (List.mem_of_getElem? (i := 5) (by decide +kernel)) rfl a⟩
theorem me_X12_net {U : State} (h : tb U) : meV yX12_net cX12_net 3 (some .int) 0 U := ⟨fun a => h (Cond.code yX12_net cX12_net 3 (some .int)) (List.mem_of_getElem? (i := 839) (by decide +kernel)) rfl a, fun a => h (Cond.initialized "AskedRoutesModel") (List.mem_of_getElem? (i := 39) (by decide +kernel)) rfl a, by decide +kernel⟩
theorem mi_X12_net {U : State} (h : tb U) : miV yX12_net U := ⟨fun a => h (Cond.instanceMethod yX12_net) (List.mem_of_getElem? (i := 837) (by decide +kernel)) rfl a, fun a => h (Cond.selects yX12_net.cls yX12_net yX12_net) (List.mem_of_getElem? (i := 838) (by decide +kernel)) rfl a⟩
theorem me_X12_link {U : State} (h : tb U) : meV yX12_link cX12_link 4 (some .int) 2 U := ⟨fun a => h (Cond.code yX12_link cX12_link 4 (some .int)) (List.mem_of_getElem? (i := 870) (by decide +kernel)) rfl a, fun a => h (Cond.initialized "AskedRoutesModel") (List.mem_of_getElem? (i := 39) (by decide +kernel)) rfl a, by decide +kernel⟩
theorem mi_X12_link {U : State} (h : tb U) : miV yX12_link U := ⟨fun a => h (Cond.instanceMethod yX12_link) (List.mem_of_getElem? (i := 868) (by decide +kernel)) rfl a, fun a => h (Cond.selects yX12_link.cls yX12_link yX12_link) (List.mem_of_getElem? (i := 869) (by decide +kernel)) rfl a⟩
theorem me_X12_guessNow {U : State} (h : tb U) : meV yX12_guessNow cX12_guessNow 6 (some .int) 3 U := ⟨fun a => h (Cond.code yX12_guessNow cX12_guessNow 6 (some .int)) (List.mem_of_getElem? (i := 902) (by decide +kernel)) rfl a, fun a => h (Cond.initialized "AskedRoutesModel") (List.mem_of_getElem? (i := 39) (by decide +kernel)) rfl a, by decide +kernel⟩
theorem mi_X12_guessNow {U : State} (h : tb U) : miV yX12_guessNow U := ⟨fun a => h (Cond.instanceMethod yX12_guessNow) (List.mem_of_getElem? (i := 901) (by decide +kernel)) rfl a, fun a => h (Cond.selects yX12_guessNow.cls yX12_guessNow yX12_guessNow) (List.mem_of_getElem? (i := 16) (by decide +kernel)) rfl a⟩
theorem me_X12_bestOf {U : State} (h : tb U) : meV yX12_bestOf cX12_bestOf 5 (some .int) 2 U := ⟨fun a => h (Cond.code yX12_bestOf cX12_bestOf 5 (some .int)) (List.mem_of_getElem? (i := 894) (by decide +kernel)) rfl a, fun a => h (Cond.initialized "AskedRoutesModel") (List.mem_of_getElem? (i := 39) (by decide +kernel)) rfl a, by decide +kernel⟩
theorem mi_X12_bestOf {U : State} (h : tb U) : miV yX12_bestOf U := ⟨fun a => h (Cond.instanceMethod yX12_bestOf) (List.mem_of_getElem? (i := 893) (by decide +kernel)) rfl a, fun a => h (Cond.selects yX12_bestOf.cls yX12_bestOf yX12_bestOf) (List.mem_of_getElem? (i := 14) (by decide +kernel)) rfl a⟩
theorem me_X12_eldestOf {U : State} (h : tb U) : meV yX12_eldestOf cX12_eldestOf 5 (some .int) 2 U := ⟨fun a => h (Cond.code yX12_eldestOf cX12_eldestOf 5 (some .int)) (List.mem_of_getElem? (i := 913) (by decide +kernel)) rfl a, fun a => h (Cond.initialized "AskedRoutesModel") (List.mem_of_getElem? (i := 39) (by decide +kernel)) rfl a, by decide +kernel⟩
theorem mi_X12_eldestOf {U : State} (h : tb U) : miV yX12_eldestOf U := ⟨fun a => h (Cond.instanceMethod yX12_eldestOf) (List.mem_of_getElem? (i := 912) (by decide +kernel)) rfl a, fun a => h (Cond.selects yX12_eldestOf.cls yX12_eldestOf yX12_eldestOf) (List.mem_of_getElem? (i := 18) (by decide +kernel)) rfl a⟩
theorem me_X12_remembers {U : State} (h : tb U) : meV yX12_remembers cX12_remembers 2 none 0 U := ⟨fun a => h (Cond.code yX12_remembers cX12_remembers 2 none) (List.mem_of_getElem? (i := 886) (by decide +kernel)) rfl a, fun a => h (Cond.initialized "AskedRoutesModel") (List.mem_of_getElem? (i := 39) (by decide +kernel)) rfl a, by decide +kernel⟩
theorem mi_X12_remembers {U : State} (h : tb U) : miV yX12_remembers U := ⟨fun a => h (Cond.instanceMethod yX12_remembers) (List.mem_of_getElem? (i := 885) (by decide +kernel)) rfl a, fun a => h (Cond.selects yX12_remembers.cls yX12_remembers yX12_remembers) (List.mem_of_getElem? (i := 12) (by decide +kernel)) rfl a⟩
theorem me_X12_hops {U : State} (h : tb U) : meV yX12_hops cX12_hops 9 (some .int) 2 U := ⟨fun a => h (Cond.code yX12_hops cX12_hops 9 (some .int)) (List.mem_of_getElem? (i := 909) (by decide +kernel)) rfl a, fun a => h (Cond.initialized "AskedRoutesModel") (List.mem_of_getElem? (i := 39) (by decide +kernel)) rfl a, by decide +kernel⟩
theorem mi_X12_hops {U : State} (h : tb U) : miV yX12_hops U := ⟨fun a => h (Cond.instanceMethod yX12_hops) (List.mem_of_getElem? (i := 908) (by decide +kernel)) rfl a, fun a => h (Cond.selects yX12_hops.cls yX12_hops yX12_hops) (List.mem_of_getElem? (i := 17) (by decide +kernel)) rfl a⟩
theorem me_X12_letter {U : State} (h : tb U) : meV yX12_letter cX12_letter 6 (some .int) 2 U := ⟨fun a => h (Cond.code yX12_letter cX12_letter 6 (some .int)) (List.mem_of_getElem? (i := 890) (by decide +kernel)) rfl a, fun a => h (Cond.initialized "AskedRoutesModel") (List.mem_of_getElem? (i := 39) (by decide +kernel)) rfl a, by decide +kernel⟩
theorem mi_X12_letter {U : State} (h : tb U) : miV yX12_letter U := ⟨fun a => h (Cond.instanceMethod yX12_letter) (List.mem_of_getElem? (i := 889) (by decide +kernel)) rfl a, fun a => h (Cond.selects yX12_letter.cls yX12_letter yX12_letter) (List.mem_of_getElem? (i := 13) (by decide +kernel)) rfl a⟩
theorem me_X12_sends {U : State} (h : tb U) : meV yX12_sends cX12_sends 3 (some .int) 2 U := ⟨fun a => h (Cond.code yX12_sends cX12_sends 3 (some .int)) (List.mem_of_getElem? (i := 878) (by decide +kernel)) rfl a, fun a => h (Cond.initialized "AskedRoutesModel") (List.mem_of_getElem? (i := 39) (by decide +kernel)) rfl a, by decide +kernel⟩
theorem mi_X12_sends {U : State} (h : tb U) : miV yX12_sends U := ⟨fun a => h (Cond.instanceMethod yX12_sends) (List.mem_of_getElem? (i := 876) (by decide +kernel)) rfl a, fun a => h (Cond.selects yX12_sends.cls yX12_sends yX12_sends) (List.mem_of_getElem? (i := 877) (by decide +kernel)) rfl a⟩
theorem me_X12_rounds {U : State} (h : tb U) : meV yX12_rounds cX12_rounds 6 (some .int) 1 U := ⟨fun a => h (Cond.code yX12_rounds cX12_rounds 6 (some .int)) (List.mem_of_getElem? (i := 918) (by decide +kernel)) rfl a, fun a => h (Cond.initialized "AskedRoutesModel") (List.mem_of_getElem? (i := 39) (by decide +kernel)) rfl a, by decide +kernel⟩
theorem mi_X12_rounds {U : State} (h : tb U) : miV yX12_rounds U := ⟨fun a => h (Cond.instanceMethod yX12_rounds) (List.mem_of_getElem? (i := 916) (by decide +kernel)) rfl a, fun a => h (Cond.selects yX12_rounds.cls yX12_rounds yX12_rounds) (List.mem_of_getElem? (i := 917) (by decide +kernel)) rfl a⟩
theorem me_X12_noGuesses {U : State} (h : tb U) : meV yX12_noGuesses cX12_noGuesses 4 none 2 U := ⟨fun a => h (Cond.code yX12_noGuesses cX12_noGuesses 4 none) (List.mem_of_getElem? (i := 926) (by decide +kernel)) rfl a, fun a => h (Cond.initialized "AskedRoutesModel") (List.mem_of_getElem? (i := 39) (by decide +kernel)) rfl a, by decide +kernel⟩
theorem mi_X12_noGuesses {U : State} (h : tb U) : miV yX12_noGuesses U := ⟨fun a => h (Cond.instanceMethod yX12_noGuesses) (List.mem_of_getElem? (i := 925) (by decide +kernel)) rfl a, fun a => h (Cond.selects yX12_noGuesses.cls yX12_noGuesses yX12_noGuesses) (List.mem_of_getElem? (i := 19) (by decide +kernel)) rfl a⟩
theorem me_X12_cuts {U : State} (h : tb U) : meV yX12_cuts cX12_cuts 3 (some .int) 1 U := ⟨fun a => h (Cond.code yX12_cuts cX12_cuts 3 (some .int)) (List.mem_of_getElem? (i := 922) (by decide +kernel)) rfl a, fun a => h (Cond.initialized "AskedRoutesModel") (List.mem_of_getElem? (i := 39) (by decide +kernel)) rfl a, by decide +kernel⟩
theorem mi_X12_cuts {U : State} (h : tb U) : miV yX12_cuts U := ⟨fun a => h (Cond.instanceMethod yX12_cuts) (List.mem_of_getElem? (i := 920) (by decide +kernel)) rfl a, fun a => h (Cond.selects yX12_cuts.cls yX12_cuts yX12_cuts) (List.mem_of_getElem? (i := 921) (by decide +kernel)) rfl a⟩
theorem me_X12_lays {U : State} (h : tb U) : meV yX12_lays cX12_lays 4 (some .int) 3 U := ⟨fun a => h (Cond.code yX12_lays cX12_lays 4 (some .int)) (List.mem_of_getElem? (i := 934) (by decide +kernel)) rfl a, fun a => h (Cond.initialized "AskedRoutesModel") (List.mem_of_getElem? (i := 39) (by decide +kernel)) rfl a, by decide +kernel⟩
theorem mi_X12_lays {U : State} (h : tb U) : miV yX12_lays U := ⟨fun a => h (Cond.instanceMethod yX12_lays) (List.mem_of_getElem? (i := 932) (by decide +kernel)) rfl a, fun a => h (Cond.selects yX12_lays.cls yX12_lays yX12_lays) (List.mem_of_getElem? (i := 933) (by decide +kernel)) rfl a⟩
theorem me_X12_changes {U : State} (h : tb U) : meV yX12_changes cX12_changes 5 (some .int) 2 U := ⟨fun a => h (Cond.code yX12_changes cX12_changes 5 (some .int)) (List.mem_of_getElem? (i := 938) (by decide +kernel)) rfl a, fun a => h (Cond.initialized "AskedRoutesModel") (List.mem_of_getElem? (i := 39) (by decide +kernel)) rfl a, by decide +kernel⟩
theorem mi_X12_changes {U : State} (h : tb U) : miV yX12_changes U := ⟨fun a => h (Cond.instanceMethod yX12_changes) (List.mem_of_getElem? (i := 936) (by decide +kernel)) rfl a, fun a => h (Cond.selects yX12_changes.cls yX12_changes yX12_changes) (List.mem_of_getElem? (i := 937) (by decide +kernel)) rfl a⟩
theorem me_X12_undo {U : State} (h : tb U) : meV yX12_undo cX12_undo 2 (some .int) 0 U := ⟨fun a => h (Cond.code yX12_undo cX12_undo 2 (some .int)) (List.mem_of_getElem? (i := 942) (by decide +kernel)) rfl a, fun a => h (Cond.initialized "AskedRoutesModel") (List.mem_of_getElem? (i := 39) (by decide +kernel)) rfl a, by decide +kernel⟩
theorem mi_X12_undo {U : State} (h : tb U) : miV yX12_undo U := ⟨fun a => h (Cond.instanceMethod yX12_undo) (List.mem_of_getElem? (i := 940) (by decide +kernel)) rfl a, fun a => h (Cond.selects yX12_undo.cls yX12_undo yX12_undo) (List.mem_of_getElem? (i := 941) (by decide +kernel)) rfl a⟩
theorem me_X12_whyNoGuess {U : State} (h : tb U) : meV yX12_whyNoGuess cX12_whyNoGuess 4 (some .int) 3 U := ⟨fun a => h (Cond.code yX12_whyNoGuess cX12_whyNoGuess 4 (some .int)) (List.mem_of_getElem? (i := 950) (by decide +kernel)) rfl a, fun a => h (Cond.initialized "AskedRoutesModel") (List.mem_of_getElem? (i := 39) (by decide +kernel)) rfl a, by decide +kernel⟩
theorem mi_X12_whyNoGuess {U : State} (h : tb U) : miV yX12_whyNoGuess U := ⟨fun a => h (Cond.instanceMethod yX12_whyNoGuess) (List.mem_of_getElem? (i := 949) (by decide +kernel)) rfl a, fun a => h (Cond.selects yX12_whyNoGuess.cls yX12_whyNoGuess yX12_whyNoGuess) (List.mem_of_getElem? (i := 21) (by decide +kernel)) rfl a⟩
theorem me_X12_guess {U : State} (h : tb U) : meV yX12_guess cX12_guess 5 (some .int) 3 U := ⟨fun a => h (Cond.code yX12_guess cX12_guess 5 (some .int)) (List.mem_of_getElem? (i := 946) (by decide +kernel)) rfl a, fun a => h (Cond.initialized "AskedRoutesModel") (List.mem_of_getElem? (i := 39) (by decide +kernel)) rfl a, by decide +kernel⟩
theorem mi_X12_guess {U : State} (h : tb U) : miV yX12_guess U := ⟨fun a => h (Cond.instanceMethod yX12_guess) (List.mem_of_getElem? (i := 944) (by decide +kernel)) rfl a, fun a => h (Cond.selects yX12_guess.cls yX12_guess yX12_guess) (List.mem_of_getElem? (i := 945) (by decide +kernel)) rfl a⟩
theorem me_X12_mended {U : State} (h : tb U) : meV yX12_mended cX12_mended 6 (some .int) 3 U := ⟨fun a => h (Cond.code yX12_mended cX12_mended 6 (some .int)) (List.mem_of_getElem? (i := 954) (by decide +kernel)) rfl a, fun a => h (Cond.initialized "AskedRoutesModel") (List.mem_of_getElem? (i := 39) (by decide +kernel)) rfl a, by decide +kernel⟩
theorem mi_X12_mended {U : State} (h : tb U) : miV yX12_mended U := ⟨fun a => h (Cond.instanceMethod yX12_mended) (List.mem_of_getElem? (i := 952) (by decide +kernel)) rfl a, fun a => h (Cond.selects yX12_mended.cls yX12_mended yX12_mended) (List.mem_of_getElem? (i := 953) (by decide +kernel)) rfl a⟩
theorem me_X12_best {U : State} (h : tb U) : meV yX12_best cX12_best 3 (some .int) 2 U := ⟨fun a => h (Cond.code yX12_best cX12_best 3 (some .int)) (List.mem_of_getElem? (i := 958) (by decide +kernel)) rfl a, fun a => h (Cond.initialized "AskedRoutesModel") (List.mem_of_getElem? (i := 39) (by decide +kernel)) rfl a, by decide +kernel⟩
theorem mi_X12_best {U : State} (h : tb U) : miV yX12_best U := ⟨fun a => h (Cond.instanceMethod yX12_best) (List.mem_of_getElem? (i := 956) (by decide +kernel)) rfl a, fun a => h (Cond.selects yX12_best.cls yX12_best yX12_best) (List.mem_of_getElem? (i := 957) (by decide +kernel)) rfl a⟩
theorem me_X12_node {U : State} (h : tb U) : meV yX12_node cX12_node 5 (some .int) 2 U := ⟨fun a => h (Cond.code yX12_node cX12_node 5 (some .int)) (List.mem_of_getElem? (i := 962) (by decide +kernel)) rfl a, fun a => h (Cond.initialized "AskedRoutesModel") (List.mem_of_getElem? (i := 39) (by decide +kernel)) rfl a, by decide +kernel⟩
theorem mi_X12_node {U : State} (h : tb U) : miV yX12_node U := ⟨fun a => h (Cond.instanceMethod yX12_node) (List.mem_of_getElem? (i := 960) (by decide +kernel)) rfl a, fun a => h (Cond.selects yX12_node.cls yX12_node yX12_node) (List.mem_of_getElem? (i := 961) (by decide +kernel)) rfl a⟩
theorem me_X12_used {U : State} (h : tb U) : meV yX12_used cX12_used 3 (some .int) 1 U := ⟨fun a => h (Cond.code yX12_used cX12_used 3 (some .int)) (List.mem_of_getElem? (i := 966) (by decide +kernel)) rfl a, fun a => h (Cond.initialized "AskedRoutesModel") (List.mem_of_getElem? (i := 39) (by decide +kernel)) rfl a, by decide +kernel⟩
theorem mi_X12_used {U : State} (h : tb U) : miV yX12_used U := ⟨fun a => h (Cond.instanceMethod yX12_used) (List.mem_of_getElem? (i := 964) (by decide +kernel)) rfl a, fun a => h (Cond.selects yX12_used.cls yX12_used yX12_used) (List.mem_of_getElem? (i := 965) (by decide +kernel)) rfl a⟩
theorem me_X12_way {U : State} (h : tb U) : meV yX12_way cX12_way 3 (some .int) 1 U := ⟨fun a => h (Cond.code yX12_way cX12_way 3 (some .int)) (List.mem_of_getElem? (i := 970) (by decide +kernel)) rfl a, fun a => h (Cond.initialized "AskedRoutesModel") (List.mem_of_getElem? (i := 39) (by decide +kernel)) rfl a, by decide +kernel⟩
theorem mi_X12_way {U : State} (h : tb U) : miV yX12_way U := ⟨fun a => h (Cond.instanceMethod yX12_way) (List.mem_of_getElem? (i := 968) (by decide +kernel)) rfl a, fun a => h (Cond.selects yX12_way.cls yX12_way yX12_way) (List.mem_of_getElem? (i := 969) (by decide +kernel)) rfl a⟩
theorem me_X12_laysPath {U : State} (h : tb U) : meV yX12_laysPath cX12_laysPath 6 (some .boolean) 2 U := ⟨fun a => h (Cond.code yX12_laysPath cX12_laysPath 6 (some .boolean)) (List.mem_of_getElem? (i := 978) (by decide +kernel)) rfl a, fun a => h (Cond.initialized "AskedRoutesModel") (List.mem_of_getElem? (i := 39) (by decide +kernel)) rfl a, by decide +kernel⟩
theorem mi_X12_laysPath {U : State} (h : tb U) : miV yX12_laysPath U := ⟨fun a => h (Cond.instanceMethod yX12_laysPath) (List.mem_of_getElem? (i := 977) (by decide +kernel)) rfl a, fun a => h (Cond.selects yX12_laysPath.cls yX12_laysPath yX12_laysPath) (List.mem_of_getElem? (i := 22) (by decide +kernel)) rfl a⟩
theorem me_X12_path {U : State} (h : tb U) : meV yX12_path cX12_path 4 (some .int) 3 U := ⟨fun a => h (Cond.code yX12_path cX12_path 4 (some .int)) (List.mem_of_getElem? (i := 974) (by decide +kernel)) rfl a, fun a => h (Cond.initialized "AskedRoutesModel") (List.mem_of_getElem? (i := 39) (by decide +kernel)) rfl a, by decide +kernel⟩
theorem mi_X12_path {U : State} (h : tb U) : miV yX12_path U := ⟨fun a => h (Cond.instanceMethod yX12_path) (List.mem_of_getElem? (i := 972) (by decide +kernel)) rfl a, fun a => h (Cond.selects yX12_path.cls yX12_path yX12_path) (List.mem_of_getElem? (i := 973) (by decide +kernel)) rfl a⟩
theorem me_X12_astray {U : State} (h : tb U) : meV yX12_astray cX12_astray 4 (some .int) 1 U := ⟨fun a => h (Cond.code yX12_astray cX12_astray 4 (some .int)) (List.mem_of_getElem? (i := 985) (by decide +kernel)) rfl a, fun a => h (Cond.initialized "AskedRoutesModel") (List.mem_of_getElem? (i := 39) (by decide +kernel)) rfl a, by decide +kernel⟩
theorem mi_X12_astray {U : State} (h : tb U) : miV yX12_astray U := ⟨fun a => h (Cond.instanceMethod yX12_astray) (List.mem_of_getElem? (i := 983) (by decide +kernel)) rfl a, fun a => h (Cond.selects yX12_astray.cls yX12_astray yX12_astray) (List.mem_of_getElem? (i := 984) (by decide +kernel)) rfl a⟩
theorem me_X12_laysFar {U : State} (h : tb U) : meV yX12_laysFar cX12_laysFar 6 none 1 U := ⟨fun a => h (Cond.code yX12_laysFar cX12_laysFar 6 none) (List.mem_of_getElem? (i := 993) (by decide +kernel)) rfl a, fun a => h (Cond.initialized "AskedRoutesModel") (List.mem_of_getElem? (i := 39) (by decide +kernel)) rfl a, by decide +kernel⟩
theorem mi_X12_laysFar {U : State} (h : tb U) : miV yX12_laysFar U := ⟨fun a => h (Cond.instanceMethod yX12_laysFar) (List.mem_of_getElem? (i := 992) (by decide +kernel)) rfl a, fun a => h (Cond.selects yX12_laysFar.cls yX12_laysFar yX12_laysFar) (List.mem_of_getElem? (i := 23) (by decide +kernel)) rfl a⟩
theorem me_X12_farOf {U : State} (h : tb U) : meV yX12_farOf cX12_farOf 4 (some .int) 2 U := ⟨fun a => h (Cond.code yX12_farOf cX12_farOf 4 (some .int)) (List.mem_of_getElem? (i := 997) (by decide +kernel)) rfl a, fun a => h (Cond.initialized "AskedRoutesModel") (List.mem_of_getElem? (i := 39) (by decide +kernel)) rfl a, by decide +kernel⟩
theorem mi_X12_farOf {U : State} (h : tb U) : miV yX12_farOf U := ⟨fun a => h (Cond.instanceMethod yX12_farOf) (List.mem_of_getElem? (i := 996) (by decide +kernel)) rfl a, fun a => h (Cond.selects yX12_farOf.cls yX12_farOf yX12_farOf) (List.mem_of_getElem? (i := 24) (by decide +kernel)) rfl a⟩
theorem me_X12_least {U : State} (h : tb U) : meV yX12_least cX12_least 3 (some .int) 2 U := ⟨fun a => h (Cond.code yX12_least cX12_least 3 (some .int)) (List.mem_of_getElem? (i := 989) (by decide +kernel)) rfl a, fun a => h (Cond.initialized "AskedRoutesModel") (List.mem_of_getElem? (i := 39) (by decide +kernel)) rfl a, by decide +kernel⟩
theorem mi_X12_least {U : State} (h : tb U) : miV yX12_least U := ⟨fun a => h (Cond.instanceMethod yX12_least) (List.mem_of_getElem? (i := 987) (by decide +kernel)) rfl a, fun a => h (Cond.selects yX12_least.cls yX12_least yX12_least) (List.mem_of_getElem? (i := 988) (by decide +kernel)) rfl a⟩
theorem me_X12_right {U : State} (h : tb U) : meV yX12_right cX12_right 4 (some .int) 0 U := ⟨fun a => h (Cond.code yX12_right cX12_right 4 (some .int)) (List.mem_of_getElem? (i := 1001) (by decide +kernel)) rfl a, fun a => h (Cond.initialized "AskedRoutesModel") (List.mem_of_getElem? (i := 39) (by decide +kernel)) rfl a, by decide +kernel⟩
theorem mi_X12_right {U : State} (h : tb U) : miV yX12_right U := ⟨fun a => h (Cond.instanceMethod yX12_right) (List.mem_of_getElem? (i := 999) (by decide +kernel)) rfl a, fun a => h (Cond.selects yX12_right.cls yX12_right yX12_right) (List.mem_of_getElem? (i := 1000) (by decide +kernel)) rfl a⟩
theorem me_X12_hurtOf {U : State} (h : tb U) : meV yX12_hurtOf cX12_hurtOf 6 (some .int) 1 U := ⟨fun a => h (Cond.code yX12_hurtOf cX12_hurtOf 6 (some .int)) (List.mem_of_getElem? (i := 1009) (by decide +kernel)) rfl a, fun a => h (Cond.initialized "AskedRoutesModel") (List.mem_of_getElem? (i := 39) (by decide +kernel)) rfl a, by decide +kernel⟩
theorem mi_X12_hurtOf {U : State} (h : tb U) : miV yX12_hurtOf U := ⟨fun a => h (Cond.instanceMethod yX12_hurtOf) (List.mem_of_getElem? (i := 1008) (by decide +kernel)) rfl a, fun a => h (Cond.selects yX12_hurtOf.cls yX12_hurtOf yX12_hurtOf) (List.mem_of_getElem? (i := 25) (by decide +kernel)) rfl a⟩
theorem me_X12_hurt {U : State} (h : tb U) : meV yX12_hurt cX12_hurt 3 (some .int) 1 U := ⟨fun a => h (Cond.code yX12_hurt cX12_hurt 3 (some .int)) (List.mem_of_getElem? (i := 1005) (by decide +kernel)) rfl a, fun a => h (Cond.initialized "AskedRoutesModel") (List.mem_of_getElem? (i := 39) (by decide +kernel)) rfl a, by decide +kernel⟩
theorem mi_X12_hurt {U : State} (h : tb U) : miV yX12_hurt U := ⟨fun a => h (Cond.instanceMethod yX12_hurt) (List.mem_of_getElem? (i := 1003) (by decide +kernel)) rfl a, fun a => h (Cond.selects yX12_hurt.cls yX12_hurt yX12_hurt) (List.mem_of_getElem? (i := 1004) (by decide +kernel)) rfl a⟩
theorem me_X12_worst {U : State} (h : tb U) : meV yX12_worst cX12_worst 6 (some .int) 0 U := ⟨fun a => h (Cond.code yX12_worst cX12_worst 6 (some .int)) (List.mem_of_getElem? (i := 1013) (by decide +kernel)) rfl a, fun a => h (Cond.initialized "AskedRoutesModel") (List.mem_of_getElem? (i := 39) (by decide +kernel)) rfl a, by decide +kernel⟩
theorem mi_X12_worst {U : State} (h : tb U) : miV yX12_worst U := ⟨fun a => h (Cond.instanceMethod yX12_worst) (List.mem_of_getElem? (i := 1011) (by decide +kernel)) rfl a, fun a => h (Cond.selects yX12_worst.cls yX12_worst yX12_worst) (List.mem_of_getElem? (i := 1012) (by decide +kernel)) rfl a⟩
theorem me_X12_sees {U : State} (h : tb U) : meV yX12_sees cX12_sees 4 (some .int) 3 U := ⟨fun a => h (Cond.code yX12_sees cX12_sees 4 (some .int)) (List.mem_of_getElem? (i := 1017) (by decide +kernel)) rfl a, fun a => h (Cond.initialized "AskedRoutesModel") (List.mem_of_getElem? (i := 39) (by decide +kernel)) rfl a, by decide +kernel⟩
theorem mi_X12_sees {U : State} (h : tb U) : miV yX12_sees U := ⟨fun a => h (Cond.instanceMethod yX12_sees) (List.mem_of_getElem? (i := 1015) (by decide +kernel)) rfl a, fun a => h (Cond.selects yX12_sees.cls yX12_sees yX12_sees) (List.mem_of_getElem? (i := 1016) (by decide +kernel)) rfl a⟩
theorem me_X12_forget {U : State} (h : tb U) : meV yX12_forget cX12_forget 2 (some .int) 0 U := ⟨fun a => h (Cond.code yX12_forget cX12_forget 2 (some .int)) (List.mem_of_getElem? (i := 1021) (by decide +kernel)) rfl a, fun a => h (Cond.initialized "AskedRoutesModel") (List.mem_of_getElem? (i := 39) (by decide +kernel)) rfl a, by decide +kernel⟩
theorem mi_X12_forget {U : State} (h : tb U) : miV yX12_forget U := ⟨fun a => h (Cond.instanceMethod yX12_forget) (List.mem_of_getElem? (i := 1019) (by decide +kernel)) rfl a, fun a => h (Cond.selects yX12_forget.cls yX12_forget yX12_forget) (List.mem_of_getElem? (i := 1020) (by decide +kernel)) rfl a⟩
theorem me_X12_unseen {U : State} (h : tb U) : meV yX12_unseen cX12_unseen 7 (some .int) 0 U := ⟨fun a => h (Cond.code yX12_unseen cX12_unseen 7 (some .int)) (List.mem_of_getElem? (i := 1025) (by decide +kernel)) rfl a, fun a => h (Cond.initialized "AskedRoutesModel") (List.mem_of_getElem? (i := 39) (by decide +kernel)) rfl a, by decide +kernel⟩
theorem mi_X12_unseen {U : State} (h : tb U) : miV yX12_unseen U := ⟨fun a => h (Cond.instanceMethod yX12_unseen) (List.mem_of_getElem? (i := 1023) (by decide +kernel)) rfl a, fun a => h (Cond.selects yX12_unseen.cls yX12_unseen yX12_unseen) (List.mem_of_getElem? (i := 1024) (by decide +kernel)) rfl a⟩
theorem me_X12_keep {U : State} (h : tb U) : meV yX12_keep cX12_keep 3 (some .int) 1 U := ⟨fun a => h (Cond.code yX12_keep cX12_keep 3 (some .int)) (List.mem_of_getElem? (i := 1029) (by decide +kernel)) rfl a, fun a => h (Cond.initialized "AskedRoutesModel") (List.mem_of_getElem? (i := 39) (by decide +kernel)) rfl a, by decide +kernel⟩
theorem mi_X12_keep {U : State} (h : tb U) : miV yX12_keep U := ⟨fun a => h (Cond.instanceMethod yX12_keep) (List.mem_of_getElem? (i := 1027) (by decide +kernel)) rfl a, fun a => h (Cond.selects yX12_keep.cls yX12_keep yX12_keep) (List.mem_of_getElem? (i := 1028) (by decide +kernel)) rfl a⟩
theorem me_X12_back {U : State} (h : tb U) : meV yX12_back cX12_back 3 (some .int) 1 U := ⟨fun a => h (Cond.code yX12_back cX12_back 3 (some .int)) (List.mem_of_getElem? (i := 1033) (by decide +kernel)) rfl a, fun a => h (Cond.initialized "AskedRoutesModel") (List.mem_of_getElem? (i := 39) (by decide +kernel)) rfl a, by decide +kernel⟩
theorem mi_X12_back {U : State} (h : tb U) : miV yX12_back U := ⟨fun a => h (Cond.instanceMethod yX12_back) (List.mem_of_getElem? (i := 1031) (by decide +kernel)) rfl a, fun a => h (Cond.selects yX12_back.cls yX12_back yX12_back) (List.mem_of_getElem? (i := 1032) (by decide +kernel)) rfl a⟩
theorem me_X12_count {U : State} (h : tb U) : meV yX12_count cX12_count 2 (some .int) 1 U := ⟨fun a => h (Cond.code yX12_count cX12_count 2 (some .int)) (List.mem_of_getElem? (i := 1037) (by decide +kernel)) rfl a, fun a => h (Cond.initialized "AskedRoutesModel") (List.mem_of_getElem? (i := 39) (by decide +kernel)) rfl a, by decide +kernel⟩
theorem mi_X12_count {U : State} (h : tb U) : miV yX12_count U := ⟨fun a => h (Cond.instanceMethod yX12_count) (List.mem_of_getElem? (i := 1035) (by decide +kernel)) rfl a, fun a => h (Cond.selects yX12_count.cls yX12_count yX12_count) (List.mem_of_getElem? (i := 1036) (by decide +kernel)) rfl a⟩
theorem me_J9_max_7cf53 {U : State} (h : tb U) : meV yJ9_max_7cf53 cJ9_max_7cf53 2 (some .int) 2 U := ⟨fun a => h (Cond.code yJ9_max_7cf53 cJ9_max_7cf53 2 (some .int)) (List.mem_of_getElem? (i := 545) (by decide +kernel)) rfl a, fun a => h (Cond.initialized "java/lang/Math") (List.mem_of_getElem? (i := 41) (by decide +kernel)) rfl a, by decide +kernel⟩
theorem ms_J9_max_7cf53 {U : State} (h : tb U) : msV yJ9_max_7cf53 U := fun a => h (Cond.static yJ9_max_7cf53) (List.mem_of_getElem? (i := 544) (by decide +kernel)) rfl a
theorem me_J9_min_7cf53 {U : State} (h : tb U) : meV yJ9_min_7cf53 cJ9_min_7cf53 2 (some .int) 2 U := ⟨fun a => h (Cond.code yJ9_min_7cf53 cJ9_min_7cf53 2 (some .int)) (List.mem_of_getElem? (i := 399) (by decide +kernel)) rfl a, fun a => h (Cond.initialized "java/lang/Math") (List.mem_of_getElem? (i := 41) (by decide +kernel)) rfl a, by decide +kernel⟩
theorem ms_J9_min_7cf53 {U : State} (h : tb U) : msV yJ9_min_7cf53 U := fun a => h (Cond.static yJ9_min_7cf53) (List.mem_of_getElem? (i := 398) (by decide +kernel)) rfl a
theorem me_J7_fill_53178 {U : State} (h : tb U) : meV yJ7_fill_53178 cJ7_fill_53178 4 none 2 U := ⟨fun a => h (Cond.code yJ7_fill_53178 cJ7_fill_53178 4 none) (List.mem_of_getElem? (i := 385) (by decide +kernel)) rfl a, fun a => h (Cond.initialized "java/util/Arrays") (List.mem_of_getElem? (i := 40) (by decide +kernel)) rfl a, by decide +kernel⟩
theorem ms_J7_fill_53178 {U : State} (h : tb U) : msV yJ7_fill_53178 U := fun a => h (Cond.static yJ7_fill_53178) (List.mem_of_getElem? (i := 384) (by decide +kernel)) rfl a
theorem ml_X11_18 {U : State} (h : tb U) : mlV RX11 18 yX6_init U := fun a => h (Cond.methodLink "AskedRoutes" 18 yX6_init) (List.mem_of_getElem? (i := 70) (by decide +kernel)) rfl a
theorem ml_X11_27 {U : State} (h : tb U) : mlV RX11 27 yX7_init U := fun a => h (Cond.methodLink "AskedRoutes" 27 yX7_init) (List.mem_of_getElem? (i := 167) (by decide +kernel)) rfl a
theorem ml_X11_41 {U : State} (h : tb U) : mlV RX11 41 yX5_init U := fun a => h (Cond.methodLink "AskedRoutes" 41 yX5_init) (List.mem_of_getElem? (i := 222) (by decide +kernel)) rfl a
theorem ml_X11_50 {U : State} (h : tb U) : mlV RX11 50 yX4_init U := fun a => h (Cond.methodLink "AskedRoutes" 50 yX4_init) (List.mem_of_getElem? (i := 236) (by decide +kernel)) rfl a
theorem ml_X11_57 {U : State} (h : tb U) : mlV RX11 57 yX0_init U := fun a => h (Cond.methodLink "AskedRoutes" 57 yX0_init) (List.mem_of_getElem? (i := 256) (by decide +kernel)) rfl a
theorem ml_X11_64 {U : State} (h : tb U) : mlV RX11 64 yX10_init U := fun a => h (Cond.methodLink "AskedRoutes" 64 yX10_init) (List.mem_of_getElem? (i := 274) (by decide +kernel)) rfl a
theorem ml_X11_85 {U : State} (h : tb U) : mlV RX11 85 yX9_append U := fun a => h (Cond.methodLink "AskedRoutes" 85 yX9_append) (List.mem_of_getElem? (i := 362) (by decide +kernel)) rfl a
theorem ml_X11_93 {U : State} (h : tb U) : mlV RX11 93 yX6_readText U := fun a => h (Cond.methodLink "AskedRoutes" 93 yX6_readText) (List.mem_of_getElem? (i := 374) (by decide +kernel)) rfl a
theorem ml_X11_98 {U : State} (h : tb U) : mlV RX11 98 yX7_copyFrom U := fun a => h (Cond.methodLink "AskedRoutes" 98 yX7_copyFrom) (List.mem_of_getElem? (i := 442) (by decide +kernel)) rfl a
theorem ml_X11_106 {U : State} (h : tb U) : mlV RX11 106 yX1_restart U := fun a => h (Cond.methodLink "AskedRoutes" 106 yX1_restart) (List.mem_of_getElem? (i := 446) (by decide +kernel)) rfl a
theorem ml_X11_111 {U : State} (h : tb U) : mlV RX11 111 yX0_drop U := fun a => h (Cond.methodLink "AskedRoutes" 111 yX0_drop) (List.mem_of_getElem? (i := 458) (by decide +kernel)) rfl a
theorem ml_X11_119 {U : State} (h : tb U) : mlV RX11 119 yX3_pairOf U := fun a => h (Cond.methodLink "AskedRoutes" 119 yX3_pairOf) (List.mem_of_getElem? (i := 466) (by decide +kernel)) rfl a
theorem ml_X11_129 {U : State} (h : tb U) : mlV RX11 129 yX11_areUnlike U := fun a => h (Cond.methodLink "AskedRoutes" 129 yX11_areUnlike) (List.mem_of_getElem? (i := 474) (by decide +kernel)) rfl a
theorem ml_X11_133 {U : State} (h : tb U) : mlV RX11 133 yX4_push U := fun a => h (Cond.methodLink "AskedRoutes" 133 yX4_push) (List.mem_of_getElem? (i := 482) (by decide +kernel)) rfl a
theorem ml_X11_137 {U : State} (h : tb U) : mlV RX11 137 yX5_deliver U := fun a => h (Cond.methodLink "AskedRoutes" 137 yX5_deliver) (List.mem_of_getElem? (i := 491) (by decide +kernel)) rfl a
theorem ml_X11_141 {U : State} (h : tb U) : mlV RX11 141 yX5_deliverRound U := fun a => h (Cond.methodLink "AskedRoutes" 141 yX5_deliverRound) (List.mem_of_getElem? (i := 552) (by decide +kernel)) rfl a
theorem ml_X11_144 {U : State} (h : tb U) : mlV RX11 144 yX1_takeAway U := fun a => h (Cond.methodLink "AskedRoutes" 144 yX1_takeAway) (List.mem_of_getElem? (i := 561) (by decide +kernel)) rfl a
theorem ml_X11_151 {U : State} (h : tb U) : mlV RX11 151 yX11_isDelay U := fun a => h (Cond.methodLink "AskedRoutes" 151 yX11_isDelay) (List.mem_of_getElem? (i := 574) (by decide +kernel)) rfl a
theorem ml_X11_154 {U : State} (h : tb U) : mlV RX11 154 yX3_delayOf U := fun a => h (Cond.methodLink "AskedRoutes" 154 yX3_delayOf) (List.mem_of_getElem? (i := 577) (by decide +kernel)) rfl a
theorem ml_X11_157 {U : State} (h : tb U) : mlV RX11 157 yX3_put U := fun a => h (Cond.methodLink "AskedRoutes" 157 yX3_put) (List.mem_of_getElem? (i := 578) (by decide +kernel)) rfl a
theorem ml_X11_161 {U : State} (h : tb U) : mlV RX11 161 yX4_pop U := fun a => h (Cond.methodLink "AskedRoutes" 161 yX4_pop) (List.mem_of_getElem? (i := 587) (by decide +kernel)) rfl a
theorem ml_X11_165 {U : State} (h : tb U) : mlV RX11 165 yX11_refusalOfGuess U := fun a => h (Cond.methodLink "AskedRoutes" 165 yX11_refusalOfGuess) (List.mem_of_getElem? (i := 595) (by decide +kernel)) rfl a
theorem ml_X11_169 {U : State} (h : tb U) : mlV RX11 169 yX5_guessBy U := fun a => h (Cond.methodLink "AskedRoutes" 169 yX5_guessBy) (List.mem_of_getElem? (i := 599) (by decide +kernel)) rfl a
theorem ml_X11_175 {U : State} (h : tb U) : mlV RX11 175 yX11_guessCell U := fun a => h (Cond.methodLink "AskedRoutes" 175 yX11_guessCell) (List.mem_of_getElem? (i := 604) (by decide +kernel)) rfl a
theorem ml_X11_178 {U : State} (h : tb U) : mlV RX11 178 yX5_bestOf U := fun a => h (Cond.methodLink "AskedRoutes" 178 yX5_bestOf) (List.mem_of_getElem? (i := 609) (by decide +kernel)) rfl a
theorem ml_X11_181 {U : State} (h : tb U) : mlV RX11 181 yX11_isNode U := fun a => h (Cond.methodLink "AskedRoutes" 181 yX11_isNode) (List.mem_of_getElem? (i := 478) (by decide +kernel)) rfl a
theorem ml_X11_190 {U : State} (h : tb U) : mlV RX11 190 yX3_neighboursOf U := fun a => h (Cond.methodLink "AskedRoutes" 190 yX3_neighboursOf) (List.mem_of_getElem? (i := 614) (by decide +kernel)) rfl a
theorem ml_X11_202 {U : State} (h : tb U) : mlV RX11 202 yX10_follow U := fun a => h (Cond.methodLink "AskedRoutes" 202 yX10_follow) (List.mem_of_getElem? (i := 627) (by decide +kernel)) rfl a
theorem ml_X11_211 {U : State} (h : tb U) : mlV RX11 211 yX2_measure U := fun a => h (Cond.methodLink "AskedRoutes" 211 yX2_measure) (List.mem_of_getElem? (i := 641) (by decide +kernel)) rfl a
theorem ml_X11_215 {U : State} (h : tb U) : mlV RX11 215 yX2_between U := fun a => h (Cond.methodLink "AskedRoutes" 215 yX2_between) (List.mem_of_getElem? (i := 654) (by decide +kernel)) rfl a
theorem ml_X11_220 {U : State} (h : tb U) : mlV RX11 220 yX11_hurtWithout U := fun a => h (Cond.methodLink "AskedRoutes" 220 yX11_hurtWithout) (List.mem_of_getElem? (i := 666) (by decide +kernel)) rfl a
theorem ml_X11_223 {U : State} (h : tb U) : mlV RX11 223 yX8_append U := fun a => h (Cond.methodLink "AskedRoutes" 223 yX8_append) (List.mem_of_getElem? (i := 683) (by decide +kernel)) rfl a
theorem ml_X11_226 {U : State} (h : tb U) : mlV RX11 226 yX8_agree U := fun a => h (Cond.methodLink "AskedRoutes" 226 yX8_agree) (List.mem_of_getElem? (i := 695) (by decide +kernel)) rfl a
theorem ml_X11_230 {U : State} (h : tb U) : mlV RX11 230 yX11_isImage U := fun a => h (Cond.methodLink "AskedRoutes" 230 yX11_isImage) (List.mem_of_getElem? (i := 704) (by decide +kernel)) rfl a
theorem ml_X11_237 {U : State} (h : tb U) : mlV RX11 237 yX1_copyFrom U := fun a => h (Cond.methodLink "AskedRoutes" 237 yX1_copyFrom) (List.mem_of_getElem? (i := 707) (by decide +kernel)) rfl a
theorem ml_X11_261 {U : State} (h : tb U) : mlV RX11 261 yX2_sumOfAll U := fun a => h (Cond.methodLink "AskedRoutes" 261 yX2_sumOfAll) (List.mem_of_getElem? (i := 670) (by decide +kernel)) rfl a
theorem ml_X1_37 {U : State} (h : tb U) : mlV RX1 37 yX3_copyFrom U := fun a => h (Cond.methodLink "AskedRoutes$Known" 37 yX3_copyFrom) (List.mem_of_getElem? (i := 450) (by decide +kernel)) rfl a
theorem ml_X1_41 {U : State} (h : tb U) : mlV RX1 41 yJ7_fill_53178 U := fun a => h (Cond.methodLink "AskedRoutes$Known" 41 yJ7_fill_53178) (List.mem_of_getElem? (i := 457) (by decide +kernel)) rfl a
theorem ml_X1_60 {U : State} (h : tb U) : mlV RX1 60 yX3_takeAway U := fun a => h (Cond.methodLink "AskedRoutes$Known" 60 yX3_takeAway) (List.mem_of_getElem? (i := 565) (by decide +kernel)) rfl a
theorem ml_X1_80 {U : State} (h : tb U) : mlV RX1 80 yX1_addToWay U := fun a => h (Cond.methodLink "AskedRoutes$Known" 80 yX1_addToWay) (List.mem_of_getElem? (i := 547) (by decide +kernel)) rfl a
theorem ml_X2_23 {U : State} (h : tb U) : mlV RX2 23 yX2_stepFrom U := fun a => h (Cond.methodLink "AskedRoutes$LeastWays" 23 yX2_stepFrom) (List.mem_of_getElem? (i := 646) (by decide +kernel)) rfl a
theorem ml_X2_32 {U : State} (h : tb U) : mlV RX2 32 yX3_delayOf U := fun a => h (Cond.methodLink "AskedRoutes$LeastWays" 32 yX3_delayOf) (List.mem_of_getElem? (i := 650) (by decide +kernel)) rfl a
theorem ml_X2_41 {U : State} (h : tb U) : mlV RX2 41 yX2_between U := fun a => h (Cond.methodLink "AskedRoutes$LeastWays" 41 yX2_between) (List.mem_of_getElem? (i := 674) (by decide +kernel)) rfl a
theorem ml_X3_15 {U : State} (h : tb U) : mlV RX3 15 yJ7_fill_53178 U := fun a => h (Cond.methodLink "AskedRoutes$Links" 15 yJ7_fill_53178) (List.mem_of_getElem? (i := 383) (by decide +kernel)) rfl a
theorem ml_X3_35 {U : State} (h : tb U) : mlV RX3 35 yX3_delayOf U := fun a => h (Cond.methodLink "AskedRoutes$Links" 35 yX3_delayOf) (List.mem_of_getElem? (i := 427) (by decide +kernel)) rfl a
theorem ml_X4_22 {U : State} (h : tb U) : mlV RX4 22 yX1_copyFrom U := fun a => h (Cond.methodLink "AskedRoutes$Past" 22 yX1_copyFrom) (List.mem_of_getElem? (i := 486) (by decide +kernel)) rfl a
theorem ml_X5_23 {U : State} (h : tb U) : mlV RX5 23 yX5_guessAt U := fun a => h (Cond.methodLink "AskedRoutes$Post" 23 yX5_guessAt) (List.mem_of_getElem? (i := 519) (by decide +kernel)) rfl a
theorem ml_X5_64 {U : State} (h : tb U) : mlV RX5 64 yX3_neighboursOf U := fun a => h (Cond.methodLink "AskedRoutes$Post" 64 yX3_neighboursOf) (List.mem_of_getElem? (i := 503) (by decide +kernel)) rfl a
theorem ml_X5_76 {U : State} (h : tb U) : mlV RX5 76 yX5_stalestOf U := fun a => h (Cond.methodLink "AskedRoutes$Post" 76 yX5_stalestOf) (List.mem_of_getElem? (i := 507) (by decide +kernel)) rfl a
theorem ml_X5_79 {U : State} (h : tb U) : mlV RX5 79 yX5_bestOf U := fun a => h (Cond.methodLink "AskedRoutes$Post" 79 yX5_bestOf) (List.mem_of_getElem? (i := 515) (by decide +kernel)) rfl a
theorem ml_X5_82 {U : State} (h : tb U) : mlV RX5 82 yX5_guessBy U := fun a => h (Cond.methodLink "AskedRoutes$Post" 82 yX5_guessBy) (List.mem_of_getElem? (i := 532) (by decide +kernel)) rfl a
theorem ml_X5_85 {U : State} (h : tb U) : mlV RX5 85 yX3_delayOf U := fun a => h (Cond.methodLink "AskedRoutes$Post" 85 yX3_delayOf) (List.mem_of_getElem? (i := 523) (by decide +kernel)) rfl a
theorem ml_X5_88 {U : State} (h : tb U) : mlV RX5 88 yX5_toldBy U := fun a => h (Cond.methodLink "AskedRoutes$Post" 88 yX5_toldBy) (List.mem_of_getElem? (i := 528) (by decide +kernel)) rfl a
theorem ml_X5_103 {U : State} (h : tb U) : mlV RX5 103 yX1_addToWay U := fun a => h (Cond.methodLink "AskedRoutes$Post" 103 yX1_addToWay) (List.mem_of_getElem? (i := 495) (by decide +kernel)) rfl a
theorem ml_X5_107 {U : State} (h : tb U) : mlV RX5 107 yX5_chooseHop U := fun a => h (Cond.methodLink "AskedRoutes$Post" 107 yX5_chooseHop) (List.mem_of_getElem? (i := 499) (by decide +kernel)) rfl a
theorem ml_X5_110 {U : State} (h : tb U) : mlV RX5 110 yX5_mend U := fun a => h (Cond.methodLink "AskedRoutes$Post" 110 yX5_mend) (List.mem_of_getElem? (i := 524) (by decide +kernel)) rfl a
theorem ml_X5_114 {U : State} (h : tb U) : mlV RX5 114 yX1_countHop U := fun a => h (Cond.methodLink "AskedRoutes$Post" 114 yX1_countHop) (List.mem_of_getElem? (i := 538) (by decide +kernel)) rfl a
theorem ml_X5_121 {U : State} (h : tb U) : mlV RX5 121 yX5_deliver U := fun a => h (Cond.methodLink "AskedRoutes$Post" 121 yX5_deliver) (List.mem_of_getElem? (i := 556) (by decide +kernel)) rfl a
theorem ml_X6_11 {U : State} (h : tb U) : mlV RX6 11 yX7_init U := fun a => h (Cond.methodLink "AskedRoutes$Reader" 11 yX7_init) (List.mem_of_getElem? (i := 76) (by decide +kernel)) rfl a
theorem ml_X6_29 {U : State} (h : tb U) : mlV RX6 29 yX7_restart U := fun a => h (Cond.methodLink "AskedRoutes$Reader" 29 yX7_restart) (List.mem_of_getElem? (i := 378) (by decide +kernel)) rfl a
theorem ml_X6_32 {U : State} (h : tb U) : mlV RX6 32 yX3_restart U := fun a => h (Cond.methodLink "AskedRoutes$Reader" 32 yX3_restart) (List.mem_of_getElem? (i := 379) (by decide +kernel)) rfl a
theorem ml_X6_40 {U : State} (h : tb U) : mlV RX6 40 yX6_step U := fun a => h (Cond.methodLink "AskedRoutes$Reader" 40 yX6_step) (List.mem_of_getElem? (i := 386) (by decide +kernel)) rfl a
theorem ml_X6_46 {U : State} (h : tb U) : mlV RX6 46 yX6_readItem U := fun a => h (Cond.methodLink "AskedRoutes$Reader" 46 yX6_readItem) (List.mem_of_getElem? (i := 400) (by decide +kernel)) rfl a
theorem ml_X6_50 {U : State} (h : tb U) : mlV RX6 50 yX6_readEnd U := fun a => h (Cond.methodLink "AskedRoutes$Reader" 50 yX6_readEnd) (List.mem_of_getElem? (i := 438) (by decide +kernel)) rfl a
theorem ml_X6_56 {U : State} (h : tb U) : mlV RX6 56 yX6_readNodes U := fun a => h (Cond.methodLink "AskedRoutes$Reader" 56 yX6_readNodes) (List.mem_of_getElem? (i := 404) (by decide +kernel)) rfl a
theorem ml_X6_62 {U : State} (h : tb U) : mlV RX6 62 yX6_readLink U := fun a => h (Cond.methodLink "AskedRoutes$Reader" 62 yX6_readLink) (List.mem_of_getElem? (i := 412) (by decide +kernel)) rfl a
theorem ml_X6_65 {U : State} (h : tb U) : mlV RX6 65 yX6_readRule U := fun a => h (Cond.methodLink "AskedRoutes$Reader" 65 yX6_readRule) (List.mem_of_getElem? (i := 428) (by decide +kernel)) rfl a
theorem ml_X6_69 {U : State} (h : tb U) : mlV RX6 69 yX6_readNumber U := fun a => h (Cond.methodLink "AskedRoutes$Reader" 69 yX6_readNumber) (List.mem_of_getElem? (i := 408) (by decide +kernel)) rfl a
theorem ml_X6_79 {U : State} (h : tb U) : mlV RX6 79 yX3_delayOf U := fun a => h (Cond.methodLink "AskedRoutes$Reader" 79 yX3_delayOf) (List.mem_of_getElem? (i := 416) (by decide +kernel)) rfl a
theorem ml_X6_83 {U : State} (h : tb U) : mlV RX6 83 yX3_put U := fun a => h (Cond.methodLink "AskedRoutes$Reader" 83 yX3_put) (List.mem_of_getElem? (i := 423) (by decide +kernel)) rfl a
theorem ml_X6_87 {U : State} (h : tb U) : mlV RX6 87 yX6_lowestOf U := fun a => h (Cond.methodLink "AskedRoutes$Reader" 87 yX6_lowestOf) (List.mem_of_getElem? (i := 432) (by decide +kernel)) rfl a
theorem ml_X6_91 {U : State} (h : tb U) : mlV RX6 91 yX6_highestOf U := fun a => h (Cond.methodLink "AskedRoutes$Reader" 91 yX6_highestOf) (List.mem_of_getElem? (i := 435) (by decide +kernel)) rfl a
theorem ml_X6_118 {U : State} (h : tb U) : mlV RX6 118 yX6_isDigit U := fun a => h (Cond.methodLink "AskedRoutes$Reader" 118 yX6_isDigit) (List.mem_of_getElem? (i := 390) (by decide +kernel)) rfl a
theorem ml_X6_121 {U : State} (h : tb U) : mlV RX6 121 yX6_stepOverNumber U := fun a => h (Cond.methodLink "AskedRoutes$Reader" 121 yX6_stepOverNumber) (List.mem_of_getElem? (i := 393) (by decide +kernel)) rfl a
theorem ml_X7_7 {U : State} (h : tb U) : mlV RX7 7 yX7_restart U := fun a => h (Cond.methodLink "AskedRoutes$Rules" 7 yX7_restart) (List.mem_of_getElem? (i := 80) (by decide +kernel)) rfl a
theorem ml_X8_25 {U : State} (h : tb U) : mlV RX8 25 yX2_between U := fun a => h (Cond.methodLink "AskedRoutes$Sights" 25 yX2_between) (List.mem_of_getElem? (i := 699) (by decide +kernel)) rfl a
theorem ml_X10_26 {U : State} (h : tb U) : mlV RX10 26 yX5_bestOf U := fun a => h (Cond.methodLink "AskedRoutes$Trail" 26 yX5_bestOf) (List.mem_of_getElem? (i := 631) (by decide +kernel)) rfl a
theorem ml_X10_42 {U : State} (h : tb U) : mlV RX10 42 yX3_delayOf U := fun a => h (Cond.methodLink "AskedRoutes$Trail" 42 yX3_delayOf) (List.mem_of_getElem? (i := 632) (by decide +kernel)) rfl a
theorem ml_L_9 {U : State} (h : tb U) : mlV RL 9 yX11_init U := fun a => h (Cond.methodLink "AskedRoutesLaw" 9 yX11_init) (List.mem_of_getElem? (i := 45) (by decide +kernel)) rfl a
theorem ml_L_12 {U : State} (h : tb U) : mlV RL 12 yX12_init U := fun a => h (Cond.methodLink "AskedRoutesLaw" 12 yX12_init) (List.mem_of_getElem? (i := 718) (by decide +kernel)) rfl a
theorem ml_L_13 {U : State} (h : tb U) : mlV RL 13 yX11_type U := fun a => h (Cond.methodLink "AskedRoutesLaw" 13 yX11_type) (List.mem_of_getElem? (i := 358) (by decide +kernel)) rfl a
theorem ml_L_17 {U : State} (h : tb U) : mlV RL 17 yX12_type U := fun a => h (Cond.methodLink "AskedRoutesLaw" 17 yX12_type) (List.mem_of_getElem? (i := 825) (by decide +kernel)) rfl a
theorem ml_L_18 {U : State} (h : tb U) : mlV RL 18 yX11_clear U := fun a => h (Cond.methodLink "AskedRoutesLaw" 18 yX11_clear) (List.mem_of_getElem? (i := 366) (by decide +kernel)) rfl a
theorem ml_L_22 {U : State} (h : tb U) : mlV RL 22 yX12_clear U := fun a => h (Cond.methodLink "AskedRoutesLaw" 22 yX12_clear) (List.mem_of_getElem? (i := 832) (by decide +kernel)) rfl a
theorem ml_L_23 {U : State} (h : tb U) : mlV RL 23 yX11_net U := fun a => h (Cond.methodLink "AskedRoutesLaw" 23 yX11_net) (List.mem_of_getElem? (i := 370) (by decide +kernel)) rfl a
theorem ml_L_26 {U : State} (h : tb U) : mlV RL 26 yX12_net U := fun a => h (Cond.methodLink "AskedRoutesLaw" 26 yX12_net) (List.mem_of_getElem? (i := 836) (by decide +kernel)) rfl a
theorem ml_L_27 {U : State} (h : tb U) : mlV RL 27 yX11_link U := fun a => h (Cond.methodLink "AskedRoutesLaw" 27 yX11_link) (List.mem_of_getElem? (i := 462) (by decide +kernel)) rfl a
theorem ml_L_31 {U : State} (h : tb U) : mlV RL 31 yX12_link U := fun a => h (Cond.methodLink "AskedRoutesLaw" 31 yX12_link) (List.mem_of_getElem? (i := 867) (by decide +kernel)) rfl a
theorem ml_L_32 {U : State} (h : tb U) : mlV RL 32 yX11_sends U := fun a => h (Cond.methodLink "AskedRoutesLaw" 32 yX11_sends) (List.mem_of_getElem? (i := 470) (by decide +kernel)) rfl a
theorem ml_L_35 {U : State} (h : tb U) : mlV RL 35 yX12_sends U := fun a => h (Cond.methodLink "AskedRoutesLaw" 35 yX12_sends) (List.mem_of_getElem? (i := 875) (by decide +kernel)) rfl a
theorem ml_L_36 {U : State} (h : tb U) : mlV RL 36 yX11_rounds U := fun a => h (Cond.methodLink "AskedRoutesLaw" 36 yX11_rounds) (List.mem_of_getElem? (i := 548) (by decide +kernel)) rfl a
theorem ml_L_39 {U : State} (h : tb U) : mlV RL 39 yX12_rounds U := fun a => h (Cond.methodLink "AskedRoutesLaw" 39 yX12_rounds) (List.mem_of_getElem? (i := 915) (by decide +kernel)) rfl a
theorem ml_L_40 {U : State} (h : tb U) : mlV RL 40 yX11_cuts U := fun a => h (Cond.methodLink "AskedRoutesLaw" 40 yX11_cuts) (List.mem_of_getElem? (i := 557) (by decide +kernel)) rfl a
theorem ml_L_43 {U : State} (h : tb U) : mlV RL 43 yX12_cuts U := fun a => h (Cond.methodLink "AskedRoutesLaw" 43 yX12_cuts) (List.mem_of_getElem? (i := 919) (by decide +kernel)) rfl a
theorem ml_L_44 {U : State} (h : tb U) : mlV RL 44 yX11_lays U := fun a => h (Cond.methodLink "AskedRoutesLaw" 44 yX11_lays) (List.mem_of_getElem? (i := 570) (by decide +kernel)) rfl a
theorem ml_L_48 {U : State} (h : tb U) : mlV RL 48 yX12_lays U := fun a => h (Cond.methodLink "AskedRoutesLaw" 48 yX12_lays) (List.mem_of_getElem? (i := 931) (by decide +kernel)) rfl a
theorem ml_L_49 {U : State} (h : tb U) : mlV RL 49 yX11_changes U := fun a => h (Cond.methodLink "AskedRoutesLaw" 49 yX11_changes) (List.mem_of_getElem? (i := 579) (by decide +kernel)) rfl a
theorem ml_L_52 {U : State} (h : tb U) : mlV RL 52 yX12_changes U := fun a => h (Cond.methodLink "AskedRoutesLaw" 52 yX12_changes) (List.mem_of_getElem? (i := 935) (by decide +kernel)) rfl a
theorem ml_L_53 {U : State} (h : tb U) : mlV RL 53 yX11_undo U := fun a => h (Cond.methodLink "AskedRoutesLaw" 53 yX11_undo) (List.mem_of_getElem? (i := 583) (by decide +kernel)) rfl a
theorem ml_L_56 {U : State} (h : tb U) : mlV RL 56 yX12_undo U := fun a => h (Cond.methodLink "AskedRoutesLaw" 56 yX12_undo) (List.mem_of_getElem? (i := 939) (by decide +kernel)) rfl a
theorem ml_L_57 {U : State} (h : tb U) : mlV RL 57 yX11_guess U := fun a => h (Cond.methodLink "AskedRoutesLaw" 57 yX11_guess) (List.mem_of_getElem? (i := 591) (by decide +kernel)) rfl a
theorem ml_L_60 {U : State} (h : tb U) : mlV RL 60 yX12_guess U := fun a => h (Cond.methodLink "AskedRoutesLaw" 60 yX12_guess) (List.mem_of_getElem? (i := 943) (by decide +kernel)) rfl a
theorem ml_L_61 {U : State} (h : tb U) : mlV RL 61 yX11_mended U := fun a => h (Cond.methodLink "AskedRoutesLaw" 61 yX11_mended) (List.mem_of_getElem? (i := 600) (by decide +kernel)) rfl a
theorem ml_L_64 {U : State} (h : tb U) : mlV RL 64 yX12_mended U := fun a => h (Cond.methodLink "AskedRoutesLaw" 64 yX12_mended) (List.mem_of_getElem? (i := 951) (by decide +kernel)) rfl a
theorem ml_L_65 {U : State} (h : tb U) : mlV RL 65 yX11_best U := fun a => h (Cond.methodLink "AskedRoutesLaw" 65 yX11_best) (List.mem_of_getElem? (i := 605) (by decide +kernel)) rfl a
theorem ml_L_68 {U : State} (h : tb U) : mlV RL 68 yX12_best U := fun a => h (Cond.methodLink "AskedRoutesLaw" 68 yX12_best) (List.mem_of_getElem? (i := 955) (by decide +kernel)) rfl a
theorem ml_L_69 {U : State} (h : tb U) : mlV RL 69 yX11_node U := fun a => h (Cond.methodLink "AskedRoutesLaw" 69 yX11_node) (List.mem_of_getElem? (i := 610) (by decide +kernel)) rfl a
theorem ml_L_72 {U : State} (h : tb U) : mlV RL 72 yX12_node U := fun a => h (Cond.methodLink "AskedRoutesLaw" 72 yX12_node) (List.mem_of_getElem? (i := 959) (by decide +kernel)) rfl a
theorem ml_L_73 {U : State} (h : tb U) : mlV RL 73 yX11_used U := fun a => h (Cond.methodLink "AskedRoutesLaw" 73 yX11_used) (List.mem_of_getElem? (i := 615) (by decide +kernel)) rfl a
theorem ml_L_76 {U : State} (h : tb U) : mlV RL 76 yX12_used U := fun a => h (Cond.methodLink "AskedRoutesLaw" 76 yX12_used) (List.mem_of_getElem? (i := 963) (by decide +kernel)) rfl a
theorem ml_L_77 {U : State} (h : tb U) : mlV RL 77 yX11_way U := fun a => h (Cond.methodLink "AskedRoutesLaw" 77 yX11_way) (List.mem_of_getElem? (i := 619) (by decide +kernel)) rfl a
theorem ml_L_80 {U : State} (h : tb U) : mlV RL 80 yX12_way U := fun a => h (Cond.methodLink "AskedRoutesLaw" 80 yX12_way) (List.mem_of_getElem? (i := 967) (by decide +kernel)) rfl a
theorem ml_L_81 {U : State} (h : tb U) : mlV RL 81 yX11_path U := fun a => h (Cond.methodLink "AskedRoutesLaw" 81 yX11_path) (List.mem_of_getElem? (i := 623) (by decide +kernel)) rfl a
theorem ml_L_84 {U : State} (h : tb U) : mlV RL 84 yX12_path U := fun a => h (Cond.methodLink "AskedRoutesLaw" 84 yX12_path) (List.mem_of_getElem? (i := 971) (by decide +kernel)) rfl a
theorem ml_L_85 {U : State} (h : tb U) : mlV RL 85 yX11_astray U := fun a => h (Cond.methodLink "AskedRoutesLaw" 85 yX11_astray) (List.mem_of_getElem? (i := 633) (by decide +kernel)) rfl a
theorem ml_L_88 {U : State} (h : tb U) : mlV RL 88 yX12_astray U := fun a => h (Cond.methodLink "AskedRoutesLaw" 88 yX12_astray) (List.mem_of_getElem? (i := 982) (by decide +kernel)) rfl a
theorem ml_L_89 {U : State} (h : tb U) : mlV RL 89 yX11_least U := fun a => h (Cond.methodLink "AskedRoutesLaw" 89 yX11_least) (List.mem_of_getElem? (i := 637) (by decide +kernel)) rfl a
theorem ml_L_92 {U : State} (h : tb U) : mlV RL 92 yX12_least U := fun a => h (Cond.methodLink "AskedRoutesLaw" 92 yX12_least) (List.mem_of_getElem? (i := 986) (by decide +kernel)) rfl a
theorem ml_L_93 {U : State} (h : tb U) : mlV RL 93 yX11_right U := fun a => h (Cond.methodLink "AskedRoutesLaw" 93 yX11_right) (List.mem_of_getElem? (i := 658) (by decide +kernel)) rfl a
theorem ml_L_96 {U : State} (h : tb U) : mlV RL 96 yX12_right U := fun a => h (Cond.methodLink "AskedRoutesLaw" 96 yX12_right) (List.mem_of_getElem? (i := 998) (by decide +kernel)) rfl a
theorem ml_L_97 {U : State} (h : tb U) : mlV RL 97 yX11_hurt U := fun a => h (Cond.methodLink "AskedRoutesLaw" 97 yX11_hurt) (List.mem_of_getElem? (i := 662) (by decide +kernel)) rfl a
theorem ml_L_100 {U : State} (h : tb U) : mlV RL 100 yX12_hurt U := fun a => h (Cond.methodLink "AskedRoutesLaw" 100 yX12_hurt) (List.mem_of_getElem? (i := 1002) (by decide +kernel)) rfl a
theorem ml_L_101 {U : State} (h : tb U) : mlV RL 101 yX11_worst U := fun a => h (Cond.methodLink "AskedRoutesLaw" 101 yX11_worst) (List.mem_of_getElem? (i := 675) (by decide +kernel)) rfl a
theorem ml_L_104 {U : State} (h : tb U) : mlV RL 104 yX12_worst U := fun a => h (Cond.methodLink "AskedRoutesLaw" 104 yX12_worst) (List.mem_of_getElem? (i := 1010) (by decide +kernel)) rfl a
theorem ml_L_105 {U : State} (h : tb U) : mlV RL 105 yX11_sees U := fun a => h (Cond.methodLink "AskedRoutesLaw" 105 yX11_sees) (List.mem_of_getElem? (i := 679) (by decide +kernel)) rfl a
theorem ml_L_108 {U : State} (h : tb U) : mlV RL 108 yX12_sees U := fun a => h (Cond.methodLink "AskedRoutesLaw" 108 yX12_sees) (List.mem_of_getElem? (i := 1014) (by decide +kernel)) rfl a
theorem ml_L_109 {U : State} (h : tb U) : mlV RL 109 yX11_forget U := fun a => h (Cond.methodLink "AskedRoutesLaw" 109 yX11_forget) (List.mem_of_getElem? (i := 687) (by decide +kernel)) rfl a
theorem ml_L_112 {U : State} (h : tb U) : mlV RL 112 yX12_forget U := fun a => h (Cond.methodLink "AskedRoutesLaw" 112 yX12_forget) (List.mem_of_getElem? (i := 1018) (by decide +kernel)) rfl a
theorem ml_L_113 {U : State} (h : tb U) : mlV RL 113 yX11_unseen U := fun a => h (Cond.methodLink "AskedRoutesLaw" 113 yX11_unseen) (List.mem_of_getElem? (i := 691) (by decide +kernel)) rfl a
theorem ml_L_116 {U : State} (h : tb U) : mlV RL 116 yX12_unseen U := fun a => h (Cond.methodLink "AskedRoutesLaw" 116 yX12_unseen) (List.mem_of_getElem? (i := 1022) (by decide +kernel)) rfl a
theorem ml_L_117 {U : State} (h : tb U) : mlV RL 117 yX11_keep U := fun a => h (Cond.methodLink "AskedRoutesLaw" 117 yX11_keep) (List.mem_of_getElem? (i := 700) (by decide +kernel)) rfl a
theorem ml_L_120 {U : State} (h : tb U) : mlV RL 120 yX12_keep U := fun a => h (Cond.methodLink "AskedRoutesLaw" 120 yX12_keep) (List.mem_of_getElem? (i := 1026) (by decide +kernel)) rfl a
theorem ml_L_121 {U : State} (h : tb U) : mlV RL 121 yX11_back U := fun a => h (Cond.methodLink "AskedRoutesLaw" 121 yX11_back) (List.mem_of_getElem? (i := 708) (by decide +kernel)) rfl a
theorem ml_L_124 {U : State} (h : tb U) : mlV RL 124 yX12_back U := fun a => h (Cond.methodLink "AskedRoutesLaw" 124 yX12_back) (List.mem_of_getElem? (i := 1030) (by decide +kernel)) rfl a
theorem ml_L_125 {U : State} (h : tb U) : mlV RL 125 yX11_count U := fun a => h (Cond.methodLink "AskedRoutesLaw" 125 yX11_count) (List.mem_of_getElem? (i := 712) (by decide +kernel)) rfl a
theorem ml_L_128 {U : State} (h : tb U) : mlV RL 128 yX12_count U := fun a => h (Cond.methodLink "AskedRoutesLaw" 128 yX12_count) (List.mem_of_getElem? (i := 1034) (by decide +kernel)) rfl a
theorem ml_X12_54 {U : State} (h : tb U) : mlV RX12 54 yX12_begins U := fun a => h (Cond.methodLink "AskedRoutesModel" 54 yX12_begins) (List.mem_of_getElem? (i := 722) (by decide +kernel)) rfl a
theorem ml_X12_58 {U : State} (h : tb U) : mlV RX12 58 yX12_in U := fun a => h (Cond.methodLink "AskedRoutesModel" 58 yX12_in) (List.mem_of_getElem? (i := 829) (by decide +kernel)) rfl a
theorem ml_X12_62 {U : State} (h : tb U) : mlV RX12 62 yX12_pair U := fun a => h (Cond.methodLink "AskedRoutesModel" 62 yX12_pair) (List.mem_of_getElem? (i := 864) (by decide +kernel)) rfl a
theorem ml_X12_72 {U : State} (h : tb U) : mlV RX12 72 yX12_blanks U := fun a => h (Cond.methodLink "AskedRoutesModel" 72 yX12_blanks) (List.mem_of_getElem? (i := 840) (by decide +kernel)) rfl a
theorem ml_X12_81 {U : State} (h : tb U) : mlV RX12 81 yX12_isFigure U := fun a => h (Cond.methodLink "AskedRoutesModel" 81 yX12_isFigure) (List.mem_of_getElem? (i := 852) (by decide +kernel)) rfl a
theorem ml_X12_85 {U : State} (h : tb U) : mlV RX12 85 yX12_next U := fun a => h (Cond.methodLink "AskedRoutesModel" 85 yX12_next) (List.mem_of_getElem? (i := 848) (by decide +kernel)) rfl a
theorem ml_X12_94 {U : State} (h : tb U) : mlV RX12 94 yX12_isNumber U := fun a => h (Cond.methodLink "AskedRoutesModel" 94 yX12_isNumber) (List.mem_of_getElem? (i := 856) (by decide +kernel)) rfl a
theorem ml_X12_98 {U : State} (h : tb U) : mlV RX12 98 yX12_readsLink U := fun a => h (Cond.methodLink "AskedRoutesModel" 98 yX12_readsLink) (List.mem_of_getElem? (i := 860) (by decide +kernel)) rfl a
theorem ml_X12_116 {U : State} (h : tb U) : mlV RX12 116 yX12_readsItem U := fun a => h (Cond.methodLink "AskedRoutesModel" 116 yX12_readsItem) (List.mem_of_getElem? (i := 844) (by decide +kernel)) rfl a
theorem ml_X12_135 {U : State} (h : tb U) : mlV RX12 135 yX12_pairOf U := fun a => h (Cond.methodLink "AskedRoutesModel" 135 yX12_pairOf) (List.mem_of_getElem? (i := 871) (by decide +kernel)) rfl a
theorem ml_X12_139 {U : State} (h : tb U) : mlV RX12 139 yX12_guessAt U := fun a => h (Cond.methodLink "AskedRoutesModel" 139 yX12_guessAt) (List.mem_of_getElem? (i := 903) (by decide +kernel)) rfl a
theorem ml_X12_143 {U : State} (h : tb U) : mlV RX12 143 yX12_delay U := fun a => h (Cond.methodLink "AskedRoutesModel" 143 yX12_delay) (List.mem_of_getElem? (i := 895) (by decide +kernel)) rfl a
theorem ml_X12_146 {U : State} (h : tb U) : mlV RX12 146 yX12_guessNow U := fun a => h (Cond.methodLink "AskedRoutesModel" 146 yX12_guessNow) (List.mem_of_getElem? (i := 899) (by decide +kernel)) rfl a
theorem ml_X12_152 {U : State} (h : tb U) : mlV RX12 152 yX12_eldestOf U := fun a => h (Cond.methodLink "AskedRoutesModel" 152 yX12_eldestOf) (List.mem_of_getElem? (i := 910) (by decide +kernel)) rfl a
theorem ml_X12_155 {U : State} (h : tb U) : mlV RX12 155 yX12_bestOf U := fun a => h (Cond.methodLink "AskedRoutesModel" 155 yX12_bestOf) (List.mem_of_getElem? (i := 891) (by decide +kernel)) rfl a
theorem ml_X12_159 {U : State} (h : tb U) : mlV RX12 159 yX12_hops U := fun a => h (Cond.methodLink "AskedRoutesModel" 159 yX12_hops) (List.mem_of_getElem? (i := 906) (by decide +kernel)) rfl a
theorem ml_X12_162 {U : State} (h : tb U) : mlV RX12 162 yX12_isNode U := fun a => h (Cond.methodLink "AskedRoutesModel" 162 yX12_isNode) (List.mem_of_getElem? (i := 879) (by decide +kernel)) rfl a
theorem ml_X12_165 {U : State} (h : tb U) : mlV RX12 165 yX12_remembers U := fun a => h (Cond.methodLink "AskedRoutesModel" 165 yX12_remembers) (List.mem_of_getElem? (i := 883) (by decide +kernel)) rfl a
theorem ml_X12_168 {U : State} (h : tb U) : mlV RX12 168 yX12_letter U := fun a => h (Cond.methodLink "AskedRoutesModel" 168 yX12_letter) (List.mem_of_getElem? (i := 887) (by decide +kernel)) rfl a
theorem ml_X12_171 {U : State} (h : tb U) : mlV RX12 171 yX12_noGuesses U := fun a => h (Cond.methodLink "AskedRoutesModel" 171 yX12_noGuesses) (List.mem_of_getElem? (i := 923) (by decide +kernel)) rfl a
theorem ml_X12_175 {U : State} (h : tb U) : mlV RX12 175 yX12_linkMany U := fun a => h (Cond.methodLink "AskedRoutesModel" 175 yX12_linkMany) (List.mem_of_getElem? (i := 927) (by decide +kernel)) rfl a
theorem ml_X12_179 {U : State} (h : tb U) : mlV RX12 179 yX12_whyNoGuess U := fun a => h (Cond.methodLink "AskedRoutesModel" 179 yX12_whyNoGuess) (List.mem_of_getElem? (i := 947) (by decide +kernel)) rfl a
theorem ml_X12_188 {U : State} (h : tb U) : mlV RX12 188 yX12_has U := fun a => h (Cond.methodLink "AskedRoutesModel" 188 yX12_has) (List.mem_of_getElem? (i := 979) (by decide +kernel)) rfl a
theorem ml_X12_191 {U : State} (h : tb U) : mlV RX12 191 yX12_laysPath U := fun a => h (Cond.methodLink "AskedRoutesModel" 191 yX12_laysPath) (List.mem_of_getElem? (i := 975) (by decide +kernel)) rfl a
theorem ml_X12_194 {U : State} (h : tb U) : mlV RX12 194 yX12_laysFar U := fun a => h (Cond.methodLink "AskedRoutesModel" 194 yX12_laysFar) (List.mem_of_getElem? (i := 990) (by decide +kernel)) rfl a
theorem ml_X12_198 {U : State} (h : tb U) : mlV RX12 198 yX12_farOf U := fun a => h (Cond.methodLink "AskedRoutesModel" 198 yX12_farOf) (List.mem_of_getElem? (i := 994) (by decide +kernel)) rfl a
theorem ml_X12_201 {U : State} (h : tb U) : mlV RX12 201 yX12_hurtOf U := fun a => h (Cond.methodLink "AskedRoutesModel" 201 yX12_hurtOf) (List.mem_of_getElem? (i := 1006) (by decide +kernel)) rfl a
theorem ra_ist {p : Program} {l : Launch} {e : Env} {R : Room} {s : State} {m : MethodId} {args : Array Value} {below : List Frame} {meth : Method} {c : Code} {H : Heap} {locs : List Loc} {cells slots : Nat} {Q : State → Prop} {D : va_G} {cI cZ cK : ClassId} {cc : ByteArray} {pc : Nat} {ls : Array Slot} {rest : List Value} {a : Nat} {A : Nat → Prop} {H0 : Heap} {ws ws' : va_W} {n : Nat} {f : Nat → Int32} {i x : Int32} (hx : p.tables.exec = Jvm.exec) (hb : c.code = cc) (hk : kq D cI cZ cK s) (w : wd D A H0 H locs ws) (q0 : Nat) (ha : ws[q0]? = some (a, .inl (cI, n, .inl f))) (hin : vp_in i n) (hs : ws.set q0 (a, .inl (cI, n, .inl (upd f i.toNatClampNeg x))) = ws') (hdg : decode cc pc = .ok (.iastore, 1)) (kk : ∀ (H1 : Heap) (locs1 : List Loc), wd D A H0 H1 locs1 ws' → W p l e R s m args below meth c H1 locs1 cells slots Q (F0 m (pc + 1) ls rest)) : W p l e R s m args below meth c H locs cells slots Q (F0 m pc ls (.int x :: .int i :: .ref a :: rest)) := va_iast hx hb hk.1 w.1 w.2.1 w.2.2 q0 0 ha rfl hin hdg (fun H1 locs1 h1 h2 h3 => kk H1 locs1 ⟨by rw [← hs]; exact h1, by rw [← hs]; exact h2, h3⟩)
theorem ra_zst {p : Program} {l : Launch} {e : Env} {R : Room} {s : State} {m : MethodId} {args : Array Value} {below : List Frame} {meth : Method} {c : Code} {H : Heap} {locs : List Loc} {cells slots : Nat} {Q : State → Prop} {D : va_G} {cI cZ cK : ClassId} {cc : ByteArray} {pc : Nat} {ls : Array Slot} {rest : List Value} {a : Nat} {A : Nat → Prop} {H0 : Heap} {ws ws' : va_W} {n : Nat} {f : Nat → Int32} {i x : Int32} (hx : p.tables.exec = Jvm.exec) (hb : c.code = cc) (hk : kq D cI cZ cK s) (w : wd D A H0 H locs ws) (q0 : Nat) (ha : ws[q0]? = some (a, .inl (cZ, n, .inl f))) (hin : vp_in i n) (hv : vp_nar .boolean x = x) (hs : ws.set q0 (a, .inl (cZ, n, .inl (upd f i.toNatClampNeg x))) = ws') (hdg : decode cc pc = .ok (.bastore, 1)) (kk : ∀ (H1 : Heap) (locs1 : List Loc), wd D A H0 H1 locs1 ws' → W p l e R s m args below meth c H1 locs1 cells slots Q (F0 m (pc + 1) ls rest)) : W p l e R s m args below meth c H locs cells slots Q (F0 m pc ls (.int x :: .int i :: .ref a :: rest)) := va_zast hx hb hk.1 w.1 w.2.1 w.2.2 q0 1 ha rfl hin hdg (fun H1 locs1 h1 h2 h3 => kk H1 locs1 ⟨by rw [← hs]; rw [hv] at h1; exact h1, by rw [← hs]; rw [hv] at h2; exact h2, h3⟩)
theorem ac_X1_54 {p : Program} {l : Launch} {e : Env} {R : Room} {s : State} {m : MethodId} {args : Array Value} {below : List Frame} {meth : Method} {c : Code} {H : Heap} {locs : List Loc} {cells slots : Nat} {Q : State → Prop} {D : va_G} {cI cZ cK : ClassId} {cc : ByteArray} {pc : Nat} {ls : Array Slot} {rest : List Value} {a : Nat} {A : Nat → Prop} {H0 : Heap} {ws ws' : va_W} {nL a0 n0 n1 : Nat} {f g : Nat → Int32} {sp dp n : Int32} (hx : p.tables.exec = Jvm.exec) (hb : c.code = cc) (hml : c.maxLocals = nL) (hsz : ls.size = nL) (hown : s.vm.findClass RX1 = some m.cls) (hk : kq D cI cZ cK s) (w : wd D A H0 H locs ws) (q0 q1 : Nat) (ha0 : ws[q0]? = some (a0, .inl (cI, n0, .inl f))) (ha1 : ws[q1]? = some (a, .inl (cI, n1, .inl g))) (hr : (¬ sp < 0) ∧ (¬ dp < 0) ∧ (¬ n < 0) ∧ sp.toNatClampNeg + n.toNatClampNeg ≤ n0 ∧ dp.toNatClampNeg + n.toNatClampNeg ≤ n1) (hs : ws.set q1 (a, .inl (cI, n1, .inl (va_cpy f g sp.toNatClampNeg dp.toNatClampNeg n.toNatClampNeg))) = ws') (hz : 1 ≤ R.frames ∧ (rest.map fun v => v.category).sum + 18 ≤ R.locals) (hdg : decode cc pc = .ok (.invokestatic 54, 3)) (kk : ∀ (H1 : Heap) (locs1 : List Loc), wd D A H0 H1 locs1 ws' → W p l e R s m args below meth c H1 locs1 cells slots Q (F0 m (pc + 3) ls rest)) : W p l e R s m args below meth c H locs cells slots Q (F0 m pc ls (.int n :: .int dp :: .ref a :: .int sp :: .ref a0 :: rest)) := va_copyi (ty := .int) hx hb (hml.trans hsz.symm) hown (hk.2.1 (Cond.methodLink "AskedRoutes$Known" 54 arraycopyName) (List.mem_of_getElem? (i := 490) (by decide +kernel)) rfl args) (hk.2.1 (Cond.native arraycopyName) (List.mem_of_getElem? (i := 456) (by decide +kernel)) rfl args) (hk.2.1 (Cond.static arraycopyName) (List.mem_of_getElem? (i := 455) (by decide +kernel)) rfl args) (hk.2.1 (Cond.initialized "java/lang/System") (List.mem_of_getElem? (i := 42) (by decide +kernel)) rfl args) hk.1 w.1 w.2.1 w.2.2 q0 q1 0 0 ha0 ha1 rfl rfl rfl hr.1 hr.2.1 hr.2.2.1 hr.2.2.2.1 hr.2.2.2.2 (fun _ _ => rfl) hz.1 hz.2 hdg (fun H1 locs1 h1 h2 h3 => kk H1 locs1 ⟨by rw [← hs]; exact h1, by rw [← hs]; exact h2, h3⟩)
theorem mm_X1_72 {p : Program} {l : Launch} {e : Env} {R : Room} {s : State} {m : MethodId} {args : Array Value} {below : List Frame} {meth : Method} {c : Code} {H : Heap} {locs : List Loc} {cells slots : Nat} {Q : State → Prop} {D : va_G} {cI cZ cK : ClassId} {cc : ByteArray} {pc : Nat} {ls : Array Slot} {rest : List Value} {nL : Nat} {x y z : Int32} (hx : p.tables.exec = Jvm.exec) (hb : c.code = cc) (hml : c.maxLocals = nL) (hsz : ls.size = nL) (hown : s.vm.findClass RX1 = some m.cls) (hk : kq D cI cZ cK s) (hz : 1 ≤ R.frames ∧ (rest.map fun v => v.category).sum + 13 ≤ R.locals ∧ cells ≤ R.cells ∧ slots ≤ R.slots) (hv : (if y < x then y else x) = z) (hdg : decode cc pc = .ok (.invokestatic 72, 3)) (kk : W p l e R s m args below meth c H locs cells slots Q (F0 m (pc + 3) ls (.int z :: rest))) : W p l e R s m args below meth c H locs cells slots Q (F0 m pc ls (.int y :: .int x :: rest)) := va_mmin hx hb (hml.trans hsz.symm) hown (hk.2.1 (Cond.methodLink "AskedRoutes$Known" 72 Lib.Math.min.name) (List.mem_of_getElem? (i := 542) (by decide +kernel)) rfl args) (hk.2.1 (Cond.static Lib.Math.min.name) (List.mem_of_getElem? (i := 398) (by decide +kernel)) rfl args) (hk.2.1 (Cond.initialized "java/lang/Math") (List.mem_of_getElem? (i := 41) (by decide +kernel)) rfl args) (hk.2.1 (Cond.code Lib.Math.min.name Lib.Math.min.code 2 (some .int)) (List.mem_of_getElem? (i := 399) (by decide +kernel)) rfl args) hz.1 hz.2.1 hz.2.2.1 hz.2.2.2 hdg (by rw [hv]; exact kk)
theorem mm_X1_77 {p : Program} {l : Launch} {e : Env} {R : Room} {s : State} {m : MethodId} {args : Array Value} {below : List Frame} {meth : Method} {c : Code} {H : Heap} {locs : List Loc} {cells slots : Nat} {Q : State → Prop} {D : va_G} {cI cZ cK : ClassId} {cc : ByteArray} {pc : Nat} {ls : Array Slot} {rest : List Value} {nL : Nat} {x y z : Int32} (hx : p.tables.exec = Jvm.exec) (hb : c.code = cc) (hml : c.maxLocals = nL) (hsz : ls.size = nL) (hown : s.vm.findClass RX1 = some m.cls) (hk : kq D cI cZ cK s) (hz : 1 ≤ R.frames ∧ (rest.map fun v => v.category).sum + 13 ≤ R.locals ∧ cells ≤ R.cells ∧ slots ≤ R.slots) (hv : (if x < y then y else x) = z) (hdg : decode cc pc = .ok (.invokestatic 77, 3)) (kk : W p l e R s m args below meth c H locs cells slots Q (F0 m (pc + 3) ls (.int z :: rest))) : W p l e R s m args below meth c H locs cells slots Q (F0 m pc ls (.int y :: .int x :: rest)) := va_mmax hx hb (hml.trans hsz.symm) hown (hk.2.1 (Cond.methodLink "AskedRoutes$Known" 77 Lib.Math.max.name) (List.mem_of_getElem? (i := 543) (by decide +kernel)) rfl args) (hk.2.1 (Cond.static Lib.Math.max.name) (List.mem_of_getElem? (i := 544) (by decide +kernel)) rfl args) (hk.2.1 (Cond.initialized "java/lang/Math") (List.mem_of_getElem? (i := 41) (by decide +kernel)) rfl args) (hk.2.1 (Cond.code Lib.Math.max.name Lib.Math.max.code 2 (some .int)) (List.mem_of_getElem? (i := 545) (by decide +kernel)) rfl args) hz.1 hz.2.1 hz.2.2.1 hz.2.2.2 hdg (by rw [hv]; exact kk)
theorem mm_X2_27 {p : Program} {l : Launch} {e : Env} {R : Room} {s : State} {m : MethodId} {args : Array Value} {below : List Frame} {meth : Method} {c : Code} {H : Heap} {locs : List Loc} {cells slots : Nat} {Q : State → Prop} {D : va_G} {cI cZ cK : ClassId} {cc : ByteArray} {pc : Nat} {ls : Array Slot} {rest : List Value} {nL : Nat} {x y z : Int32} (hx : p.tables.exec = Jvm.exec) (hb : c.code = cc) (hml : c.maxLocals = nL) (hsz : ls.size = nL) (hown : s.vm.findClass RX2 = some m.cls) (hk : kq D cI cZ cK s) (hz : 1 ≤ R.frames ∧ (rest.map fun v => v.category).sum + 13 ≤ R.locals ∧ cells ≤ R.cells ∧ slots ≤ R.slots) (hv : (if y < x then y else x) = z) (hdg : decode cc pc = .ok (.invokestatic 27, 3)) (kk : W p l e R s m args below meth c H locs cells slots Q (F0 m (pc + 3) ls (.int z :: rest))) : W p l e R s m args below meth c H locs cells slots Q (F0 m pc ls (.int y :: .int x :: rest)) := va_mmin hx hb (hml.trans hsz.symm) hown (hk.2.1 (Cond.methodLink "AskedRoutes$LeastWays" 27 Lib.Math.min.name) (List.mem_of_getElem? (i := 651) (by decide +kernel)) rfl args) (hk.2.1 (Cond.static Lib.Math.min.name) (List.mem_of_getElem? (i := 398) (by decide +kernel)) rfl args) (hk.2.1 (Cond.initialized "java/lang/Math") (List.mem_of_getElem? (i := 41) (by decide +kernel)) rfl args) (hk.2.1 (Cond.code Lib.Math.min.name Lib.Math.min.code 2 (some .int)) (List.mem_of_getElem? (i := 399) (by decide +kernel)) rfl args) hz.1 hz.2.1 hz.2.2.1 hz.2.2.2 hdg (by rw [hv]; exact kk)
theorem mm_X2_37 {p : Program} {l : Launch} {e : Env} {R : Room} {s : State} {m : MethodId} {args : Array Value} {below : List Frame} {meth : Method} {c : Code} {H : Heap} {locs : List Loc} {cells slots : Nat} {Q : State → Prop} {D : va_G} {cI cZ cK : ClassId} {cc : ByteArray} {pc : Nat} {ls : Array Slot} {rest : List Value} {nL : Nat} {x y z : Int32} (hx : p.tables.exec = Jvm.exec) (hb : c.code = cc) (hml : c.maxLocals = nL) (hsz : ls.size = nL) (hown : s.vm.findClass RX2 = some m.cls) (hk : kq D cI cZ cK s) (hz : 1 ≤ R.frames ∧ (rest.map fun v => v.category).sum + 13 ≤ R.locals ∧ cells ≤ R.cells ∧ slots ≤ R.slots) (hv : (if x < y then y else x) = z) (hdg : decode cc pc = .ok (.invokestatic 37, 3)) (kk : W p l e R s m args below meth c H locs cells slots Q (F0 m (pc + 3) ls (.int z :: rest))) : W p l e R s m args below meth c H locs cells slots Q (F0 m pc ls (.int y :: .int x :: rest)) := va_mmax hx hb (hml.trans hsz.symm) hown (hk.2.1 (Cond.methodLink "AskedRoutes$LeastWays" 37 Lib.Math.max.name) (List.mem_of_getElem? (i := 652) (by decide +kernel)) rfl args) (hk.2.1 (Cond.static Lib.Math.max.name) (List.mem_of_getElem? (i := 544) (by decide +kernel)) rfl args) (hk.2.1 (Cond.initialized "java/lang/Math") (List.mem_of_getElem? (i := 41) (by decide +kernel)) rfl args) (hk.2.1 (Cond.code Lib.Math.max.name Lib.Math.max.code 2 (some .int)) (List.mem_of_getElem? (i := 545) (by decide +kernel)) rfl args) hz.1 hz.2.1 hz.2.2.1 hz.2.2.2 hdg (by rw [hv]; exact kk)
theorem ac_X3_25 {p : Program} {l : Launch} {e : Env} {R : Room} {s : State} {m : MethodId} {args : Array Value} {below : List Frame} {meth : Method} {c : Code} {H : Heap} {locs : List Loc} {cells slots : Nat} {Q : State → Prop} {D : va_G} {cI cZ cK : ClassId} {cc : ByteArray} {pc : Nat} {ls : Array Slot} {rest : List Value} {a : Nat} {A : Nat → Prop} {H0 : Heap} {ws ws' : va_W} {nL a0 n0 n1 : Nat} {f g : Nat → Int32} {sp dp n : Int32} (hx : p.tables.exec = Jvm.exec) (hb : c.code = cc) (hml : c.maxLocals = nL) (hsz : ls.size = nL) (hown : s.vm.findClass RX3 = some m.cls) (hk : kq D cI cZ cK s) (w : wd D A H0 H locs ws) (q0 q1 : Nat) (ha0 : ws[q0]? = some (a0, .inl (cI, n0, .inl f))) (ha1 : ws[q1]? = some (a, .inl (cI, n1, .inl g))) (hr : (¬ sp < 0) ∧ (¬ dp < 0) ∧ (¬ n < 0) ∧ sp.toNatClampNeg + n.toNatClampNeg ≤ n0 ∧ dp.toNatClampNeg + n.toNatClampNeg ≤ n1) (hs : ws.set q1 (a, .inl (cI, n1, .inl (va_cpy f g sp.toNatClampNeg dp.toNatClampNeg n.toNatClampNeg))) = ws') (hz : 1 ≤ R.frames ∧ (rest.map fun v => v.category).sum + 18 ≤ R.locals) (hdg : decode cc pc = .ok (.invokestatic 25, 3)) (kk : ∀ (H1 : Heap) (locs1 : List Loc), wd D A H0 H1 locs1 ws' → W p l e R s m args below meth c H1 locs1 cells slots Q (F0 m (pc + 3) ls rest)) : W p l e R s m args below meth c H locs cells slots Q (F0 m pc ls (.int n :: .int dp :: .ref a :: .int sp :: .ref a0 :: rest)) := va_copyi (ty := .int) hx hb (hml.trans hsz.symm) hown (hk.2.1 (Cond.methodLink "AskedRoutes$Links" 25 arraycopyName) (List.mem_of_getElem? (i := 454) (by decide +kernel)) rfl args) (hk.2.1 (Cond.native arraycopyName) (List.mem_of_getElem? (i := 456) (by decide +kernel)) rfl args) (hk.2.1 (Cond.static arraycopyName) (List.mem_of_getElem? (i := 455) (by decide +kernel)) rfl args) (hk.2.1 (Cond.initialized "java/lang/System") (List.mem_of_getElem? (i := 42) (by decide +kernel)) rfl args) hk.1 w.1 w.2.1 w.2.2 q0 q1 0 0 ha0 ha1 rfl rfl rfl hr.1 hr.2.1 hr.2.2.1 hr.2.2.2.1 hr.2.2.2.2 (fun _ _ => rfl) hz.1 hz.2 hdg (fun H1 locs1 h1 h2 h3 => kk H1 locs1 ⟨by rw [← hs]; exact h1, by rw [← hs]; exact h2, h3⟩)
theorem mm_X5_95 {p : Program} {l : Launch} {e : Env} {R : Room} {s : State} {m : MethodId} {args : Array Value} {below : List Frame} {meth : Method} {c : Code} {H : Heap} {locs : List Loc} {cells slots : Nat} {Q : State → Prop} {D : va_G} {cI cZ cK : ClassId} {cc : ByteArray} {pc : Nat} {ls : Array Slot} {rest : List Value} {nL : Nat} {x y z : Int32} (hx : p.tables.exec = Jvm.exec) (hb : c.code = cc) (hml : c.maxLocals = nL) (hsz : ls.size = nL) (hown : s.vm.findClass RX5 = some m.cls) (hk : kq D cI cZ cK s) (hz : 1 ≤ R.frames ∧ (rest.map fun v => v.category).sum + 13 ≤ R.locals ∧ cells ≤ R.cells ∧ slots ≤ R.slots) (hv : (if y < x then y else x) = z) (hdg : decode cc pc = .ok (.invokestatic 95, 3)) (kk : W p l e R s m args below meth c H locs cells slots Q (F0 m (pc + 3) ls (.int z :: rest))) : W p l e R s m args below meth c H locs cells slots Q (F0 m pc ls (.int y :: .int x :: rest)) := va_mmin hx hb (hml.trans hsz.symm) hown (hk.2.1 (Cond.methodLink "AskedRoutes$Post" 95 Lib.Math.min.name) (List.mem_of_getElem? (i := 537) (by decide +kernel)) rfl args) (hk.2.1 (Cond.static Lib.Math.min.name) (List.mem_of_getElem? (i := 398) (by decide +kernel)) rfl args) (hk.2.1 (Cond.initialized "java/lang/Math") (List.mem_of_getElem? (i := 41) (by decide +kernel)) rfl args) (hk.2.1 (Cond.code Lib.Math.min.name Lib.Math.min.code 2 (some .int)) (List.mem_of_getElem? (i := 399) (by decide +kernel)) rfl args) hz.1 hz.2.1 hz.2.2.1 hz.2.2.2 hdg (by rw [hv]; exact kk)
theorem mm_X6_124 {p : Program} {l : Launch} {e : Env} {R : Room} {s : State} {m : MethodId} {args : Array Value} {below : List Frame} {meth : Method} {c : Code} {H : Heap} {locs : List Loc} {cells slots : Nat} {Q : State → Prop} {D : va_G} {cI cZ cK : ClassId} {cc : ByteArray} {pc : Nat} {ls : Array Slot} {rest : List Value} {nL : Nat} {x y z : Int32} (hx : p.tables.exec = Jvm.exec) (hb : c.code = cc) (hml : c.maxLocals = nL) (hsz : ls.size = nL) (hown : s.vm.findClass RX6 = some m.cls) (hk : kq D cI cZ cK s) (hz : 1 ≤ R.frames ∧ (rest.map fun v => v.category).sum + 13 ≤ R.locals ∧ cells ≤ R.cells ∧ slots ≤ R.slots) (hv : (if y < x then y else x) = z) (hdg : decode cc pc = .ok (.invokestatic 124, 3)) (kk : W p l e R s m args below meth c H locs cells slots Q (F0 m (pc + 3) ls (.int z :: rest))) : W p l e R s m args below meth c H locs cells slots Q (F0 m pc ls (.int y :: .int x :: rest)) := va_mmin hx hb (hml.trans hsz.symm) hown (hk.2.1 (Cond.methodLink "AskedRoutes$Reader" 124 Lib.Math.min.name) (List.mem_of_getElem? (i := 397) (by decide +kernel)) rfl args) (hk.2.1 (Cond.static Lib.Math.min.name) (List.mem_of_getElem? (i := 398) (by decide +kernel)) rfl args) (hk.2.1 (Cond.initialized "java/lang/Math") (List.mem_of_getElem? (i := 41) (by decide +kernel)) rfl args) (hk.2.1 (Cond.code Lib.Math.min.name Lib.Math.min.code 2 (some .int)) (List.mem_of_getElem? (i := 399) (by decide +kernel)) rfl args) hz.1 hz.2.1 hz.2.2.1 hz.2.2.2 hdg (by rw [hv]; exact kk)
end
section
def cpo (sp dp n : Int32) (n0 n1 : Nat) : Bool := decide ((¬ sp < 0) ∧ (¬ dp < 0) ∧ (¬ n < 0) ∧ sp.toNatClampNeg + n.toNatClampNeg ≤ n0 ∧ dp.toNatClampNeg + n.toNatClampNeg ≤ n1)
theorem sat_cp {α : Type} {sp dp n : Int32} {n0 n1 : Nat} {x : Option α} {C : α → Prop} (h : sat (ck (cpo sp dp n n0 n1) x) C) : ((¬ sp < 0) ∧ (¬ dp < 0) ∧ (¬ n < 0) ∧ sp.toNatClampNeg + n.toNatClampNeg ≤ n0 ∧ dp.toNatClampNeg + n.toNatClampNeg ≤ n1) ∧ sat x C := by
  by_cases hb : (¬ sp < 0) ∧ (¬ dp < 0) ∧ (¬ n < 0) ∧ sp.toNatClampNeg + n.toNatClampNeg ≤ n0 ∧ dp.toNatClampNeg + n.toNatClampNeg ≤ n1
  · refine ⟨hb, ?_⟩
    have e : cpo sp dp n n0 n1 = true := decide_eq_true hb
    rw [e] at h
    exact h
  · have e : cpo sp dp n n0 n1 = false := decide_eq_false hb
    rw [e] at h
    obtain ⟨a, h1, -⟩ := h
    cases h1
end
section
def f_X11_pairCell (x0 : Int32) (x1 : Int32) : Option (Int32) := some ((x0 * 6) + x1)
abbrev rm_X11_pairCell : Room := { frames := 0, cells := 0, slots := 0, locals := 0 }
set_option maxRecDepth 100000 in
set_option maxHeartbeats 4000000 in
theorem k_X11_pairCell (l : Launch) (D : va_G) (cI cZ cK : ClassId) (x0 : Int32) (x1 : Int32) (R : Int32) (h : f_X11_pairCell x0 x1 = some R) : Rd l D cI cZ cK yX11_pairCell cX11_pairCell 2 (some .int) rm_X11_pairCell [.int x0, .int x1] [] R := by
  refine rd_of (by decide) (vp_nar_int _) (Nat.le_of_ble_eq_true rfl) ?_
  intro p e s m args below meth c Q ls hx hb hml hown hk hP hret hl
  have hl : lv_has ls 2 [(0, .int x0), (1, .int x1)] := hl
  obtain ⟨C0, hC0, h⟩ := sat_top h
  unfold f_X11_pairCell at h
  refine lv_iload_n hx hb dX11_pairCell_0 rfl (lv_at hl 0 rfl) ?_
  refine lv_bipush (v := 6) hx hb dX11_pairCell_1 (by decide) ?_
  refine lv_imul hx hb dX11_pairCell_3 ?_
  refine lv_iload_n hx hb dX11_pairCell_4 rfl (lv_at hl 1 rfl) ?_
  refine lv_iadd hx hb dX11_pairCell_5 ?_
  have hR := hC0 _ (sat_some h)
  subst hR
  exact hret _ _ dX11_pairCell_6
def f_X11_guessCell (x0 : Int32) (x1 : Int32) (x2 : Int32) : Option (Int32) := some ((((x0 * 6) + x1) * 6) + x2)
abbrev rm_X11_guessCell : Room := { frames := 0, cells := 0, slots := 0, locals := 0 }
set_option maxRecDepth 100000 in
set_option maxHeartbeats 4000000 in
theorem k_X11_guessCell (l : Launch) (D : va_G) (cI cZ cK : ClassId) (x0 : Int32) (x1 : Int32) (x2 : Int32) (R : Int32) (h : f_X11_guessCell x0 x1 x2 = some R) : Rd l D cI cZ cK yX11_guessCell cX11_guessCell 3 (some .int) rm_X11_guessCell [.int x0, .int x1, .int x2] [] R := by
  refine rd_of (by decide) (vp_nar_int _) (Nat.le_of_ble_eq_true rfl) ?_
  intro p e s m args below meth c Q ls hx hb hml hown hk hP hret hl
  have hl : lv_has ls 3 [(0, .int x0), (1, .int x1), (2, .int x2)] := hl
  obtain ⟨C0, hC0, h⟩ := sat_top h
  unfold f_X11_guessCell at h
  refine lv_iload_n hx hb dX11_guessCell_0 rfl (lv_at hl 0 rfl) ?_
  refine lv_bipush (v := 6) hx hb dX11_guessCell_1 (by decide) ?_
  refine lv_imul hx hb dX11_guessCell_3 ?_
  refine lv_iload_n hx hb dX11_guessCell_4 rfl (lv_at hl 1 rfl) ?_
  refine lv_iadd hx hb dX11_guessCell_5 ?_
  refine lv_bipush (v := 6) hx hb dX11_guessCell_6 (by decide) ?_
  refine lv_imul hx hb dX11_guessCell_8 ?_
  refine lv_iload_n hx hb dX11_guessCell_9 rfl (lv_at hl 2 rfl) ?_
  refine lv_iadd hx hb dX11_guessCell_10 ?_
  have hR := hC0 _ (sat_some h)
  subst hR
  exact hret _ _ dX11_guessCell_11
def f_X3_delayOf (dl : ar) (x1 : Int32) (x2 : Int32) : Option (Int32) := Option.bind (f_X11_pairCell x1 x2) fun r_1 => ck (inb r_1 36) (some (dl r_1.toNatClampNeg))
abbrev rm_X3_delayOf : Room := { frames := 1, cells := 0, slots := 0, locals := 21 }
set_option maxRecDepth 100000 in
set_option maxHeartbeats 4000000 in
theorem k_X3_delayOf (l : Launch) (D : va_G) (cI cZ cK : ClassId) (a0 a1 : Nat) (lt : Int32) (dl : ar) (x1 : Int32) (x2 : Int32) (R : Int32) (h : f_X3_delayOf dl x1 x2 = some R) : Rd l D cI cZ cK yX3_delayOf cX3_delayOf 3 (some .int) rm_X3_delayOf [.ref a0, .int x1, .int x2] [(a0, .inr (3, [.ref a1, .int lt])), (a1, .inl (cI, 36, .inl dl))] R := by
  refine rd_of (by decide) (vp_nar_int _) (Nat.le_of_ble_eq_true rfl) ?_
  intro p e s m args below meth c Q ls hx hb hml hown hk hP hret hl
  have hl : lv_has ls 3 [(0, .ref a0), (1, .int x1), (2, .int x2)] := hl
  obtain ⟨C0, hC0, h⟩ := sat_top h
  unfold f_X3_delayOf at h
  refine lv_aload_n hx hb dX3_delayOf_0 rfl (lv_at hl 0 rfl) ?_
  refine gf_X3_9 hx hb hown hk hP 0 rfl rfl dX3_delayOf_1 ?_
  refine lv_iload_n hx hb dX3_delayOf_4 rfl (lv_at hl 1 rfl) ?_
  refine lv_iload_n hx hb dX3_delayOf_5 rfl (lv_at hl 2 rfl) ?_
  obtain ⟨r_1, e_1, h⟩ := sat_bind h
  refine cRN (rest := [.ref a1]) hx hb hml hown hk (k_X11_pairCell l D cI cZ cK x1 x2 r_1 e_1) (me_X11_pairCell hk.2.1) (ms_X11_pairCell hk.2.1) (hk.2.2.1 (RX3, 31, yX11_pairCell) (List.mem_of_getElem? (i := 9) rfl)) (hP.sub [] rfl) hl.1 rfl rfl (Nat.le_of_ble_eq_true rfl) ⟨rfl, rfl, Nat.le_of_ble_eq_true rfl, Nat.le_of_ble_eq_true rfl, Nat.zero_le _, Nat.zero_le _⟩ dX3_delayOf_6 ?_
  obtain ⟨hi, h⟩ := sat_in h
  refine va_iald hx hb hk.1 hP 1 0 rfl rfl hi dX3_delayOf_9 ?_
  have hR := hC0 _ (sat_some h)
  subst hR
  exact hret _ _ dX3_delayOf_10
def f_X3_neighboursOf_L4 (dl : ar) (x1 : Int32) : Nat → Int32 → Int32 → Option (Int32)
  | 0, _, _ => none
  | n + 1, x2_4, x3_4 => if 6 ≤ x3_4 then some x2_4 else Option.bind (f_X3_delayOf dl x1 x3_4) fun r_1 => if r_1 ≤ 0 then f_X3_neighboursOf_L4 dl x1 n x2_4 (x3_4 + 1) else f_X3_neighboursOf_L4 dl x1 n (x2_4 + 1) (x3_4 + 1)
def f_X3_neighboursOf (N : Nat) (dl : ar) (x1 : Int32) : Option (Int32) := Option.bind (f_X3_neighboursOf_L4 dl x1 N 0 0) fun s4 => some s4
abbrev rm_X3_neighboursOf : Room := { frames := 2, cells := 0, slots := 0, locals := 43 }
set_option maxRecDepth 100000 in
set_option maxHeartbeats 4000000 in
theorem k_X3_neighboursOf (l : Launch) (D : va_G) (cI cZ cK : ClassId) (N : Nat) (a0 a1 : Nat) (lt : Int32) (dl : ar) (x1 : Int32) (R : Int32) (h : f_X3_neighboursOf N dl x1 = some R) : Rd l D cI cZ cK yX3_neighboursOf cX3_neighboursOf 4 (some .int) rm_X3_neighboursOf [.ref a0, .int x1] [(a0, .inr (3, [.ref a1, .int lt])), (a1, .inl (cI, 36, .inl dl))] R := by
  refine rd_of (by decide) (vp_nar_int _) (Nat.le_of_ble_eq_true rfl) ?_
  intro p e s m args below meth c Q ls hx hb hml hown hk hP hret hl
  have hl : lv_has ls 4 [(0, .ref a0), (1, .int x1)] := hl
  obtain ⟨C0, hC0, h⟩ := sat_top h
  unfold f_X3_neighboursOf at h
  refine lv_iconst (v := 0) hx hb dX3_neighboursOf_0 (by decide) ?_
  refine lv_istore_n (lv' := [(2, .int 0), (0, .ref a0), (1, .int x1)]) hx hb dX3_neighboursOf_1 rfl hl (by decide) rfl (fun ls hl => ?_)
  refine lv_iconst (v := 0) hx hb dX3_neighboursOf_2 (by decide) ?_
  refine lv_istore_n (lv' := [(3, .int 0), (2, .int 0), (0, .ref a0), (1, .int x1)]) hx hb dX3_neighboursOf_3 rfl hl (by decide) rfl (fun ls hl => ?_)
  obtain ⟨T4, hT4, h⟩ := sat_reg h
  have E4 : ∀ (e2_2 : Int32) (ls : Array Slot), T4 e2_2 → lv_has ls 4 [(2, .int e2_2)] → W p l e rm_X3_neighboursOf s m args below meth c s.heap [] 0 0 Q (F0 m 28 ls []) := by
    intro e2_2 ls h hl
    have h := hT4 _ h
    refine lv_iload_n hx hb dX3_neighboursOf_28 rfl (lv_at hl 0 rfl) ?_
    have hR := hC0 _ (sat_some h)
    subst hR
    exact hret _ _ dX3_neighboursOf_29
  have L4 : ∀ (n : Nat) (x2_4 : Int32) (x3_4 : Int32) (ls : Array Slot), sat (f_X3_neighboursOf_L4 dl x1 n x2_4 x3_4) T4 → lv_has ls 4 [(0, .ref a0), (1, .int x1), (2, .int x2_4), (3, .int x3_4)] → W p l e rm_X3_neighboursOf s m args below meth c s.heap [] 0 0 Q (F0 m 4 ls []) := by
    intro n
    induction n with
    | zero =>
      intro x2_4 x3_4 ls h
      rw [f_X3_neighboursOf_L4] at h
      exact (sat_none h).elim
    | succ n ih =>
      intro x2_4 x3_4 ls h hl
      rw [f_X3_neighboursOf_L4] at h
      refine lv_iload_n hx hb dX3_neighboursOf_4 rfl (lv_at hl 3 rfl) ?_
      refine lv_bipush (v := 6) hx hb dX3_neighboursOf_5 (by decide) ?_
      refine lv_icmp_ge (tgt := 28) hx hb dX3_neighboursOf_7 (by decide) (fun c7 => ?_) (fun c7 => ?_)
      · have h := sat_t c7 h
        exact E4 x2_4 _ (sat_some h) (lv_sub hl [2] rfl)
      · have h := sat_f c7 h
        refine lv_aload_n hx hb dX3_neighboursOf_10 rfl (lv_at hl 0 rfl) ?_
        refine lv_iload_n hx hb dX3_neighboursOf_11 rfl (lv_at hl 1 rfl) ?_
        refine lv_iload_n hx hb dX3_neighboursOf_12 rfl (lv_at hl 3 rfl) ?_
        obtain ⟨r_1, e_1, h⟩ := sat_bind h
        refine cRV (rest := []) hx hb hml hown hk (k_X3_delayOf l D cI cZ cK a0 a1 lt dl x1 x3_4 r_1 e_1) (me_X3_delayOf hk.2.1) (mi_X3_delayOf hk.2.1) (ml_X3_35 hk.2.1) (hP.sub [0, 1] rfl) 0 rfl rfl rfl hl.1 rfl rfl (Nat.le_of_ble_eq_true rfl) ⟨rfl, rfl, Nat.le_of_ble_eq_true rfl, Nat.le_of_ble_eq_true rfl, Nat.zero_le _, Nat.zero_le _⟩ dX3_neighboursOf_13 ?_
        refine lv_if_le (tgt := 22) hx hb dX3_neighboursOf_16 (by decide) (fun c16 => ?_) (fun c16 => ?_)
        · have h := sat_t c16 h
          refine lv_iinc (v := x3_4 + 1) (lv' := [(3, .int (x3_4 + 1)), (0, .ref a0), (1, .int x1), (2, .int x2_4)]) hx hb dX3_neighboursOf_22 hl (k := 3) rfl (congrArg (fun z => x3_4 + z) (by decide)) (by decide) rfl (fun ls hl => ?_)
          refine lv_goto (tgt := 4) hx hb dX3_neighboursOf_25 (by decide) ?_
          exact ih x2_4 (x3_4 + 1) _ h (lv_sub hl [1, 2, 3, 0] rfl)
        · have h := sat_f c16 h
          refine lv_iinc (v := x2_4 + 1) (lv' := [(2, .int (x2_4 + 1)), (0, .ref a0), (1, .int x1), (3, .int x3_4)]) hx hb dX3_neighboursOf_19 hl (k := 2) rfl (congrArg (fun z => x2_4 + z) (by decide)) (by decide) rfl (fun ls hl => ?_)
          refine lv_iinc (v := x3_4 + 1) (lv' := [(3, .int (x3_4 + 1)), (2, .int (x2_4 + 1)), (0, .ref a0), (1, .int x1)]) hx hb dX3_neighboursOf_22 hl (k := 3) rfl (congrArg (fun z => x3_4 + z) (by decide)) (by decide) rfl (fun ls hl => ?_)
          refine lv_goto (tgt := 4) hx hb dX3_neighboursOf_25 (by decide) ?_
          exact ih (x2_4 + 1) (x3_4 + 1) _ h (lv_sub hl [2, 3, 1, 0] rfl)
  exact L4 N 0 0 _ h (lv_sub hl [2, 3, 1, 0] rfl)
def f_X3_pairOf_L29 (dl : ar) (x1 : Int32) (x3_18 : Int32) : Nat → Int32 → Int32 → Option (((Int32) ⊕ (Unit)) ⊕ (Int32))
  | 0, _, _ => none
  | n + 1, x2_29, x4_29 => if 6 ≤ x4_29 then some (.inr x2_29) else Option.bind (f_X3_delayOf dl x3_18 x4_29) fun r_1 => if r_1 ≤ 0 then f_X3_pairOf_L29 dl x1 x3_18 n x2_29 (x4_29 + 1) else if x2_29 = x1 then Option.bind (f_X11_pairCell x3_18 x4_29) fun r_2 => some (.inl (.inl r_2)) else f_X3_pairOf_L29 dl x1 x3_18 n (x2_29 + 1) (x4_29 + 1)
def f_X3_pairOf_L18 (dl : ar) (x1 : Int32) (N : Nat) : Nat → Int32 → Int32 → Option ((Int32) ⊕ (Unit))
  | 0, _, _ => none
  | n + 1, x2_18, x3_18 => if 6 ≤ x3_18 then some (.inr ()) else lb (f_X3_pairOf_L29 dl x1 x3_18 N x2_18 (x3_18 + 1)) fun s29 => f_X3_pairOf_L18 dl x1 N n s29 (x3_18 + 1)
def f_X3_pairOf (N : Nat) (dl : ar) (lt : Int32) (x1 : Int32) : Option (Int32) := if x1 < 0 then some (-1) else if x1 < lt then lb (f_X3_pairOf_L18 dl x1 N N 0 0) fun s18 => some (-1) else some (-1)
abbrev rm_X3_pairOf : Room := { frames := 2, cells := 0, slots := 0, locals := 43 }
set_option maxRecDepth 100000 in
set_option maxHeartbeats 4000000 in
theorem k_X3_pairOf (l : Launch) (D : va_G) (cI cZ cK : ClassId) (N : Nat) (a0 a1 : Nat) (lt : Int32) (dl : ar) (x1 : Int32) (R : Int32) (h : f_X3_pairOf N dl lt x1 = some R) : Rd l D cI cZ cK yX3_pairOf cX3_pairOf 5 (some .int) rm_X3_pairOf [.ref a0, .int x1] [(a0, .inr (3, [.ref a1, .int lt])), (a1, .inl (cI, 36, .inl dl))] R := by
  refine rd_of (by decide) (vp_nar_int _) (Nat.le_of_ble_eq_true rfl) ?_
  intro p e s m args below meth c Q ls hx hb hml hown hk hP hret hl
  have hl : lv_has ls 5 [(0, .ref a0), (1, .int x1)] := hl
  obtain ⟨C0, hC0, h⟩ := sat_top h
  unfold f_X3_pairOf at h
  refine lv_iload_n hx hb dX3_pairOf_0 rfl (lv_at hl 1 rfl) ?_
  refine lv_if_lt (tgt := 12) hx hb dX3_pairOf_1 (by decide) (fun c1 => ?_) (fun c1 => ?_)
  · have h := sat_t c1 h
    refine lv_iconst (v := (-1)) hx hb dX3_pairOf_12 (by decide) ?_
    have hR := hC0 _ (sat_some h)
    subst hR
    exact hret _ _ dX3_pairOf_13
  · have h := sat_f c1 h
    refine lv_iload_n hx hb dX3_pairOf_4 rfl (lv_at hl 1 rfl) ?_
    refine lv_aload_n hx hb dX3_pairOf_5 rfl (lv_at hl 0 rfl) ?_
    refine gf_X3_21 hx hb hown hk hP 0 rfl rfl dX3_pairOf_6 ?_
    refine lv_icmp_lt (tgt := 14) hx hb dX3_pairOf_9 (by decide) (fun c9 => ?_) (fun c9 => ?_)
    · have h := sat_t c9 h
      refine lv_iconst (v := 0) hx hb dX3_pairOf_14 (by decide) ?_
      refine lv_istore_n (lv' := [(2, .int 0), (0, .ref a0), (1, .int x1)]) hx hb dX3_pairOf_15 rfl hl (by decide) rfl (fun ls hl => ?_)
      refine lv_iconst (v := 0) hx hb dX3_pairOf_16 (by decide) ?_
      refine lv_istore_n (lv' := [(3, .int 0), (2, .int 0), (0, .ref a0), (1, .int x1)]) hx hb dX3_pairOf_17 rfl hl (by decide) rfl (fun ls hl => ?_)
      obtain ⟨T18, hr18, hT18, h⟩ := sat_lbr h
      have E18 : ∀  (ls : Array Slot), T18 (.inr ()) → lv_has ls 5 [] → W p l e rm_X3_pairOf s m args below meth c s.heap [] 0 0 Q (F0 m 73 ls []) := by
        intro  ls h hl
        have h := hT18 _ h
        refine lv_iconst (v := (-1)) hx hb dX3_pairOf_73 (by decide) ?_
        have hR := hC0 _ (sat_some h)
        subst hR
        exact hret _ _ dX3_pairOf_74
      have L18 : ∀ (n : Nat) (x2_18 : Int32) (x3_18 : Int32) (ls : Array Slot), sat (f_X3_pairOf_L18 dl x1 N n x2_18 x3_18) T18 → lv_has ls 5 [(0, .ref a0), (1, .int x1), (2, .int x2_18), (3, .int x3_18)] → W p l e rm_X3_pairOf s m args below meth c s.heap [] 0 0 Q (F0 m 18 ls []) := by
        intro n
        induction n with
        | zero =>
          intro x2_18 x3_18 ls h
          rw [f_X3_pairOf_L18] at h
          exact (sat_none h).elim
        | succ n ih =>
          intro x2_18 x3_18 ls h hl
          rw [f_X3_pairOf_L18] at h
          refine lv_iload_n hx hb dX3_pairOf_18 rfl (lv_at hl 3 rfl) ?_
          refine lv_bipush (v := 6) hx hb dX3_pairOf_19 (by decide) ?_
          refine lv_icmp_ge (tgt := 73) hx hb dX3_pairOf_21 (by decide) (fun c21 => ?_) (fun c21 => ?_)
          · have h := sat_t c21 h
            exact E18  _ (sat_some h) (lv_sub hl [] rfl)
          · have h := sat_f c21 h
            refine lv_iload_n hx hb dX3_pairOf_24 rfl (lv_at hl 3 rfl) ?_
            refine lv_iconst (v := 1) hx hb dX3_pairOf_25 (by decide) ?_
            refine lv_iadd hx hb dX3_pairOf_26 ?_
            refine lv_istore (lv' := [(4, .int (x3_18 + 1)), (0, .ref a0), (1, .int x1), (2, .int x2_18), (3, .int x3_18)]) hx hb dX3_pairOf_27 hl (by decide) rfl (fun ls hl => ?_)
            obtain ⟨T29, hr29, hT29, h⟩ := sat_lbr h
            have E29 : ∀ (e2_3 : Int32) (ls : Array Slot), T29 (.inr e2_3) → lv_has ls 5 [(0, .ref a0), (1, .int x1), (2, .int e2_3), (3, .int x3_18)] → W p l e rm_X3_pairOf s m args below meth c s.heap [] 0 0 Q (F0 m 67 ls []) := by
              intro e2_3 ls h hl
              have h := hT29 _ h
              refine lv_iinc (v := x3_18 + 1) (lv' := [(3, .int (x3_18 + 1)), (0, .ref a0), (1, .int x1), (2, .int e2_3)]) hx hb dX3_pairOf_67 hl (k := 3) rfl (congrArg (fun z => x3_18 + z) (by decide)) (by decide) rfl (fun ls hl => ?_)
              refine lv_goto (tgt := 18) hx hb dX3_pairOf_70 (by decide) ?_
              exact ih e2_3 (x3_18 + 1) _ h (lv_sub hl [1, 2, 3, 0] rfl)
            have L29 : ∀ (n : Nat) (x2_29 : Int32) (x4_29 : Int32) (ls : Array Slot), sat (f_X3_pairOf_L29 dl x1 x3_18 n x2_29 x4_29) T29 → lv_has ls 5 [(0, .ref a0), (1, .int x1), (2, .int x2_29), (3, .int x3_18), (4, .int x4_29)] → W p l e rm_X3_pairOf s m args below meth c s.heap [] 0 0 Q (F0 m 29 ls []) := by
              intro n
              induction n with
              | zero =>
                intro x2_29 x4_29 ls h
                rw [f_X3_pairOf_L29] at h
                exact (sat_none h).elim
              | succ n ih =>
                intro x2_29 x4_29 ls h hl
                rw [f_X3_pairOf_L29] at h
                refine lv_iload hx hb dX3_pairOf_29 (lv_at hl 4 rfl) ?_
                refine lv_bipush (v := 6) hx hb dX3_pairOf_31 (by decide) ?_
                refine lv_icmp_ge (tgt := 67) hx hb dX3_pairOf_33 (by decide) (fun c33 => ?_) (fun c33 => ?_)
                · have h := sat_t c33 h
                  exact E29 x2_29 _ (sat_some h) (lv_sub hl [0, 1, 2, 3] rfl)
                · have h := sat_f c33 h
                  refine lv_aload_n hx hb dX3_pairOf_36 rfl (lv_at hl 0 rfl) ?_
                  refine lv_iload_n hx hb dX3_pairOf_37 rfl (lv_at hl 3 rfl) ?_
                  refine lv_iload hx hb dX3_pairOf_38 (lv_at hl 4 rfl) ?_
                  obtain ⟨r_1, e_1, h⟩ := sat_bind h
                  refine cRV (rest := []) hx hb hml hown hk (k_X3_delayOf l D cI cZ cK a0 a1 lt dl x3_18 x4_29 r_1 e_1) (me_X3_delayOf hk.2.1) (mi_X3_delayOf hk.2.1) (ml_X3_35 hk.2.1) (hP.sub [0, 1] rfl) 0 rfl rfl rfl hl.1 rfl rfl (Nat.le_of_ble_eq_true rfl) ⟨rfl, rfl, Nat.le_of_ble_eq_true rfl, Nat.le_of_ble_eq_true rfl, Nat.zero_le _, Nat.zero_le _⟩ dX3_pairOf_40 ?_
                  refine lv_if_le (tgt := 61) hx hb dX3_pairOf_43 (by decide) (fun c43 => ?_) (fun c43 => ?_)
                  · have h := sat_t c43 h
                    refine lv_iinc (v := x4_29 + 1) (lv' := [(4, .int (x4_29 + 1)), (0, .ref a0), (1, .int x1), (2, .int x2_29), (3, .int x3_18)]) hx hb dX3_pairOf_61 hl (k := 4) rfl (congrArg (fun z => x4_29 + z) (by decide)) (by decide) rfl (fun ls hl => ?_)
                    refine lv_goto (tgt := 29) hx hb dX3_pairOf_64 (by decide) ?_
                    exact ih x2_29 (x4_29 + 1) _ h (lv_sub hl [1, 2, 3, 4, 0] rfl)
                  · have h := sat_f c43 h
                    refine lv_iload_n hx hb dX3_pairOf_46 rfl (lv_at hl 2 rfl) ?_
                    refine lv_iload_n hx hb dX3_pairOf_47 rfl (lv_at hl 1 rfl) ?_
                    refine lv_icmp_ne (tgt := 58) hx hb dX3_pairOf_48 (by decide) (fun c48 => ?_) (fun c48 => ?_)
                    · have h := sat_f c48 h
                      refine lv_iinc (v := x2_29 + 1) (lv' := [(2, .int (x2_29 + 1)), (0, .ref a0), (1, .int x1), (3, .int x3_18), (4, .int x4_29)]) hx hb dX3_pairOf_58 hl (k := 2) rfl (congrArg (fun z => x2_29 + z) (by decide)) (by decide) rfl (fun ls hl => ?_)
                      refine lv_iinc (v := x4_29 + 1) (lv' := [(4, .int (x4_29 + 1)), (2, .int (x2_29 + 1)), (0, .ref a0), (1, .int x1), (3, .int x3_18)]) hx hb dX3_pairOf_61 hl (k := 4) rfl (congrArg (fun z => x4_29 + z) (by decide)) (by decide) rfl (fun ls hl => ?_)
                      refine lv_goto (tgt := 29) hx hb dX3_pairOf_64 (by decide) ?_
                      exact ih (x2_29 + 1) (x4_29 + 1) _ h (lv_sub hl [2, 3, 1, 4, 0] rfl)
                    · have h := sat_t c48 h
                      refine lv_iload_n hx hb dX3_pairOf_51 rfl (lv_at hl 3 rfl) ?_
                      refine lv_iload hx hb dX3_pairOf_52 (lv_at hl 4 rfl) ?_
                      obtain ⟨r_2, e_2, h⟩ := sat_bind h
                      refine cRN (rest := []) hx hb hml hown hk (k_X11_pairCell l D cI cZ cK x3_18 x4_29 r_2 e_2) (me_X11_pairCell hk.2.1) (ms_X11_pairCell hk.2.1) (hk.2.2.1 (RX3, 31, yX11_pairCell) (List.mem_of_getElem? (i := 9) rfl)) (hP.sub [] rfl) hl.1 rfl rfl (Nat.le_of_ble_eq_true rfl) ⟨rfl, rfl, Nat.le_of_ble_eq_true rfl, Nat.le_of_ble_eq_true rfl, Nat.zero_le _, Nat.zero_le _⟩ dX3_pairOf_54 ?_
                      have hR := hC0 _ (hr18 _ (hr29 _ (sat_some h)))
                      subst hR
                      exact hret _ _ dX3_pairOf_57
            exact L29 N x2_18 (x3_18 + 1) _ h (lv_sub hl [1, 2, 3, 4, 0] rfl)
      exact L18 N 0 0 _ h (lv_sub hl [2, 3, 1, 0] rfl)
    · have h := sat_f c9 h
      refine lv_iconst (v := (-1)) hx hb dX3_pairOf_12 (by decide) ?_
      have hR := hC0 _ (sat_some h)
      subst hR
      exact hret _ _ dX3_pairOf_13
def f_X3_put (dl : ar) (lt : Int32) (x1 : Int32) (x2 : Int32) (x3 : Int32) : Option (Int32 × ar) := Option.bind (f_X3_delayOf dl x1 x2) fun r_1 => Option.bind (if r_1 = 0 then some (lt + 1) else some lt) fun j6 => Option.bind (f_X11_pairCell x1 x2) fun r_3 => ck (inb r_3 36) (Option.bind (f_X11_pairCell x2 x1) fun r_4 => ck (inb r_4 36) (some (j6, upd (upd dl r_3.toNatClampNeg x3) r_4.toNatClampNeg x3)))
abbrev rm_X3_put : Room := { frames := 2, cells := 0, slots := 0, locals := 43 }
set_option maxRecDepth 100000 in
set_option maxHeartbeats 4000000 in
theorem k_X3_put (l : Launch) (D : va_G) (cI cZ cK : ClassId) (a0 a1 : Nat) (lt : Int32) (dl : ar) (x1 : Int32) (x2 : Int32) (x3 : Int32) (R : Int32 × ar) (h : f_X3_put dl lt x1 x2 x3 = some R) : Mu l D cI cZ cK yX3_put cX3_put 4 none rm_X3_put [.ref a0, .int x1, .int x2, .int x3] [(a0, .inr (3, [.ref a1, .int lt])), (a1, .inl (cI, 36, .inl dl))] none [(a0, .inr (3, [.ref a1, .int R.1])), (a1, .inl (cI, 36, .inl R.2))] := by
  refine mv_of (by decide) (Nat.le_of_ble_eq_true rfl) ?_
  intro p e s m args below meth c Q A ls hx hb hml hown hk hA w hret hl
  have hl : lv_has ls 4 [(0, .ref a0), (1, .int x1), (2, .int x2), (3, .int x3)] := hl
  obtain ⟨C0, hC0, h⟩ := sat_top h
  unfold f_X3_put at h
  refine lv_aload_n hx hb dX3_put_0 rfl (lv_at hl 0 rfl) ?_
  refine lv_iload_n hx hb dX3_put_1 rfl (lv_at hl 1 rfl) ?_
  refine lv_iload_n hx hb dX3_put_2 rfl (lv_at hl 2 rfl) ?_
  obtain ⟨r_1, e_1, h⟩ := sat_bind h
  refine cRV (rest := []) hx hb hml hown hk (k_X3_delayOf l D cI cZ cK a0 a1 lt dl x1 x2 r_1 e_1) (me_X3_delayOf hk.2.1) (mi_X3_delayOf hk.2.1) (ml_X3_35 hk.2.1) (w.1.sub [0, 1] rfl) 0 rfl rfl rfl hl.1 rfl rfl (Nat.le_of_ble_eq_true rfl) ⟨rfl, rfl, Nat.le_of_ble_eq_true rfl, Nat.le_of_ble_eq_true rfl, Nat.zero_le _, Nat.zero_le _⟩ dX3_put_3 ?_
  obtain ⟨T6, hT6, h⟩ := sat_reg h
  have J6 : ∀ (lt_2 : Int32) (H : Heap) (locs : List Loc) (ls : Array Slot), T6 lt_2 → wd D A s.heap H locs [(a0, .inr (3, [.ref a1, .int lt_2])), (a1, .inl (cI, 36, .inl dl))] → lv_has ls 4 [(0, .ref a0), (1, .int x1), (2, .int x2), (3, .int x3)] → W p l e rm_X3_put s m args below meth c H locs 0 0 Q (F0 m 19 ls []) := by
    intro lt_2 H locs ls h w hl
    have h := hT6 _ h
    refine lv_aload_n hx hb dX3_put_19 rfl (lv_at hl 0 rfl) ?_
    refine gf_X3_9 hx hb hown hk w.1 0 rfl rfl dX3_put_20 ?_
    refine lv_iload_n hx hb dX3_put_23 rfl (lv_at hl 1 rfl) ?_
    refine lv_iload_n hx hb dX3_put_24 rfl (lv_at hl 2 rfl) ?_
    obtain ⟨r_3, e_3, h⟩ := sat_bind h
    refine cRN (rest := [.ref a1]) hx hb hml hown hk (k_X11_pairCell l D cI cZ cK x1 x2 r_3 e_3) (me_X11_pairCell hk.2.1) (ms_X11_pairCell hk.2.1) (hk.2.2.1 (RX3, 31, yX11_pairCell) (List.mem_of_getElem? (i := 9) rfl)) (w.1.sub [] rfl) hl.1 rfl rfl (Nat.le_of_ble_eq_true rfl) ⟨rfl, rfl, Nat.le_of_ble_eq_true rfl, Nat.le_of_ble_eq_true rfl, Nat.zero_le _, Nat.zero_le _⟩ dX3_put_25 ?_
    refine lv_iload_n hx hb dX3_put_28 rfl (lv_at hl 3 rfl) ?_
    obtain ⟨hi, h⟩ := sat_in h
    refine ra_ist (ws' := [(a0, .inr (3, [.ref a1, .int lt_2])), (a1, .inl (cI, 36, .inl (upd dl r_3.toNatClampNeg x3)))]) hx hb hk w 1 rfl hi rfl dX3_put_29 (fun H locs w => ?_)
    refine lv_aload_n hx hb dX3_put_30 rfl (lv_at hl 0 rfl) ?_
    refine gf_X3_9 hx hb hown hk w.1 0 rfl rfl dX3_put_31 ?_
    refine lv_iload_n hx hb dX3_put_34 rfl (lv_at hl 2 rfl) ?_
    refine lv_iload_n hx hb dX3_put_35 rfl (lv_at hl 1 rfl) ?_
    obtain ⟨r_4, e_4, h⟩ := sat_bind h
    refine cRN (rest := [.ref a1]) hx hb hml hown hk (k_X11_pairCell l D cI cZ cK x2 x1 r_4 e_4) (me_X11_pairCell hk.2.1) (ms_X11_pairCell hk.2.1) (hk.2.2.1 (RX3, 31, yX11_pairCell) (List.mem_of_getElem? (i := 9) rfl)) (w.1.sub [] rfl) hl.1 rfl rfl (Nat.le_of_ble_eq_true rfl) ⟨rfl, rfl, Nat.le_of_ble_eq_true rfl, Nat.le_of_ble_eq_true rfl, Nat.zero_le _, Nat.zero_le _⟩ dX3_put_36 ?_
    refine lv_iload_n hx hb dX3_put_39 rfl (lv_at hl 3 rfl) ?_
    obtain ⟨hi, h⟩ := sat_in h
    refine ra_ist (ws' := [(a0, .inr (3, [.ref a1, .int lt_2])), (a1, .inl (cI, 36, .inl (upd (upd dl r_3.toNatClampNeg x3) r_4.toNatClampNeg x3)))]) hx hb hk w 1 rfl hi rfl dX3_put_40 (fun H locs w => ?_)
    have hR := hC0 _ (sat_some h)
    subst hR
    exact hret _ _ _ _ w dX3_put_41
  refine lv_if_ne (tgt := 19) hx hb dX3_put_6 (by decide) (fun c6 => ?_) (fun c6 => ?_)
  · have h := sat_f c6 h
    exact J6 lt _ _ _ (sat_some h) w (lv_sub hl [0, 1, 2, 3] rfl)
  · have h := sat_t c6 h
    refine lv_aload_n hx hb dX3_put_9 rfl (lv_at hl 0 rfl) ?_
    refine lv_dup hx hb dX3_put_10 rfl ?_
    refine gf_X3_21 hx hb hown hk w.1 0 rfl rfl dX3_put_11 ?_
    refine lv_iconst (v := 1) hx hb dX3_put_14 (by decide) ?_
    refine lv_iadd hx hb dX3_put_15 ?_
    refine pf_X3_21 (ws' := [(a0, .inr (3, [.ref a1, .int (lt + 1)])), (a1, .inl (cI, 36, .inl dl))]) hx hb hown hk w 0 rfl (Nat.le_of_ble_eq_true rfl) rfl dX3_put_16 (fun H locs w => ?_)
    exact J6 (lt + 1) _ _ _ (sat_some h) w (lv_sub hl [0, 1, 2, 3] rfl)
def f_X3_takeAway (dl : ar) (lt : Int32) (x1 : Int32) (x2 : Int32) : Option (Int32 × ar) := Option.bind (f_X3_delayOf dl x1 x2) fun r_1 => Option.bind (if r_1 ≤ 0 then some lt else some (lt - 1)) fun j6 => Option.bind (f_X11_pairCell x1 x2) fun r_3 => ck (inb r_3 36) (Option.bind (f_X11_pairCell x2 x1) fun r_4 => ck (inb r_4 36) (some (j6, upd (upd dl r_3.toNatClampNeg 0) r_4.toNatClampNeg 0)))
abbrev rm_X3_takeAway : Room := { frames := 2, cells := 0, slots := 0, locals := 43 }
set_option maxRecDepth 100000 in
set_option maxHeartbeats 4000000 in
theorem k_X3_takeAway (l : Launch) (D : va_G) (cI cZ cK : ClassId) (a0 a1 : Nat) (lt : Int32) (dl : ar) (x1 : Int32) (x2 : Int32) (R : Int32 × ar) (h : f_X3_takeAway dl lt x1 x2 = some R) : Mu l D cI cZ cK yX3_takeAway cX3_takeAway 3 none rm_X3_takeAway [.ref a0, .int x1, .int x2] [(a0, .inr (3, [.ref a1, .int lt])), (a1, .inl (cI, 36, .inl dl))] none [(a0, .inr (3, [.ref a1, .int R.1])), (a1, .inl (cI, 36, .inl R.2))] := by
  refine mv_of (by decide) (Nat.le_of_ble_eq_true rfl) ?_
  intro p e s m args below meth c Q A ls hx hb hml hown hk hA w hret hl
  have hl : lv_has ls 3 [(0, .ref a0), (1, .int x1), (2, .int x2)] := hl
  obtain ⟨C0, hC0, h⟩ := sat_top h
  unfold f_X3_takeAway at h
  refine lv_aload_n hx hb dX3_takeAway_0 rfl (lv_at hl 0 rfl) ?_
  refine lv_iload_n hx hb dX3_takeAway_1 rfl (lv_at hl 1 rfl) ?_
  refine lv_iload_n hx hb dX3_takeAway_2 rfl (lv_at hl 2 rfl) ?_
  obtain ⟨r_1, e_1, h⟩ := sat_bind h
  refine cRV (rest := []) hx hb hml hown hk (k_X3_delayOf l D cI cZ cK a0 a1 lt dl x1 x2 r_1 e_1) (me_X3_delayOf hk.2.1) (mi_X3_delayOf hk.2.1) (ml_X3_35 hk.2.1) (w.1.sub [0, 1] rfl) 0 rfl rfl rfl hl.1 rfl rfl (Nat.le_of_ble_eq_true rfl) ⟨rfl, rfl, Nat.le_of_ble_eq_true rfl, Nat.le_of_ble_eq_true rfl, Nat.zero_le _, Nat.zero_le _⟩ dX3_takeAway_3 ?_
  obtain ⟨T6, hT6, h⟩ := sat_reg h
  have J6 : ∀ (lt_2 : Int32) (H : Heap) (locs : List Loc) (ls : Array Slot), T6 lt_2 → wd D A s.heap H locs [(a0, .inr (3, [.ref a1, .int lt_2])), (a1, .inl (cI, 36, .inl dl))] → lv_has ls 3 [(0, .ref a0), (1, .int x1), (2, .int x2)] → W p l e rm_X3_takeAway s m args below meth c H locs 0 0 Q (F0 m 19 ls []) := by
    intro lt_2 H locs ls h w hl
    have h := hT6 _ h
    refine lv_aload_n hx hb dX3_takeAway_19 rfl (lv_at hl 0 rfl) ?_
    refine gf_X3_9 hx hb hown hk w.1 0 rfl rfl dX3_takeAway_20 ?_
    refine lv_iload_n hx hb dX3_takeAway_23 rfl (lv_at hl 1 rfl) ?_
    refine lv_iload_n hx hb dX3_takeAway_24 rfl (lv_at hl 2 rfl) ?_
    obtain ⟨r_3, e_3, h⟩ := sat_bind h
    refine cRN (rest := [.ref a1]) hx hb hml hown hk (k_X11_pairCell l D cI cZ cK x1 x2 r_3 e_3) (me_X11_pairCell hk.2.1) (ms_X11_pairCell hk.2.1) (hk.2.2.1 (RX3, 31, yX11_pairCell) (List.mem_of_getElem? (i := 9) rfl)) (w.1.sub [] rfl) hl.1 rfl rfl (Nat.le_of_ble_eq_true rfl) ⟨rfl, rfl, Nat.le_of_ble_eq_true rfl, Nat.le_of_ble_eq_true rfl, Nat.zero_le _, Nat.zero_le _⟩ dX3_takeAway_25 ?_
    refine lv_iconst (v := 0) hx hb dX3_takeAway_28 (by decide) ?_
    obtain ⟨hi, h⟩ := sat_in h
    refine ra_ist (ws' := [(a0, .inr (3, [.ref a1, .int lt_2])), (a1, .inl (cI, 36, .inl (upd dl r_3.toNatClampNeg 0)))]) hx hb hk w 1 rfl hi rfl dX3_takeAway_29 (fun H locs w => ?_)
    refine lv_aload_n hx hb dX3_takeAway_30 rfl (lv_at hl 0 rfl) ?_
    refine gf_X3_9 hx hb hown hk w.1 0 rfl rfl dX3_takeAway_31 ?_
    refine lv_iload_n hx hb dX3_takeAway_34 rfl (lv_at hl 2 rfl) ?_
    refine lv_iload_n hx hb dX3_takeAway_35 rfl (lv_at hl 1 rfl) ?_
    obtain ⟨r_4, e_4, h⟩ := sat_bind h
    refine cRN (rest := [.ref a1]) hx hb hml hown hk (k_X11_pairCell l D cI cZ cK x2 x1 r_4 e_4) (me_X11_pairCell hk.2.1) (ms_X11_pairCell hk.2.1) (hk.2.2.1 (RX3, 31, yX11_pairCell) (List.mem_of_getElem? (i := 9) rfl)) (w.1.sub [] rfl) hl.1 rfl rfl (Nat.le_of_ble_eq_true rfl) ⟨rfl, rfl, Nat.le_of_ble_eq_true rfl, Nat.le_of_ble_eq_true rfl, Nat.zero_le _, Nat.zero_le _⟩ dX3_takeAway_36 ?_
    refine lv_iconst (v := 0) hx hb dX3_takeAway_39 (by decide) ?_
    obtain ⟨hi, h⟩ := sat_in h
    refine ra_ist (ws' := [(a0, .inr (3, [.ref a1, .int lt_2])), (a1, .inl (cI, 36, .inl (upd (upd dl r_3.toNatClampNeg 0) r_4.toNatClampNeg 0)))]) hx hb hk w 1 rfl hi rfl dX3_takeAway_40 (fun H locs w => ?_)
    have hR := hC0 _ (sat_some h)
    subst hR
    exact hret _ _ _ _ w dX3_takeAway_41
  refine lv_if_le (tgt := 19) hx hb dX3_takeAway_6 (by decide) (fun c6 => ?_) (fun c6 => ?_)
  · have h := sat_t c6 h
    exact J6 lt _ _ _ (sat_some h) w (lv_sub hl [0, 1, 2] rfl)
  · have h := sat_f c6 h
    refine lv_aload_n hx hb dX3_takeAway_9 rfl (lv_at hl 0 rfl) ?_
    refine lv_dup hx hb dX3_takeAway_10 rfl ?_
    refine gf_X3_21 hx hb hown hk w.1 0 rfl rfl dX3_takeAway_11 ?_
    refine lv_iconst (v := 1) hx hb dX3_takeAway_14 (by decide) ?_
    refine lv_isub hx hb dX3_takeAway_15 ?_
    refine pf_X3_21 (ws' := [(a0, .inr (3, [.ref a1, .int (lt - 1)])), (a1, .inl (cI, 36, .inl dl))]) hx hb hown hk w 0 rfl (Nat.le_of_ble_eq_true rfl) rfl dX3_takeAway_16 (fun H locs w => ?_)
    exact J6 (lt - 1) _ _ _ (sat_some h) w (lv_sub hl [0, 1, 2] rfl)
end
