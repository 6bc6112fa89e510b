-- ===== PART A: goes FIRST, ahead of the names: the tables' words, and 'selects' of the private methods out of them =====
/-- a private method of a class that the tables say can be made, by its rows of tables_1 -/
def lw_okq (q : MethodName × Nat) : Prop := (q.1.cls ≠ "java/lang/invoke/MethodHandle" ∧ q.1.cls ≠ "java/lang/invoke/VarHandle") ∧ Cond.instantiable q.1.cls q.2 ∈ tables_1 ∧ Cond.privateMethod q.1 ∈ tables_1 ∧ Cond.instanceMethod q.1 ∈ tables_1
theorem lw_p0 : lw_okq (⟨"MayBeRead$Ways", "fronted", "(IIII)J"⟩, 2) := ⟨⟨by decide +kernel, by decide +kernel⟩, List.mem_of_getElem? (i := 37) (by decide +kernel), List.mem_of_getElem? (i := 264) (by decide +kernel), List.mem_of_getElem? (i := 265) (by decide +kernel)⟩
theorem lw_p1 : lw_okq (⟨"MayBeRead$Ways", "parted", "(LMayBeRead$Words;II)J"⟩, 2) := ⟨⟨by decide +kernel, by decide +kernel⟩, List.mem_of_getElem? (i := 37) (by decide +kernel), List.mem_of_getElem? (i := 278) (by decide +kernel), List.mem_of_getElem? (i := 279) (by decide +kernel)⟩
theorem lw_p2 : lw_okq (⟨"MayBeRead", "refuse", "(I)I"⟩, 14) := ⟨⟨by decide +kernel, by decide +kernel⟩, List.mem_of_getElem? (i := 15) (by decide +kernel), List.mem_of_getElem? (i := 332) (by decide +kernel), List.mem_of_getElem? (i := 333) (by decide +kernel)⟩
theorem lw_p3 : lw_okq (⟨"MayBeRead", "takeSentence", "(LMayBeRead$Words;)V"⟩, 14) := ⟨⟨by decide +kernel, by decide +kernel⟩, List.mem_of_getElem? (i := 15) (by decide +kernel), List.mem_of_getElem? (i := 351) (by decide +kernel), List.mem_of_getElem? (i := 352) (by decide +kernel)⟩
theorem lw_p4 : lw_okq (⟨"MayBeRead", "spent", "()Z"⟩, 14) := ⟨⟨by decide +kernel, by decide +kernel⟩, List.mem_of_getElem? (i := 15) (by decide +kernel), List.mem_of_getElem? (i := 383) (by decide +kernel), List.mem_of_getElem? (i := 384) (by decide +kernel)⟩
theorem lw_p5 : lw_okq (⟨"MayBeRead$Tree", "await", "(IIJI)V"⟩, 10) := ⟨⟨by decide +kernel, by decide +kernel⟩, List.mem_of_getElem? (i := 51) (by decide +kernel), List.mem_of_getElem? (i := 402) (by decide +kernel), List.mem_of_getElem? (i := 403) (by decide +kernel)⟩
theorem lw_p6 : lw_okq (⟨"MayBeRead$Tree", "growFront", "(LMayBeRead$Words;IIJ)V"⟩, 10) := ⟨⟨by decide +kernel, by decide +kernel⟩, List.mem_of_getElem? (i := 51) (by decide +kernel), List.mem_of_getElem? (i := 414) (by decide +kernel), List.mem_of_getElem? (i := 415) (by decide +kernel)⟩
theorem lw_p7 : lw_okq (⟨"MayBeRead$Tree", "addNode", "(III)V"⟩, 10) := ⟨⟨by decide +kernel, by decide +kernel⟩, List.mem_of_getElem? (i := 51) (by decide +kernel), List.mem_of_getElem? (i := 420) (by decide +kernel), List.mem_of_getElem? (i := 421) (by decide +kernel)⟩
theorem lw_p8 : lw_okq (⟨"MayBeRead$Tree", "growJoin", "(LMayBeRead$Words;LMayBeRead$Ways;IIJ)V"⟩, 10) := ⟨⟨by decide +kernel, by decide +kernel⟩, List.mem_of_getElem? (i := 51) (by decide +kernel), List.mem_of_getElem? (i := 424) (by decide +kernel), List.mem_of_getElem? (i := 425) (by decide +kernel)⟩
theorem lw_p9 : lw_okq (⟨"MayBeRead$Sense", "meaningOf", "(LMayBeRead$Tree;LMayBeRead$Words;I)J"⟩, 5) := ⟨⟨by decide +kernel, by decide +kernel⟩, List.mem_of_getElem? (i := 94) (by decide +kernel), List.mem_of_getElem? (i := 438) (by decide +kernel), List.mem_of_getElem? (i := 439) (by decide +kernel)⟩
theorem lw_p10 : lw_okq (⟨"MayBeRead$Sense", "bareOf", "(LMayBeRead$Tree;I)I"⟩, 5) := ⟨⟨by decide +kernel, by decide +kernel⟩, List.mem_of_getElem? (i := 94) (by decide +kernel), List.mem_of_getElem? (i := 469) (by decide +kernel), List.mem_of_getElem? (i := 470) (by decide +kernel)⟩
theorem lw_p11 : lw_okq (⟨"MayBeRead$Sense", "brokenAt", "(LMayBeRead$Tree;LMayBeRead$Words;I)I"⟩, 5) := ⟨⟨by decide +kernel, by decide +kernel⟩, List.mem_of_getElem? (i := 94) (by decide +kernel), List.mem_of_getElem? (i := 475) (by decide +kernel), List.mem_of_getElem? (i := 476) (by decide +kernel)⟩
theorem lw_p12 : lw_okq (⟨"MayBeRead$Sense", "findIdle", "(LMayBeRead$Tree;)V"⟩, 5) := ⟨⟨by decide +kernel, by decide +kernel⟩, List.mem_of_getElem? (i := 94) (by decide +kernel), List.mem_of_getElem? (i := 485) (by decide +kernel), List.mem_of_getElem? (i := 486) (by decide +kernel)⟩
theorem lw_p13 : lw_okq (⟨"MayBeRead$Sense", "brokenByWhole", "()I"⟩, 5) := ⟨⟨by decide +kernel, by decide +kernel⟩, List.mem_of_getElem? (i := 94) (by decide +kernel), List.mem_of_getElem? (i := 489) (by decide +kernel), List.mem_of_getElem? (i := 490) (by decide +kernel)⟩
theorem lw_p14 : lw_okq (⟨"MayBeRead", "noReading", "(I)Z"⟩, 14) := ⟨⟨by decide +kernel, by decide +kernel⟩, List.mem_of_getElem? (i := 15) (by decide +kernel), List.mem_of_getElem? (i := 508) (by decide +kernel), List.mem_of_getElem? (i := 509) (by decide +kernel)⟩
theorem lw_p15 : lw_okq (⟨"MayBeRead$Unlike", "has", "(J)Z"⟩, 2) := ⟨⟨by decide +kernel, by decide +kernel⟩, List.mem_of_getElem? (i := 135) (by decide +kernel), List.mem_of_getElem? (i := 550) (by decide +kernel), List.mem_of_getElem? (i := 551) (by decide +kernel)⟩
def lw_privs_1 : List (MethodName × Nat) := [(⟨"MayBeRead$Ways", "fronted", "(IIII)J"⟩, 2), (⟨"MayBeRead$Ways", "parted", "(LMayBeRead$Words;II)J"⟩, 2), (⟨"MayBeRead", "refuse", "(I)I"⟩, 14), (⟨"MayBeRead", "takeSentence", "(LMayBeRead$Words;)V"⟩, 14), (⟨"MayBeRead", "spent", "()Z"⟩, 14), (⟨"MayBeRead$Tree", "await", "(IIJI)V"⟩, 10), (⟨"MayBeRead$Tree", "growFront", "(LMayBeRead$Words;IIJ)V"⟩, 10), (⟨"MayBeRead$Tree", "addNode", "(III)V"⟩, 10), (⟨"MayBeRead$Tree", "growJoin", "(LMayBeRead$Words;LMayBeRead$Ways;IIJ)V"⟩, 10), (⟨"MayBeRead$Sense", "meaningOf", "(LMayBeRead$Tree;LMayBeRead$Words;I)J"⟩, 5), (⟨"MayBeRead$Sense", "bareOf", "(LMayBeRead$Tree;I)I"⟩, 5), (⟨"MayBeRead$Sense", "brokenAt", "(LMayBeRead$Tree;LMayBeRead$Words;I)I"⟩, 5), (⟨"MayBeRead$Sense", "findIdle", "(LMayBeRead$Tree;)V"⟩, 5), (⟨"MayBeRead$Sense", "brokenByWhole", "()I"⟩, 5), (⟨"MayBeRead", "noReading", "(I)Z"⟩, 14), (⟨"MayBeRead$Unlike", "has", "(J)Z"⟩, 2)]
theorem lw_r1 : ∀ q ∈ lw_privs_1, lw_okq q := List.forall_mem_cons.mpr ⟨lw_p0, List.forall_mem_cons.mpr ⟨lw_p1, List.forall_mem_cons.mpr ⟨lw_p2, List.forall_mem_cons.mpr ⟨lw_p3, List.forall_mem_cons.mpr ⟨lw_p4, List.forall_mem_cons.mpr ⟨lw_p5, List.forall_mem_cons.mpr ⟨lw_p6, List.forall_mem_cons.mpr ⟨lw_p7, List.forall_mem_cons.mpr ⟨lw_p8, List.forall_mem_cons.mpr ⟨lw_p9, List.forall_mem_cons.mpr ⟨lw_p10, List.forall_mem_cons.mpr ⟨lw_p11, List.forall_mem_cons.mpr ⟨lw_p12, List.forall_mem_cons.mpr ⟨lw_p13, List.forall_mem_cons.mpr ⟨lw_p14, List.forall_mem_cons.mpr ⟨lw_p15, fun _ h => absurd h List.not_mem_nil⟩⟩⟩⟩⟩⟩⟩⟩⟩⟩⟩⟩⟩⟩⟩⟩
theorem lw_p16 : lw_okq (⟨"MayBeRead$Sieve", "keepMet", "(LMayBeRead$Listing;I)V"⟩, 3) := ⟨⟨by decide +kernel, by decide +kernel⟩, List.mem_of_getElem? (i := 161) (by decide +kernel), List.mem_of_getElem? (i := 633) (by decide +kernel), List.mem_of_getElem? (i := 634) (by decide +kernel)⟩
theorem lw_p17 : lw_okq (⟨"MayBeRead$Unlike", "arePartedBy", "(III)Z"⟩, 2) := ⟨⟨by decide +kernel, by decide +kernel⟩, List.mem_of_getElem? (i := 135) (by decide +kernel), List.mem_of_getElem? (i := 691) (by decide +kernel), List.mem_of_getElem? (i := 692) (by decide +kernel)⟩
theorem lw_p18 : lw_okq (⟨"MayBeRead$Unlike", "isThirdFor", "(II)Z"⟩, 2) := ⟨⟨by decide +kernel, by decide +kernel⟩, List.mem_of_getElem? (i := 135) (by decide +kernel), List.mem_of_getElem? (i := 696) (by decide +kernel), List.mem_of_getElem? (i := 697) (by decide +kernel)⟩
def lw_privs_2 : List (MethodName × Nat) := [(⟨"MayBeRead$Sieve", "keepMet", "(LMayBeRead$Listing;I)V"⟩, 3), (⟨"MayBeRead$Unlike", "arePartedBy", "(III)Z"⟩, 2), (⟨"MayBeRead$Unlike", "isThirdFor", "(II)Z"⟩, 2)]
theorem lw_r2 : ∀ q ∈ lw_privs_2, lw_okq q := List.forall_mem_cons.mpr ⟨lw_p16, List.forall_mem_cons.mpr ⟨lw_p17, List.forall_mem_cons.mpr ⟨lw_p18, fun _ h => absurd h List.not_mem_nil⟩⟩⟩
def lw_privs : List (MethodName × Nat) := lw_privs_1 ++ (lw_privs_2)
def lw_tbl : List Cond := k2_sels lw_privs ++ tables_1
theorem lw_privs_ok : ∀ q ∈ lw_privs, lw_okq q := by
  show ∀ q ∈ lw_privs_1 ++ (lw_privs_2), lw_okq q
  exact List.forall_mem_append.mpr ⟨lw_r1, lw_r2⟩

def RX0 : String := "MayBeRead$Aims"
def TX0 : u_T := fun k => match k with
  | 0 => ("MayBeRead$Aims", "sets", "[I", true)
  | 1 => ("MayBeRead$Aims", "weights", "[I", true)
  | _ => ("MayBeRead$Aims", "size", "I", false)
def tyX0 : Nat → FieldType := fun k => match k with
  | 0 => .array .int
  | 1 => .array .int
  | _ => .int
abbrev wsX00 : List Cond := u_ws RX0 TX0 3
theorem nmX0 : ∀ a, a < 3 → ∀ b, b < 3 → a ≠ b → (TX0 a).2.1 ≠ (TX0 b).2.1 := by decide +kernel
theorem tyX0_ok : ∀ k, k < 3 → parseFieldDescriptor (TX0 k).2.2.1 = some (tyX0 k) := by decide +kernel
abbrev cX0_init : ByteArray := prog_2_method_1_code
def yX0_init : MethodName := ⟨RX0, "<init>", "()V"⟩
abbrev cX0_size : ByteArray := prog_2_method_2_code
def yX0_size : MethodName := ⟨RX0, "size", "()I"⟩
abbrev cX0_add : ByteArray := prog_2_method_3_code
def yX0_add : MethodName := ⟨RX0, "add", "(II)V"⟩
abbrev cX0_become : ByteArray := prog_2_method_4_code
def yX0_become : MethodName := ⟨RX0, "become", "(LMayBeRead$Aims;)V"⟩
abbrev cX0_servedBy : ByteArray := prog_2_method_5_code
def yX0_servedBy : MethodName := ⟨RX0, "servedBy", "(J)I"⟩
def RX1 : String := "MayBeRead$Image"
def TX1 : u_T := fun k => match k with
  | 0 => ("MayBeRead$Image", "words", "LMayBeRead$Words;", true)
  | 1 => ("MayBeRead$Image", "order", "LMayBeRead$Order;", true)
  | 2 => ("MayBeRead$Image", "aims", "LMayBeRead$Aims;", true)
  | _ => ("MayBeRead$Image", "there", "Z", false)
def tyX1 : Nat → FieldType := fun k => match k with
  | 0 => .object "MayBeRead$Words"
  | 1 => .object "MayBeRead$Order"
  | 2 => .object "MayBeRead$Aims"
  | _ => .boolean
abbrev wsX10 : List Cond := u_ws RX1 TX1 4
theorem nmX1 : ∀ a, a < 4 → ∀ b, b < 4 → a ≠ b → (TX1 a).2.1 ≠ (TX1 b).2.1 := by decide +kernel
theorem tyX1_ok : ∀ k, k < 4 → parseFieldDescriptor (TX1 k).2.2.1 = some (tyX1 k) := by decide +kernel
abbrev cX1_init : ByteArray := prog_3_method_1_code
def yX1_init : MethodName := ⟨RX1, "<init>", "()V"⟩
abbrev cX1_isThere : ByteArray := prog_3_method_2_code
def yX1_isThere : MethodName := ⟨RX1, "isThere", "()Z"⟩
abbrev cX1_words : ByteArray := prog_3_method_3_code
def yX1_words : MethodName := ⟨RX1, "words", "()LMayBeRead$Words;"⟩
abbrev cX1_order : ByteArray := prog_3_method_4_code
def yX1_order : MethodName := ⟨RX1, "order", "()LMayBeRead$Order;"⟩
abbrev cX1_aims : ByteArray := prog_3_method_5_code
def yX1_aims : MethodName := ⟨RX1, "aims", "()LMayBeRead$Aims;"⟩
abbrev cX1_take : ByteArray := prog_3_method_6_code
def yX1_take : MethodName := ⟨RX1, "take", "(LMayBeRead$Words;LMayBeRead$Order;LMayBeRead$Aims;)V"⟩
def RX2 : String := "MayBeRead$Listing"
def TX2 : u_T := fun k => match k with
  | 0 => ("MayBeRead$Listing", "sense", "LMayBeRead$Sense;", true)
  | 1 => ("MayBeRead$Listing", "meanings", "[J", true)
  | 2 => ("MayBeRead$Listing", "idles", "[I", true)
  | 3 => ("MayBeRead$Listing", "mets", "[I", true)
  | 4 => ("MayBeRead$Listing", "size", "I", false)
  | _ => ("MayBeRead$Listing", "made", "Z", false)
def tyX2 : Nat → FieldType := fun k => match k with
  | 0 => .object "MayBeRead$Sense"
  | 1 => .array .long
  | 2 => .array .int
  | 3 => .array .int
  | 4 => .int
  | _ => .boolean
abbrev wsX20 : List Cond := u_ws RX2 TX2 6
theorem nmX2 : ∀ a, a < 6 → ∀ b, b < 6 → a ≠ b → (TX2 a).2.1 ≠ (TX2 b).2.1 := by decide +kernel
theorem tyX2_ok : ∀ k, k < 6 → parseFieldDescriptor (TX2 k).2.2.1 = some (tyX2 k) := by decide +kernel
abbrev cX2_init : ByteArray := prog_4_method_1_code
def yX2_init : MethodName := ⟨RX2, "<init>", "()V"⟩
abbrev cX2_isMade : ByteArray := prog_4_method_2_code
def yX2_isMade : MethodName := ⟨RX2, "isMade", "()Z"⟩
abbrev cX2_forget : ByteArray := prog_4_method_3_code
def yX2_forget : MethodName := ⟨RX2, "forget", "()V"⟩
abbrev cX2_make : ByteArray := prog_4_method_4_code
def yX2_make : MethodName := ⟨RX2, "make", "(LMayBeRead$Words;LMayBeRead$Ways;LMayBeRead$Tree;I)V"⟩
abbrev cX2_size : ByteArray := prog_4_method_5_code
def yX2_size : MethodName := ⟨RX2, "size", "()I"⟩
abbrev cX2_meaning : ByteArray := prog_4_method_6_code
def yX2_meaning : MethodName := ⟨RX2, "meaning", "(I)J"⟩
abbrev cX2_idlePlaces : ByteArray := prog_4_method_7_code
def yX2_idlePlaces : MethodName := ⟨RX2, "idlePlaces", "(I)I"⟩
abbrev cX2_isMet : ByteArray := prog_4_method_8_code
def yX2_isMet : MethodName := ⟨RX2, "isMet", "(II)Z"⟩
abbrev cX2_lettingAt : ByteArray := prog_4_method_9_code
def yX2_lettingAt : MethodName := ⟨RX2, "lettingAt", "(I)I"⟩
abbrev cX2_letByAll : ByteArray := prog_4_method_10_code
def yX2_letByAll : MethodName := ⟨RX2, "letByAll", "()J"⟩
abbrev cX2_barredByAll : ByteArray := prog_4_method_11_code
def yX2_barredByAll : MethodName := ⟨RX2, "barredByAll", "()J"⟩
abbrev cX2_idleInAll : ByteArray := prog_4_method_12_code
def yX2_idleInAll : MethodName := ⟨RX2, "idleInAll", "()I"⟩
abbrev cX2_evenestCase : ByteArray := prog_4_method_14_code
def yX2_evenestCase : MethodName := ⟨RX2, "evenestCase", "()I"⟩
def RX3 : String := "MayBeRead$Mender"
def TX3 : u_T := fun k => match k with
  | 0 => ("MayBeRead$Mender", "nodeBits", "[I", true)
  | 1 => ("MayBeRead$Mender", "shared", "[I", true)
  | 2 => ("MayBeRead$Mender", "size", "I", false)
  | _ => ("MayBeRead$Mender", "every", "I", false)
def tyX3 : Nat → FieldType := fun k => match k with
  | 0 => .array .int
  | 1 => .array .int
  | 2 => .int
  | _ => .int
abbrev wsX30 : List Cond := u_ws RX3 TX3 4
theorem nmX3 : ∀ a, a < 4 → ∀ b, b < 4 → a ≠ b → (TX3 a).2.1 ≠ (TX3 b).2.1 := by decide +kernel
theorem tyX3_ok : ∀ k, k < 4 → parseFieldDescriptor (TX3 k).2.2.1 = some (tyX3 k) := by decide +kernel
abbrev cX3_init : ByteArray := prog_5_method_1_code
def yX3_init : MethodName := ⟨RX3, "<init>", "()V"⟩
def RX4 : String := "MayBeRead$Order"
def TX4 : u_T := fun k => match k with
  | 0 => ("MayBeRead$Order", "rules", "[I", true)
  | _ => ("MayBeRead$Order", "size", "I", false)
def tyX4 : Nat → FieldType := fun k => match k with
  | 0 => .array .int
  | _ => .int
abbrev wsX40 : List Cond := u_ws RX4 TX4 2
theorem nmX4 : ∀ a, a < 2 → ∀ b, b < 2 → a ≠ b → (TX4 a).2.1 ≠ (TX4 b).2.1 := by decide +kernel
theorem tyX4_ok : ∀ k, k < 2 → parseFieldDescriptor (TX4 k).2.2.1 = some (tyX4 k) := by decide +kernel
abbrev cX4_init : ByteArray := prog_6_method_1_code
def yX4_init : MethodName := ⟨RX4, "<init>", "()V"⟩
abbrev cX4_size : ByteArray := prog_6_method_2_code
def yX4_size : MethodName := ⟨RX4, "size", "()I"⟩
abbrev cX4_at : ByteArray := prog_6_method_3_code
def yX4_at : MethodName := ⟨RX4, "at", "(I)I"⟩
abbrev cX4_clear : ByteArray := prog_6_method_4_code
def yX4_clear : MethodName := ⟨RX4, "clear", "()V"⟩
abbrev cX4_has : ByteArray := prog_6_method_5_code
def yX4_has : MethodName := ⟨RX4, "has", "(I)Z"⟩
abbrev cX4_add : ByteArray := prog_6_method_6_code
def yX4_add : MethodName := ⟨RX4, "add", "(I)V"⟩
abbrev cX4_become : ByteArray := prog_6_method_7_code
def yX4_become : MethodName := ⟨RX4, "become", "(LMayBeRead$Order;)V"⟩
def RX5 : String := "MayBeRead$Sense"
def TX5 : u_T := fun k => match k with
  | 0 => ("MayBeRead$Sense", "meanings", "[J", true)
  | 1 => ("MayBeRead$Sense", "weights", "[J", true)
  | 2 => ("MayBeRead$Sense", "bares", "[I", true)
  | 3 => ("MayBeRead$Sense", "idlePlaces", "I", false)
  | _ => ("MayBeRead$Sense", "metRules", "I", false)
def tyX5 : Nat → FieldType := fun k => match k with
  | 0 => .array .long
  | 1 => .array .long
  | 2 => .array .int
  | 3 => .int
  | _ => .int
abbrev wsX50 : List Cond := u_ws RX5 TX5 5
theorem nmX5 : ∀ a, a < 5 → ∀ b, b < 5 → a ≠ b → (TX5 a).2.1 ≠ (TX5 b).2.1 := by decide +kernel
theorem tyX5_ok : ∀ k, k < 5 → parseFieldDescriptor (TX5 k).2.2.1 = some (tyX5 k) := by decide +kernel
abbrev cX5_init : ByteArray := prog_7_method_1_code
def yX5_init : MethodName := ⟨RX5, "<init>", "()V"⟩
abbrev cX5_meaning : ByteArray := prog_7_method_2_code
def yX5_meaning : MethodName := ⟨RX5, "meaning", "()J"⟩
abbrev cX5_idlePlaces : ByteArray := prog_7_method_3_code
def yX5_idlePlaces : MethodName := ⟨RX5, "idlePlaces", "()I"⟩
abbrev cX5_metRules : ByteArray := prog_7_method_4_code
def yX5_metRules : MethodName := ⟨RX5, "metRules", "()I"⟩
abbrev cX5_weigh : ByteArray := prog_7_method_5_code
def yX5_weigh : MethodName := ⟨RX5, "weigh", "(LMayBeRead$Tree;LMayBeRead$Words;)V"⟩
abbrev cX5_meaningOf : ByteArray := prog_7_method_6_code
def yX5_meaningOf : MethodName := ⟨RX5, "meaningOf", "(LMayBeRead$Tree;LMayBeRead$Words;I)J"⟩
abbrev cX5_bareOf : ByteArray := prog_7_method_7_code
def yX5_bareOf : MethodName := ⟨RX5, "bareOf", "(LMayBeRead$Tree;I)I"⟩
abbrev cX5_findIdle : ByteArray := prog_7_method_8_code
def yX5_findIdle : MethodName := ⟨RX5, "findIdle", "(LMayBeRead$Tree;)V"⟩
abbrev cX5_brokenByWhole : ByteArray := prog_7_method_9_code
def yX5_brokenByWhole : MethodName := ⟨RX5, "brokenByWhole", "()I"⟩
abbrev cX5_brokenAt : ByteArray := prog_7_method_10_code
def yX5_brokenAt : MethodName := ⟨RX5, "brokenAt", "(LMayBeRead$Tree;LMayBeRead$Words;I)I"⟩
def RX6 : String := "MayBeRead$Sieve"
def TX6 : u_T := fun k => match k with
  | 0 => ("MayBeRead$Sieve", "kept", "[I", true)
  | 1 => ("MayBeRead$Sieve", "size", "I", false)
  | _ => ("MayBeRead$Sieve", "passed", "I", false)
def tyX6 : Nat → FieldType := fun k => match k with
  | 0 => .array .int
  | 1 => .int
  | _ => .int
abbrev wsX60 : List Cond := u_ws RX6 TX6 3
theorem nmX6 : ∀ a, a < 3 → ∀ b, b < 3 → a ≠ b → (TX6 a).2.1 ≠ (TX6 b).2.1 := by decide +kernel
theorem tyX6_ok : ∀ k, k < 3 → parseFieldDescriptor (TX6 k).2.2.1 = some (tyX6 k) := by decide +kernel
abbrev cX6_init : ByteArray := prog_8_method_1_code
def yX6_init : MethodName := ⟨RX6, "<init>", "()V"⟩
abbrev cX6_size : ByteArray := prog_8_method_2_code
def yX6_size : MethodName := ⟨RX6, "size", "()I"⟩
abbrev cX6_at : ByteArray := prog_8_method_3_code
def yX6_at : MethodName := ⟨RX6, "at", "(I)I"⟩
abbrev cX6_passed : ByteArray := prog_8_method_4_code
def yX6_passed : MethodName := ⟨RX6, "passed", "()I"⟩
abbrev cX6_sift : ByteArray := prog_8_method_5_code
def yX6_sift : MethodName := ⟨RX6, "sift", "(LMayBeRead$Listing;LMayBeRead$Order;I)V"⟩
abbrev cX6_keepMet : ByteArray := prog_8_method_6_code
def yX6_keepMet : MethodName := ⟨RX6, "keepMet", "(LMayBeRead$Listing;I)V"⟩
abbrev cX6_keepsAs : ByteArray := prog_8_method_7_code
def yX6_keepsAs : MethodName := ⟨RX6, "keepsAs", "(LMayBeRead$Sieve;)Z"⟩
def RX7 : String := "MayBeRead$Tree"
def TX7 : u_T := fun k => match k with
  | 0 => ("MayBeRead$Tree", "kinds", "[I", true)
  | 1 => ("MayBeRead$Tree", "froms", "[I", true)
  | 2 => ("MayBeRead$Tree", "ends", "[I", true)
  | 3 => ("MayBeRead$Tree", "behinds", "[I", true)
  | 4 => ("MayBeRead$Tree", "size", "I", false)
  | 5 => ("MayBeRead$Tree", "waitingFroms", "[I", true)
  | 6 => ("MayBeRead$Tree", "waitingEnds", "[I", true)
  | 7 => ("MayBeRead$Tree", "waitingNumbers", "[J", true)
  | 8 => ("MayBeRead$Tree", "waitingJoins", "[I", true)
  | _ => ("MayBeRead$Tree", "waiting", "I", false)
def tyX7 : Nat → FieldType := fun k => match k with
  | 0 => .array .int
  | 1 => .array .int
  | 2 => .array .int
  | 3 => .array .int
  | 4 => .int
  | 5 => .array .int
  | 6 => .array .int
  | 7 => .array .long
  | 8 => .array .int
  | _ => .int
abbrev wsX70 : List Cond := u_ws RX7 TX7 10
theorem nmX7 : ∀ a, a < 10 → ∀ b, b < 10 → a ≠ b → (TX7 a).2.1 ≠ (TX7 b).2.1 := by decide +kernel
theorem tyX7_ok : ∀ k, k < 10 → parseFieldDescriptor (TX7 k).2.2.1 = some (tyX7 k) := by decide +kernel
abbrev cX7_init : ByteArray := prog_9_method_1_code
def yX7_init : MethodName := ⟨RX7, "<init>", "()V"⟩
abbrev cX7_size : ByteArray := prog_9_method_2_code
def yX7_size : MethodName := ⟨RX7, "size", "()I"⟩
abbrev cX7_kind : ByteArray := prog_9_method_3_code
def yX7_kind : MethodName := ⟨RX7, "kind", "(I)I"⟩
abbrev cX7_from : ByteArray := prog_9_method_4_code
def yX7_from : MethodName := ⟨RX7, "from", "(I)I"⟩
abbrev cX7_end : ByteArray := prog_9_method_5_code
def yX7_end : MethodName := ⟨RX7, "end", "(I)I"⟩
abbrev cX7_inner : ByteArray := prog_9_method_6_code
def yX7_inner : MethodName := ⟨RX7, "inner", "(I)I"⟩
abbrev cX7_behind : ByteArray := prog_9_method_7_code
def yX7_behind : MethodName := ⟨RX7, "behind", "(I)I"⟩
abbrev cX7_grow : ByteArray := prog_9_method_8_code
def yX7_grow : MethodName := ⟨RX7, "grow", "(LMayBeRead$Words;LMayBeRead$Ways;J)V"⟩
abbrev cX7_await : ByteArray := prog_9_method_9_code
def yX7_await : MethodName := ⟨RX7, "await", "(IIJI)V"⟩
abbrev cX7_growFront : ByteArray := prog_9_method_10_code
def yX7_growFront : MethodName := ⟨RX7, "growFront", "(LMayBeRead$Words;IIJ)V"⟩
abbrev cX7_growJoin : ByteArray := prog_9_method_11_code
def yX7_growJoin : MethodName := ⟨RX7, "growJoin", "(LMayBeRead$Words;LMayBeRead$Ways;IIJ)V"⟩
abbrev cX7_addNode : ByteArray := prog_9_method_12_code
def yX7_addNode : MethodName := ⟨RX7, "addNode", "(III)V"⟩
def RX8 : String := "MayBeRead$Unlike"
def TX8 : u_T := fun k => match k with
  | 0 => ("MayBeRead$Unlike", "meanings", "[J", true)
  | _ => ("MayBeRead$Unlike", "size", "I", false)
def tyX8 : Nat → FieldType := fun k => match k with
  | 0 => .array .long
  | _ => .int
abbrev wsX80 : List Cond := u_ws RX8 TX8 2
theorem nmX8 : ∀ a, a < 2 → ∀ b, b < 2 → a ≠ b → (TX8 a).2.1 ≠ (TX8 b).2.1 := by decide +kernel
theorem tyX8_ok : ∀ k, k < 2 → parseFieldDescriptor (TX8 k).2.2.1 = some (tyX8 k) := by decide +kernel
abbrev cX8_init : ByteArray := prog_10_method_1_code
def yX8_init : MethodName := ⟨RX8, "<init>", "()V"⟩
abbrev cX8_size : ByteArray := prog_10_method_2_code
def yX8_size : MethodName := ⟨RX8, "size", "()I"⟩
abbrev cX8_gather : ByteArray := prog_10_method_3_code
def yX8_gather : MethodName := ⟨RX8, "gather", "(LMayBeRead$Listing;)V"⟩
abbrev cX8_has : ByteArray := prog_10_method_4_code
def yX8_has : MethodName := ⟨RX8, "has", "(J)Z"⟩
abbrev cX8_fewestCases : ByteArray := prog_10_method_5_code
def yX8_fewestCases : MethodName := ⟨RX8, "fewestCases", "()I"⟩
abbrev cX8_isThirdFor : ByteArray := prog_10_method_6_code
def yX8_isThirdFor : MethodName := ⟨RX8, "isThirdFor", "(II)Z"⟩
abbrev cX8_arePartedBy : ByteArray := prog_10_method_7_code
def yX8_arePartedBy : MethodName := ⟨RX8, "arePartedBy", "(III)Z"⟩
def RX9 : String := "MayBeRead$Ways"
def TX9 : u_T := fun k => match k with
  | 0 => ("MayBeRead$Ways", "numbers", "[J", true)
  | _ => ("MayBeRead$Ways", "frontNumbers", "[J", true)
def tyX9 : Nat → FieldType := fun k => match k with
  | 0 => .array .long
  | _ => .array .long
abbrev wsX90 : List Cond := u_ws RX9 TX9 2
theorem nmX9 : ∀ a, a < 2 → ∀ b, b < 2 → a ≠ b → (TX9 a).2.1 ≠ (TX9 b).2.1 := by decide +kernel
theorem tyX9_ok : ∀ k, k < 2 → parseFieldDescriptor (TX9 k).2.2.1 = some (tyX9 k) := by decide +kernel
abbrev cX9_init : ByteArray := prog_11_method_1_code
def yX9_init : MethodName := ⟨RX9, "<init>", "()V"⟩
abbrev cX9_number : ByteArray := prog_11_method_2_code
def yX9_number : MethodName := ⟨RX9, "number", "(II)J"⟩
abbrev cX9_frontNumber : ByteArray := prog_11_method_3_code
def yX9_frontNumber : MethodName := ⟨RX9, "frontNumber", "(II)J"⟩
abbrev cX9_reckon : ByteArray := prog_11_method_4_code
def yX9_reckon : MethodName := ⟨RX9, "reckon", "(LMayBeRead$Words;)V"⟩
abbrev cX9_fronted : ByteArray := prog_11_method_5_code
def yX9_fronted : MethodName := ⟨RX9, "fronted", "(IIII)J"⟩
abbrev cX9_parted : ByteArray := prog_11_method_6_code
def yX9_parted : MethodName := ⟨RX9, "parted", "(LMayBeRead$Words;II)J"⟩
def RX10 : String := "MayBeRead$Words"
def TX10 : u_T := fun k => match k with
  | 0 => ("MayBeRead$Words", "row", "[I", true)
  | _ => ("MayBeRead$Words", "size", "I", false)
def tyX10 : Nat → FieldType := fun k => match k with
  | 0 => .array .int
  | _ => .int
abbrev wsX100 : List Cond := u_ws RX10 TX10 2
theorem nmX10 : ∀ a, a < 2 → ∀ b, b < 2 → a ≠ b → (TX10 a).2.1 ≠ (TX10 b).2.1 := by decide +kernel
theorem tyX10_ok : ∀ k, k < 2 → parseFieldDescriptor (TX10 k).2.2.1 = some (tyX10 k) := by decide +kernel
abbrev cX10_init : ByteArray := prog_12_method_1_code
def yX10_init : MethodName := ⟨RX10, "<init>", "()V"⟩
abbrev cX10_size : ByteArray := prog_12_method_2_code
def yX10_size : MethodName := ⟨RX10, "size", "()I"⟩
abbrev cX10_at : ByteArray := prog_12_method_3_code
def yX10_at : MethodName := ⟨RX10, "at", "(I)I"⟩
abbrev cX10_clear : ByteArray := prog_12_method_4_code
def yX10_clear : MethodName := ⟨RX10, "clear", "()V"⟩
abbrev cX10_add : ByteArray := prog_12_method_5_code
def yX10_add : MethodName := ⟨RX10, "add", "(I)V"⟩
abbrev cX10_become : ByteArray := prog_12_method_6_code
def yX10_become : MethodName := ⟨RX10, "become", "(LMayBeRead$Words;)V"⟩
abbrev cX10_bracketed : ByteArray := prog_12_method_7_code
def yX10_bracketed : MethodName := ⟨RX10, "bracketed", "(LMayBeRead$Words;II)V"⟩
abbrev cX10_letters : ByteArray := prog_12_method_8_code
def yX10_letters : MethodName := ⟨RX10, "letters", "()I"⟩
abbrev cX10_mostOpen : ByteArray := prog_12_method_9_code
def yX10_mostOpen : MethodName := ⟨RX10, "mostOpen", "()I"⟩
abbrev cX10_closeAfter : ByteArray := prog_12_method_10_code
def yX10_closeAfter : MethodName := ⟨RX10, "closeAfter", "(I)I"⟩
abbrev cX10_fault : ByteArray := prog_12_method_11_code
def yX10_fault : MethodName := ⟨RX10, "fault", "()I"⟩
def RX11 : String := "MayBeRead"
def TX11 : u_T := fun k => match k with
  | 0 => ("MayBeRead", "tape", "LMayBeRead$Words;", true)
  | 1 => ("MayBeRead", "sentence", "LMayBeRead$Words;", true)
  | 2 => ("MayBeRead", "draft", "LMayBeRead$Words;", true)
  | 3 => ("MayBeRead", "ways", "LMayBeRead$Ways;", true)
  | 4 => ("MayBeRead", "tree", "LMayBeRead$Tree;", true)
  | 5 => ("MayBeRead", "listing", "LMayBeRead$Listing;", true)
  | 6 => ("MayBeRead", "unlikeOnes", "LMayBeRead$Unlike;", true)
  | 7 => ("MayBeRead", "order", "LMayBeRead$Order;", true)
  | 8 => ("MayBeRead", "sieve", "LMayBeRead$Sieve;", true)
  | 9 => ("MayBeRead", "otherSieve", "LMayBeRead$Sieve;", true)
  | 10 => ("MayBeRead", "mender", "LMayBeRead$Mender;", true)
  | 11 => ("MayBeRead", "aims", "LMayBeRead$Aims;", true)
  | 12 => ("MayBeRead", "taken", "LMayBeRead$Image;", true)
  | _ => ("MayBeRead", "refused", "[I", true)
def tyX11 : Nat → FieldType := fun k => match k with
  | 0 => .object "MayBeRead$Words"
  | 1 => .object "MayBeRead$Words"
  | 2 => .object "MayBeRead$Words"
  | 3 => .object "MayBeRead$Ways"
  | 4 => .object "MayBeRead$Tree"
  | 5 => .object "MayBeRead$Listing"
  | 6 => .object "MayBeRead$Unlike"
  | 7 => .object "MayBeRead$Order"
  | 8 => .object "MayBeRead$Sieve"
  | 9 => .object "MayBeRead$Sieve"
  | 10 => .object "MayBeRead$Mender"
  | 11 => .object "MayBeRead$Aims"
  | 12 => .object "MayBeRead$Image"
  | _ => .array .int
abbrev wsX110 : List Cond := u_ws RX11 TX11 14
theorem nmX11 : ∀ a, a < 14 → ∀ b, b < 14 → a ≠ b → (TX11 a).2.1 ≠ (TX11 b).2.1 := by decide +kernel
theorem tyX11_ok : ∀ k, k < 14 → parseFieldDescriptor (TX11 k).2.2.1 = some (tyX11 k) := by decide +kernel
abbrev cX11_init : ByteArray := prog_1_method_1_code
def yX11_init : MethodName := ⟨RX11, "<init>", "()V"⟩
abbrev cX11_feed : ByteArray := prog_1_method_2_code
def yX11_feed : MethodName := ⟨RX11, "feed", "(IJ)I"⟩
abbrev cX11_read : ByteArray := prog_1_method_3_code
def yX11_read : MethodName := ⟨RX11, "read", "()I"⟩
abbrev cX11_wordAt : ByteArray := prog_1_method_4_code
def yX11_wordAt : MethodName := ⟨RX11, "wordAt", "(I)I"⟩
abbrev cX11_readings : ByteArray := prog_1_method_5_code
def yX11_readings : MethodName := ⟨RX11, "readings", "()J"⟩
abbrev cX11_means : ByteArray := prog_1_method_8_code
def yX11_means : MethodName := ⟨RX11, "means", "(I)J"⟩
abbrev cX11_all : ByteArray := prog_1_method_11_code
def yX11_all : MethodName := ⟨RX11, "all", "(Z)J"⟩
abbrev cX11_same : ByteArray := prog_1_method_12_code
def yX11_same : MethodName := ⟨RX11, "same", "(II)I"⟩
abbrev cX11_unlike : ByteArray := prog_1_method_13_code
def yX11_unlike : MethodName := ⟨RX11, "unlike", "()I"⟩
abbrev cX11_part : ByteArray := prog_1_method_14_code
def yX11_part : MethodName := ⟨RX11, "part", "(II)I"⟩
abbrev cX11_idle : ByteArray := prog_1_method_15_code
def yX11_idle : MethodName := ⟨RX11, "idle", "(I)I"⟩
abbrev cX11_needless : ByteArray := prog_1_method_16_code
def yX11_needless : MethodName := ⟨RX11, "needless", "()I"⟩
abbrev cX11_choose : ByteArray := prog_1_method_18_code
def yX11_choose : MethodName := ⟨RX11, "choose", "(I)I"⟩
abbrev cX11_unchoose : ByteArray := prog_1_method_19_code
def yX11_unchoose : MethodName := ⟨RX11, "unchoose", "()I"⟩
abbrev cX11_leftOver : ByteArray := prog_1_method_20_code
def yX11_leftOver : MethodName := ⟨RX11, "leftOver", "(I)I"⟩
abbrev cX11_passedOver : ByteArray := prog_1_method_21_code
def yX11_passedOver : MethodName := ⟨RX11, "passedOver", "()I"⟩
abbrev cX11_hangs : ByteArray := prog_1_method_23_code
def yX11_hangs : MethodName := ⟨RX11, "hangs", "()I"⟩
abbrev cX11_test : ByteArray := prog_1_method_24_code
def yX11_test : MethodName := ⟨RX11, "test", "()I"⟩
abbrev cX11_fewest : ByteArray := prog_1_method_25_code
def yX11_fewest : MethodName := ⟨RX11, "fewest", "()I"⟩
abbrev cX11_bracket : ByteArray := prog_1_method_26_code
def yX11_bracket : MethodName := ⟨RX11, "bracket", "(II)I"⟩
abbrev cX11_aim : ByteArray := prog_1_method_28_code
def yX11_aim : MethodName := ⟨RX11, "aim", "(II)I"⟩
abbrev cX11_serves : ByteArray := prog_1_method_29_code
def yX11_serves : MethodName := ⟨RX11, "serves", "(I)I"⟩
abbrev cX11_best : ByteArray := prog_1_method_30_code
def yX11_best : MethodName := ⟨RX11, "best", "()I"⟩
abbrev cX11_image : ByteArray := prog_1_method_31_code
def yX11_image : MethodName := ⟨RX11, "image", "()I"⟩
abbrev cX11_on : ByteArray := prog_1_method_32_code
def yX11_on : MethodName := ⟨RX11, "on", "()I"⟩
abbrev cX11_count : ByteArray := prog_1_method_33_code
def yX11_count : MethodName := ⟨RX11, "count", "(I)I"⟩
abbrev cX11_refuse : ByteArray := prog_1_method_34_code
def yX11_refuse : MethodName := ⟨RX11, "refuse", "(I)I"⟩
abbrev cX11_takeSentence : ByteArray := prog_1_method_35_code
def yX11_takeSentence : MethodName := ⟨RX11, "takeSentence", "(LMayBeRead$Words;)V"⟩
abbrev cX11_spent : ByteArray := prog_1_method_36_code
def yX11_spent : MethodName := ⟨RX11, "spent", "()Z"⟩
abbrev cX11_noReading : ByteArray := prog_1_method_37_code
def yX11_noReading : MethodName := ⟨RX11, "noReading", "(I)Z"⟩
abbrev cX11_noCase : ByteArray := prog_1_method_38_code
def yX11_noCase : MethodName := ⟨RX11, "noCase", "(I)Z"⟩
abbrev cX11_noRule : ByteArray := prog_1_method_39_code
def yX11_noRule : MethodName := ⟨RX11, "noRule", "(I)Z"⟩
abbrev cX11_kindOf : ByteArray := prog_1_method_40_code
def yX11_kindOf : MethodName := ⟨RX11, "kindOf", "(I)I"⟩
abbrev cX11_casesOf : ByteArray := prog_1_method_41_code
def yX11_casesOf : MethodName := ⟨RX11, "casesOf", "(I)J"⟩
abbrev cX11_isJoin : ByteArray := prog_1_method_42_code
def yX11_isJoin : MethodName := ⟨RX11, "isJoin", "(I)Z"⟩
abbrev cX11_bit : ByteArray := prog_1_method_43_code
def yX11_bit : MethodName := ⟨RX11, "bit", "(JI)I"⟩
abbrev cX11_leastCase : ByteArray := prog_1_method_44_code
def yX11_leastCase : MethodName := ⟨RX11, "leastCase", "(J)I"⟩
abbrev cX11_look : ByteArray := prog_1_method_45_code
def yX11_look : MethodName := ⟨RX11, "look", "([II)I"⟩
abbrev cX11_look_ : ByteArray := prog_1_method_46_code
def yX11_look_ : MethodName := ⟨RX11, "look", "([JI)J"⟩
abbrev cX11_put : ByteArray := prog_1_method_47_code
def yX11_put : MethodName := ⟨RX11, "put", "([III)V"⟩
abbrev cX11_put_ : ByteArray := prog_1_method_48_code
def yX11_put_ : MethodName := ⟨RX11, "put", "([JIJ)V"⟩
def RX12 : String := "MayBeReadModel"
def TX12 : u_T := fun k => match k with
  | _ => ("", "", "", false)
def tyX12 : Nat → FieldType := fun k => match k with
  | _ => .int
abbrev wsX120 : List Cond := u_ws RX12 TX12 0
theorem nmX12 : ∀ a, a < 0 → ∀ b, b < 0 → a ≠ b → (TX12 a).2.1 ≠ (TX12 b).2.1 := by decide +kernel
theorem tyX12_ok : ∀ k, k < 0 → parseFieldDescriptor (TX12 k).2.2.1 = some (tyX12 k) := by decide +kernel
def RJ9 : String := "java/lang/Math"
def TJ9 : u_T := fun k => match k with
  | _ => ("", "", "", false)
def tyJ9 : Nat → FieldType := fun k => match k with
  | _ => .int
abbrev wsJ90 : List Cond := u_ws RJ9 TJ9 0
theorem nmJ9 : ∀ a, a < 0 → ∀ b, b < 0 → a ≠ b → (TJ9 a).2.1 ≠ (TJ9 b).2.1 := by decide +kernel
theorem tyJ9_ok : ∀ k, k < 0 → parseFieldDescriptor (TJ9 k).2.2.1 = some (tyJ9 k) := by decide +kernel
abbrev cJ9_abs_0f7a4 : ByteArray := prog_15_method_59_code
def yJ9_abs_0f7a4 : MethodName := ⟨RJ9, "abs", "(I)I"⟩
abbrev cJ9_max_7cf53 : ByteArray := prog_15_method_65_code
def yJ9_max_7cf53 : MethodName := ⟨RJ9, "max", "(II)I"⟩
def RL : String := "MayBeReadLaw"
abbrev cL_cell : ByteArray := method_2_code
def yL_cell : MethodName := ⟨RL, "cell", "([II)I"⟩
abbrev cL_say : ByteArray := method_3_code
def yL_say : MethodName := ⟨RL, "say", "(LMayBeRead;I)I"⟩
abbrev cL_stir : ByteArray := method_4_code
def yL_stir : MethodName := ⟨RL, "stir", "([III)I"⟩
abbrev cL_sentence : ByteArray := method_5_code
def yL_sentence : MethodName := ⟨RL, "sentence", "(LMayBeRead;[I[II)I"⟩
abbrev cL_sight : ByteArray := method_9_code
def yL_sight : MethodName := ⟨RL, "sight", "(LMayBeRead;)J"⟩
abbrev cL_law : ByteArray := code
def yL_law : MethodName := ⟨RL, "law", "([I)Z"⟩
abbrev vwCl : List vw_C := [(RX0, TX0, 3), (RX1, TX1, 4), (RX2, TX2, 6), (RX3, TX3, 4), (RX4, TX4, 2), (RX5, TX5, 5), (RX6, TX6, 3), (RX7, TX7, 10), (RX8, TX8, 2), (RX9, TX9, 2), (RX10, TX10, 2), (RX11, TX11, 14)]
def WS : List Cond := lw_tbl.filter goodWord
theorem zIn {w : Cond} (i : Nat) (h : tables_1[i]? = some w) (hg : goodWord w = true) : w ∈ WS := List.mem_filter.mpr ⟨List.mem_append_right _ (List.mem_of_getElem? h), hg⟩
theorem zInP {w : Cond} (i : Nat) (h : (k2_sels lw_privs)[i]? = some w) (hg : goodWord w = true) : w ∈ WS := List.mem_filter.mpr ⟨List.mem_append_left _ (List.mem_of_getElem? h), hg⟩
theorem zGood {ws : List Cond} (h : ∀ w ∈ ws, w ∈ WS) : GoodIn WS ws := fun w hw => ⟨h w hw, good_of_word (List.mem_filter.mp (h w hw)).2⟩
