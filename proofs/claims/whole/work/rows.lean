section
-- ===== PART A: goes FIRST, ahead of the names: the tables' words, and 'selects' of the private methods out of them =====
/-- a private method of a class that the tables say can be made, by its rows of tables_1 -/
def lw_okq (q : MethodName × Nat) : Prop := (q.1.cls ≠ "java/lang/invoke/MethodHandle" ∧ q.1.cls ≠ "java/lang/invoke/VarHandle") ∧ Cond.instantiable q.1.cls q.2 ∈ tables_1 ∧ Cond.privateMethod q.1 ∈ tables_1 ∧ Cond.instanceMethod q.1 ∈ tables_1
theorem lw_p0 : lw_okq (⟨"MayBeRead$Ways", "fronted", "(IIII)J"⟩, 2) := ⟨⟨by decide +kernel, by decide +kernel⟩, List.mem_of_getElem? (i := 38) (by decide +kernel), List.mem_of_getElem? (i := 267) (by decide +kernel), List.mem_of_getElem? (i := 268) (by decide +kernel)⟩
theorem lw_p1 : lw_okq (⟨"MayBeRead$Ways", "parted", "(LMayBeRead$Words;II)J"⟩, 2) := ⟨⟨by decide +kernel, by decide +kernel⟩, List.mem_of_getElem? (i := 38) (by decide +kernel), List.mem_of_getElem? (i := 281) (by decide +kernel), List.mem_of_getElem? (i := 282) (by decide +kernel)⟩
theorem lw_p2 : lw_okq (⟨"MayBeRead", "refuse", "(I)I"⟩, 14) := ⟨⟨by decide +kernel, by decide +kernel⟩, List.mem_of_getElem? (i := 16) (by decide +kernel), List.mem_of_getElem? (i := 335) (by decide +kernel), List.mem_of_getElem? (i := 336) (by decide +kernel)⟩
theorem lw_p3 : lw_okq (⟨"MayBeRead", "takeSentence", "(LMayBeRead$Words;)V"⟩, 14) := ⟨⟨by decide +kernel, by decide +kernel⟩, List.mem_of_getElem? (i := 16) (by decide +kernel), List.mem_of_getElem? (i := 354) (by decide +kernel), List.mem_of_getElem? (i := 355) (by decide +kernel)⟩
theorem lw_p4 : lw_okq (⟨"MayBeRead", "spent", "()Z"⟩, 14) := ⟨⟨by decide +kernel, by decide +kernel⟩, List.mem_of_getElem? (i := 16) (by decide +kernel), List.mem_of_getElem? (i := 386) (by decide +kernel), List.mem_of_getElem? (i := 387) (by decide +kernel)⟩
theorem lw_p5 : lw_okq (⟨"MayBeRead$Tree", "await", "(IIJI)V"⟩, 10) := ⟨⟨by decide +kernel, by decide +kernel⟩, List.mem_of_getElem? (i := 52) (by decide +kernel), List.mem_of_getElem? (i := 405) (by decide +kernel), List.mem_of_getElem? (i := 406) (by decide +kernel)⟩
theorem lw_p6 : lw_okq (⟨"MayBeRead$Tree", "growFront", "(LMayBeRead$Words;IIJ)V"⟩, 10) := ⟨⟨by decide +kernel, by decide +kernel⟩, List.mem_of_getElem? (i := 52) (by decide +kernel), List.mem_of_getElem? (i := 417) (by decide +kernel), List.mem_of_getElem? (i := 418) (by decide +kernel)⟩
theorem lw_p7 : lw_okq (⟨"MayBeRead$Tree", "addNode", "(III)V"⟩, 10) := ⟨⟨by decide +kernel, by decide +kernel⟩, List.mem_of_getElem? (i := 52) (by decide +kernel), List.mem_of_getElem? (i := 423) (by decide +kernel), List.mem_of_getElem? (i := 424) (by decide +kernel)⟩
theorem lw_p8 : lw_okq (⟨"MayBeRead$Tree", "growJoin", "(LMayBeRead$Words;LMayBeRead$Ways;IIJ)V"⟩, 10) := ⟨⟨by decide +kernel, by decide +kernel⟩, List.mem_of_getElem? (i := 52) (by decide +kernel), List.mem_of_getElem? (i := 427) (by decide +kernel), List.mem_of_getElem? (i := 428) (by decide +kernel)⟩
theorem lw_p9 : lw_okq (⟨"MayBeRead$Sense", "meaningOf", "(LMayBeRead$Tree;LMayBeRead$Words;I)J"⟩, 5) := ⟨⟨by decide +kernel, by decide +kernel⟩, List.mem_of_getElem? (i := 95) (by decide +kernel), List.mem_of_getElem? (i := 441) (by decide +kernel), List.mem_of_getElem? (i := 442) (by decide +kernel)⟩
theorem lw_p10 : lw_okq (⟨"MayBeRead$Sense", "bareOf", "(LMayBeRead$Tree;I)I"⟩, 5) := ⟨⟨by decide +kernel, by decide +kernel⟩, List.mem_of_getElem? (i := 95) (by decide +kernel), List.mem_of_getElem? (i := 471) (by decide +kernel), List.mem_of_getElem? (i := 472) (by decide +kernel)⟩
theorem lw_p11 : lw_okq (⟨"MayBeRead$Sense", "brokenAt", "(LMayBeRead$Tree;LMayBeRead$Words;I)I"⟩, 5) := ⟨⟨by decide +kernel, by decide +kernel⟩, List.mem_of_getElem? (i := 95) (by decide +kernel), List.mem_of_getElem? (i := 477) (by decide +kernel), List.mem_of_getElem? (i := 478) (by decide +kernel)⟩
theorem lw_p12 : lw_okq (⟨"MayBeRead$Sense", "findIdle", "(LMayBeRead$Tree;)V"⟩, 5) := ⟨⟨by decide +kernel, by decide +kernel⟩, List.mem_of_getElem? (i := 95) (by decide +kernel), List.mem_of_getElem? (i := 487) (by decide +kernel), List.mem_of_getElem? (i := 488) (by decide +kernel)⟩
theorem lw_p13 : lw_okq (⟨"MayBeRead$Sense", "brokenByWhole", "()I"⟩, 5) := ⟨⟨by decide +kernel, by decide +kernel⟩, List.mem_of_getElem? (i := 95) (by decide +kernel), List.mem_of_getElem? (i := 491) (by decide +kernel), List.mem_of_getElem? (i := 492) (by decide +kernel)⟩
theorem lw_p14 : lw_okq (⟨"MayBeRead", "noReading", "(I)Z"⟩, 14) := ⟨⟨by decide +kernel, by decide +kernel⟩, List.mem_of_getElem? (i := 16) (by decide +kernel), List.mem_of_getElem? (i := 510) (by decide +kernel), List.mem_of_getElem? (i := 511) (by decide +kernel)⟩
theorem lw_p15 : lw_okq (⟨"MayBeRead$Unlike", "has", "(J)Z"⟩, 2) := ⟨⟨by decide +kernel, by decide +kernel⟩, List.mem_of_getElem? (i := 136) (by decide +kernel), List.mem_of_getElem? (i := 584) (by decide +kernel), List.mem_of_getElem? (i := 585) (by decide +kernel)⟩
def lw_privs_1 : List (MethodName × Nat) := [(⟨"MayBeRead$Ways", "fronted", "(IIII)J"⟩, 2), (⟨"MayBeRead$Ways", "parted", "(LMayBeRead$Words;II)J"⟩, 2), (⟨"MayBeRead", "refuse", "(I)I"⟩, 14), (⟨"MayBeRead", "takeSentence", "(LMayBeRead$Words;)V"⟩, 14), (⟨"MayBeRead", "spent", "()Z"⟩, 14), (⟨"MayBeRead$Tree", "await", "(IIJI)V"⟩, 10), (⟨"MayBeRead$Tree", "growFront", "(LMayBeRead$Words;IIJ)V"⟩, 10), (⟨"MayBeRead$Tree", "addNode", "(III)V"⟩, 10), (⟨"MayBeRead$Tree", "growJoin", "(LMayBeRead$Words;LMayBeRead$Ways;IIJ)V"⟩, 10), (⟨"MayBeRead$Sense", "meaningOf", "(LMayBeRead$Tree;LMayBeRead$Words;I)J"⟩, 5), (⟨"MayBeRead$Sense", "bareOf", "(LMayBeRead$Tree;I)I"⟩, 5), (⟨"MayBeRead$Sense", "brokenAt", "(LMayBeRead$Tree;LMayBeRead$Words;I)I"⟩, 5), (⟨"MayBeRead$Sense", "findIdle", "(LMayBeRead$Tree;)V"⟩, 5), (⟨"MayBeRead$Sense", "brokenByWhole", "()I"⟩, 5), (⟨"MayBeRead", "noReading", "(I)Z"⟩, 14), (⟨"MayBeRead$Unlike", "has", "(J)Z"⟩, 2)]
theorem lw_r1 : ∀ q ∈ lw_privs_1, lw_okq q := List.forall_mem_cons.mpr ⟨lw_p0, List.forall_mem_cons.mpr ⟨lw_p1, List.forall_mem_cons.mpr ⟨lw_p2, List.forall_mem_cons.mpr ⟨lw_p3, List.forall_mem_cons.mpr ⟨lw_p4, List.forall_mem_cons.mpr ⟨lw_p5, List.forall_mem_cons.mpr ⟨lw_p6, List.forall_mem_cons.mpr ⟨lw_p7, List.forall_mem_cons.mpr ⟨lw_p8, List.forall_mem_cons.mpr ⟨lw_p9, List.forall_mem_cons.mpr ⟨lw_p10, List.forall_mem_cons.mpr ⟨lw_p11, List.forall_mem_cons.mpr ⟨lw_p12, List.forall_mem_cons.mpr ⟨lw_p13, List.forall_mem_cons.mpr ⟨lw_p14, List.forall_mem_cons.mpr ⟨lw_p15, fun _ h => absurd h List.not_mem_nil⟩⟩⟩⟩⟩⟩⟩⟩⟩⟩⟩⟩⟩⟩⟩⟩
theorem lw_p16 : lw_okq (⟨"MayBeRead$Sieve", "keepMet", "(LMayBeRead$Listing;I)V"⟩, 3) := ⟨⟨by decide +kernel, by decide +kernel⟩, List.mem_of_getElem? (i := 162) (by decide +kernel), List.mem_of_getElem? (i := 672) (by decide +kernel), List.mem_of_getElem? (i := 673) (by decide +kernel)⟩
theorem lw_p17 : lw_okq (⟨"MayBeRead$Unlike", "arePartedBy", "(III)Z"⟩, 2) := ⟨⟨by decide +kernel, by decide +kernel⟩, List.mem_of_getElem? (i := 136) (by decide +kernel), List.mem_of_getElem? (i := 732) (by decide +kernel), List.mem_of_getElem? (i := 733) (by decide +kernel)⟩
theorem lw_p18 : lw_okq (⟨"MayBeRead$Unlike", "isThirdFor", "(II)Z"⟩, 2) := ⟨⟨by decide +kernel, by decide +kernel⟩, List.mem_of_getElem? (i := 136) (by decide +kernel), List.mem_of_getElem? (i := 737) (by decide +kernel), List.mem_of_getElem? (i := 738) (by decide +kernel)⟩
theorem lw_p19 : lw_okq (⟨"MayBeRead$Mender", "sharedWith", "(I)I"⟩, 4) := ⟨⟨by decide +kernel, by decide +kernel⟩, List.mem_of_getElem? (i := 178) (by decide +kernel), List.mem_of_getElem? (i := 778) (by decide +kernel), List.mem_of_getElem? (i := 779) (by decide +kernel)⟩
theorem lw_p20 : lw_okq (⟨"MayBeReadModel", "finds", "()V"⟩, 39) := ⟨⟨by decide +kernel, by decide +kernel⟩, List.mem_of_getElem? (i := 860) (by decide +kernel), List.mem_of_getElem? (i := 866) (by decide +kernel), List.mem_of_getElem? (i := 867) (by decide +kernel)⟩
theorem lw_p21 : lw_okq (⟨"MayBeReadModel", "findWays", "()V"⟩, 39) := ⟨⟨by decide +kernel, by decide +kernel⟩, List.mem_of_getElem? (i := 860) (by decide +kernel), List.mem_of_getElem? (i := 873) (by decide +kernel), List.mem_of_getElem? (i := 874) (by decide +kernel)⟩
theorem lw_p22 : lw_okq (⟨"MayBeReadModel", "firstWays", "(II)J"⟩, 39) := ⟨⟨by decide +kernel, by decide +kernel⟩, List.mem_of_getElem? (i := 860) (by decide +kernel), List.mem_of_getElem? (i := 877) (by decide +kernel), List.mem_of_getElem? (i := 878) (by decide +kernel)⟩
theorem lw_p23 : lw_okq (⟨"MayBeReadModel", "waysOf", "(II)J"⟩, 39) := ⟨⟨by decide +kernel, by decide +kernel⟩, List.mem_of_getElem? (i := 860) (by decide +kernel), List.mem_of_getElem? (i := 884) (by decide +kernel), List.mem_of_getElem? (i := 885) (by decide +kernel)⟩
theorem lw_p24 : lw_okq (⟨"MayBeReadModel", "isBracketed", "(II)Z"⟩, 39) := ⟨⟨by decide +kernel, by decide +kernel⟩, List.mem_of_getElem? (i := 860) (by decide +kernel), List.mem_of_getElem? (i := 888) (by decide +kernel), List.mem_of_getElem? (i := 889) (by decide +kernel)⟩
theorem lw_p25 : lw_okq (⟨"MayBeReadModel", "meansNow", "(I)J"⟩, 39) := ⟨⟨by decide +kernel, by decide +kernel⟩, List.mem_of_getElem? (i := 860) (by decide +kernel), List.mem_of_getElem? (i := 900) (by decide +kernel), List.mem_of_getElem? (i := 901) (by decide +kernel)⟩
theorem lw_p26 : lw_okq (⟨"MayBeReadModel", "meansRun", "(IIJZZZI)J"⟩, 39) := ⟨⟨by decide +kernel, by decide +kernel⟩, List.mem_of_getElem? (i := 860) (by decide +kernel), List.mem_of_getElem? (i := 904) (by decide +kernel), List.mem_of_getElem? (i := 905) (by decide +kernel)⟩
theorem lw_p27 : lw_okq (⟨"MayBeReadModel", "notes", "(III)V"⟩, 39) := ⟨⟨by decide +kernel, by decide +kernel⟩, List.mem_of_getElem? (i := 860) (by decide +kernel), List.mem_of_getElem? (i := 908) (by decide +kernel), List.mem_of_getElem? (i := 909) (by decide +kernel)⟩
theorem lw_p28 : lw_okq (⟨"MayBeReadModel", "breaks", "(ZI)V"⟩, 39) := ⟨⟨by decide +kernel, by decide +kernel⟩, List.mem_of_getElem? (i := 860) (by decide +kernel), List.mem_of_getElem? (i := 913) (by decide +kernel), List.mem_of_getElem? (i := 914) (by decide +kernel)⟩
theorem lw_p29 : lw_okq (⟨"MayBeReadModel", "idleIn", "(I)I"⟩, 39) := ⟨⟨by decide +kernel, by decide +kernel⟩, List.mem_of_getElem? (i := 860) (by decide +kernel), List.mem_of_getElem? (i := 918) (by decide +kernel), List.mem_of_getElem? (i := 919) (by decide +kernel)⟩
theorem lw_p30 : lw_okq (⟨"MayBeReadModel", "refuse", "(I)I"⟩, 39) := ⟨⟨by decide +kernel, by decide +kernel⟩, List.mem_of_getElem? (i := 860) (by decide +kernel), List.mem_of_getElem? (i := 1045) (by decide +kernel), List.mem_of_getElem? (i := 1046) (by decide +kernel)⟩
theorem lw_p31 : lw_okq (⟨"MayBeReadModel", "wrong", "(I)I"⟩, 39) := ⟨⟨by decide +kernel, by decide +kernel⟩, List.mem_of_getElem? (i := 860) (by decide +kernel), List.mem_of_getElem? (i := 1069) (by decide +kernel), List.mem_of_getElem? (i := 1070) (by decide +kernel)⟩
def lw_privs_2 : List (MethodName × Nat) := [(⟨"MayBeRead$Sieve", "keepMet", "(LMayBeRead$Listing;I)V"⟩, 3), (⟨"MayBeRead$Unlike", "arePartedBy", "(III)Z"⟩, 2), (⟨"MayBeRead$Unlike", "isThirdFor", "(II)Z"⟩, 2), (⟨"MayBeRead$Mender", "sharedWith", "(I)I"⟩, 4), (⟨"MayBeReadModel", "finds", "()V"⟩, 39), (⟨"MayBeReadModel", "findWays", "()V"⟩, 39), (⟨"MayBeReadModel", "firstWays", "(II)J"⟩, 39), (⟨"MayBeReadModel", "waysOf", "(II)J"⟩, 39), (⟨"MayBeReadModel", "isBracketed", "(II)Z"⟩, 39), (⟨"MayBeReadModel", "meansNow", "(I)J"⟩, 39), (⟨"MayBeReadModel", "meansRun", "(IIJZZZI)J"⟩, 39), (⟨"MayBeReadModel", "notes", "(III)V"⟩, 39), (⟨"MayBeReadModel", "breaks", "(ZI)V"⟩, 39), (⟨"MayBeReadModel", "idleIn", "(I)I"⟩, 39), (⟨"MayBeReadModel", "refuse", "(I)I"⟩, 39), (⟨"MayBeReadModel", "wrong", "(I)I"⟩, 39)]
theorem lw_r2 : ∀ q ∈ lw_privs_2, lw_okq q := List.forall_mem_cons.mpr ⟨lw_p16, List.forall_mem_cons.mpr ⟨lw_p17, List.forall_mem_cons.mpr ⟨lw_p18, List.forall_mem_cons.mpr ⟨lw_p19, List.forall_mem_cons.mpr ⟨lw_p20, List.forall_mem_cons.mpr ⟨lw_p21, List.forall_mem_cons.mpr ⟨lw_p22, List.forall_mem_cons.mpr ⟨lw_p23, List.forall_mem_cons.mpr ⟨lw_p24, List.forall_mem_cons.mpr ⟨lw_p25, List.forall_mem_cons.mpr ⟨lw_p26, List.forall_mem_cons.mpr ⟨lw_p27, List.forall_mem_cons.mpr ⟨lw_p28, List.forall_mem_cons.mpr ⟨lw_p29, List.forall_mem_cons.mpr ⟨lw_p30, List.forall_mem_cons.mpr ⟨lw_p31, fun _ h => absurd h List.not_mem_nil⟩⟩⟩⟩⟩⟩⟩⟩⟩⟩⟩⟩⟩⟩⟩⟩
theorem lw_p32 : lw_okq (⟨"MayBeReadModel", "does", "(II)Z"⟩, 39) := ⟨⟨by decide +kernel, by decide +kernel⟩, List.mem_of_getElem? (i := 860) (by decide +kernel), List.mem_of_getElem? (i := 1085) (by decide +kernel), List.mem_of_getElem? (i := 1086) (by decide +kernel)⟩
theorem lw_p33 : lw_okq (⟨"MayBeReadModel", "lettingOf", "(I)I"⟩, 39) := ⟨⟨by decide +kernel, by decide +kernel⟩, List.mem_of_getElem? (i := 860) (by decide +kernel), List.mem_of_getElem? (i := 1093) (by decide +kernel), List.mem_of_getElem? (i := 1094) (by decide +kernel)⟩
theorem lw_p34 : lw_okq (⟨"MayBeReadModel", "findUnlike", "()V"⟩, 39) := ⟨⟨by decide +kernel, by decide +kernel⟩, List.mem_of_getElem? (i := 860) (by decide +kernel), List.mem_of_getElem? (i := 1109) (by decide +kernel), List.mem_of_getElem? (i := 1110) (by decide +kernel)⟩
theorem lw_p35 : lw_okq (⟨"MayBeReadModel", "findOver", "([ZI)V"⟩, 39) := ⟨⟨by decide +kernel, by decide +kernel⟩, List.mem_of_getElem? (i := 860) (by decide +kernel), List.mem_of_getElem? (i := 1141) (by decide +kernel), List.mem_of_getElem? (i := 1142) (by decide +kernel)⟩
theorem lw_p36 : lw_okq (⟨"MayBeReadModel", "isPartedBy", "(IIJ)Z"⟩, 39) := ⟨⟨by decide +kernel, by decide +kernel⟩, List.mem_of_getElem? (i := 860) (by decide +kernel), List.mem_of_getElem? (i := 1165) (by decide +kernel), List.mem_of_getElem? (i := 1166) (by decide +kernel)⟩
theorem lw_p37 : lw_okq (⟨"MayBeReadModel", "isParted", "(J)Z"⟩, 39) := ⟨⟨by decide +kernel, by decide +kernel⟩, List.mem_of_getElem? (i := 860) (by decide +kernel), List.mem_of_getElem? (i := 1169) (by decide +kernel), List.mem_of_getElem? (i := 1170) (by decide +kernel)⟩
theorem lw_p38 : lw_okq (⟨"MayBeReadModel", "isMended", "(III)Z"⟩, 39) := ⟨⟨by decide +kernel, by decide +kernel⟩, List.mem_of_getElem? (i := 860) (by decide +kernel), List.mem_of_getElem? (i := 1181) (by decide +kernel), List.mem_of_getElem? (i := 1182) (by decide +kernel)⟩
theorem lw_p39 : lw_okq (⟨"MayBeReadModel", "has", "(III)Z"⟩, 39) := ⟨⟨by decide +kernel, by decide +kernel⟩, List.mem_of_getElem? (i := 860) (by decide +kernel), List.mem_of_getElem? (i := 1185) (by decide +kernel), List.mem_of_getElem? (i := 1186) (by decide +kernel)⟩
theorem lw_p40 : lw_okq (⟨"MayBeReadModel", "isMark", "(II)Z"⟩, 39) := ⟨⟨by decide +kernel, by decide +kernel⟩, List.mem_of_getElem? (i := 860) (by decide +kernel), List.mem_of_getElem? (i := 1189) (by decide +kernel), List.mem_of_getElem? (i := 1190) (by decide +kernel)⟩
theorem lw_p41 : lw_okq (⟨"MayBeReadModel", "servesBy", "(I)I"⟩, 39) := ⟨⟨by decide +kernel, by decide +kernel⟩, List.mem_of_getElem? (i := 860) (by decide +kernel), List.mem_of_getElem? (i := 1205) (by decide +kernel), List.mem_of_getElem? (i := 1206) (by decide +kernel)⟩
def lw_privs_3 : List (MethodName × Nat) := [(⟨"MayBeReadModel", "does", "(II)Z"⟩, 39), (⟨"MayBeReadModel", "lettingOf", "(I)I"⟩, 39), (⟨"MayBeReadModel", "findUnlike", "()V"⟩, 39), (⟨"MayBeReadModel", "findOver", "([ZI)V"⟩, 39), (⟨"MayBeReadModel", "isPartedBy", "(IIJ)Z"⟩, 39), (⟨"MayBeReadModel", "isParted", "(J)Z"⟩, 39), (⟨"MayBeReadModel", "isMended", "(III)Z"⟩, 39), (⟨"MayBeReadModel", "has", "(III)Z"⟩, 39), (⟨"MayBeReadModel", "isMark", "(II)Z"⟩, 39), (⟨"MayBeReadModel", "servesBy", "(I)I"⟩, 39)]
theorem lw_r3 : ∀ q ∈ lw_privs_3, lw_okq q := List.forall_mem_cons.mpr ⟨lw_p32, List.forall_mem_cons.mpr ⟨lw_p33, List.forall_mem_cons.mpr ⟨lw_p34, List.forall_mem_cons.mpr ⟨lw_p35, List.forall_mem_cons.mpr ⟨lw_p36, List.forall_mem_cons.mpr ⟨lw_p37, List.forall_mem_cons.mpr ⟨lw_p38, List.forall_mem_cons.mpr ⟨lw_p39, List.forall_mem_cons.mpr ⟨lw_p40, List.forall_mem_cons.mpr ⟨lw_p41, fun _ h => absurd h List.not_mem_nil⟩⟩⟩⟩⟩⟩⟩⟩⟩⟩
def lw_privs : List (MethodName × Nat) := lw_privs_1 ++ (lw_privs_2 ++ (lw_privs_3))
def lw_tbl : List Cond := k2_sels lw_privs ++ tables_1
theorem lw_privs_ok : ∀ q ∈ lw_privs, lw_okq q := by
  show ∀ q ∈ lw_privs_1 ++ (lw_privs_2 ++ (lw_privs_3)), lw_okq q
  exact List.forall_mem_append.mpr ⟨lw_r1, List.forall_mem_append.mpr ⟨lw_r2, lw_r3⟩⟩

def RX0 : String := "MayBeRead$Aims"
def TX0 : u_T := fun k => match k with
  | 0 => ("MayBeRead$Aims", "sets", "[I", true)
  | 1 => ("MayBeRead$Aims", "weights", "[I", true)
  | _ => ("MayBeRead$Aims", "size", "I", false)
def tyX0 : Nat → FieldType := fun k => match k with
  | 0 => .array .int
  | 1 => .array .int
  | _ => .int
abbrev wsX00 : List Cond := u_ws RX0 TX0 3
theorem nmX0 : ∀ a, a < 3 → ∀ b, b < 3 → a ≠ b → (TX0 a).2.1 ≠ (TX0 b).2.1 := by decide +kernel
theorem tyX0_ok : ∀ k, k < 3 → parseFieldDescriptor (TX0 k).2.2.1 = some (tyX0 k) := by decide +kernel
abbrev cX0_init : ByteArray := prog_2_method_1_code
def yX0_init : MethodName := ⟨RX0, "<init>", "()V"⟩
abbrev cX0_size : ByteArray := prog_2_method_2_code
def yX0_size : MethodName := ⟨RX0, "size", "()I"⟩
abbrev cX0_add : ByteArray := prog_2_method_3_code
def yX0_add : MethodName := ⟨RX0, "add", "(II)V"⟩
abbrev cX0_become : ByteArray := prog_2_method_4_code
def yX0_become : MethodName := ⟨RX0, "become", "(LMayBeRead$Aims;)V"⟩
abbrev cX0_servedBy : ByteArray := prog_2_method_5_code
def yX0_servedBy : MethodName := ⟨RX0, "servedBy", "(J)I"⟩
def RX1 : String := "MayBeRead$Image"
def TX1 : u_T := fun k => match k with
  | 0 => ("MayBeRead$Image", "words", "LMayBeRead$Words;", true)
  | 1 => ("MayBeRead$Image", "order", "LMayBeRead$Order;", true)
  | 2 => ("MayBeRead$Image", "aims", "LMayBeRead$Aims;", true)
  | _ => ("MayBeRead$Image", "there", "Z", false)
def tyX1 : Nat → FieldType := fun k => match k with
  | 0 => .object "MayBeRead$Words"
  | 1 => .object "MayBeRead$Order"
  | 2 => .object "MayBeRead$Aims"
  | _ => .boolean
abbrev wsX10 : List Cond := u_ws RX1 TX1 4
theorem nmX1 : ∀ a, a < 4 → ∀ b, b < 4 → a ≠ b → (TX1 a).2.1 ≠ (TX1 b).2.1 := by decide +kernel
theorem tyX1_ok : ∀ k, k < 4 → parseFieldDescriptor (TX1 k).2.2.1 = some (tyX1 k) := by decide +kernel
abbrev cX1_init : ByteArray := prog_3_method_1_code
def yX1_init : MethodName := ⟨RX1, "<init>", "()V"⟩
abbrev cX1_isThere : ByteArray := prog_3_method_2_code
def yX1_isThere : MethodName := ⟨RX1, "isThere", "()Z"⟩
abbrev cX1_words : ByteArray := prog_3_method_3_code
def yX1_words : MethodName := ⟨RX1, "words", "()LMayBeRead$Words;"⟩
abbrev cX1_order : ByteArray := prog_3_method_4_code
def yX1_order : MethodName := ⟨RX1, "order", "()LMayBeRead$Order;"⟩
abbrev cX1_aims : ByteArray := prog_3_method_5_code
def yX1_aims : MethodName := ⟨RX1, "aims", "()LMayBeRead$Aims;"⟩
abbrev cX1_take : ByteArray := prog_3_method_6_code
def yX1_take : MethodName := ⟨RX1, "take", "(LMayBeRead$Words;LMayBeRead$Order;LMayBeRead$Aims;)V"⟩
def RX2 : String := "MayBeRead$Listing"
def TX2 : u_T := fun k => match k with
  | 0 => ("MayBeRead$Listing", "sense", "LMayBeRead$Sense;", true)
  | 1 => ("MayBeRead$Listing", "meanings", "[J", true)
  | 2 => ("MayBeRead$Listing", "idles", "[I", true)
  | 3 => ("MayBeRead$Listing", "mets", "[I", true)
  | 4 => ("MayBeRead$Listing", "size", "I", false)
  | _ => ("MayBeRead$Listing", "made", "Z", false)
def tyX2 : Nat → FieldType := fun k => match k with
  | 0 => .object "MayBeRead$Sense"
  | 1 => .array .long
  | 2 => .array .int
  | 3 => .array .int
  | 4 => .int
  | _ => .boolean
abbrev wsX20 : List Cond := u_ws RX2 TX2 6
theorem nmX2 : ∀ a, a < 6 → ∀ b, b < 6 → a ≠ b → (TX2 a).2.1 ≠ (TX2 b).2.1 := by decide +kernel
theorem tyX2_ok : ∀ k, k < 6 → parseFieldDescriptor (TX2 k).2.2.1 = some (tyX2 k) := by decide +kernel
abbrev cX2_init : ByteArray := prog_4_method_1_code
def yX2_init : MethodName := ⟨RX2, "<init>", "()V"⟩
abbrev cX2_isMade : ByteArray := prog_4_method_2_code
def yX2_isMade : MethodName := ⟨RX2, "isMade", "()Z"⟩
abbrev cX2_forget : ByteArray := prog_4_method_3_code
def yX2_forget : MethodName := ⟨RX2, "forget", "()V"⟩
abbrev cX2_make : ByteArray := prog_4_method_4_code
def yX2_make : MethodName := ⟨RX2, "make", "(LMayBeRead$Words;LMayBeRead$Ways;LMayBeRead$Tree;I)V"⟩
abbrev cX2_size : ByteArray := prog_4_method_5_code
def yX2_size : MethodName := ⟨RX2, "size", "()I"⟩
abbrev cX2_meaning : ByteArray := prog_4_method_6_code
def yX2_meaning : MethodName := ⟨RX2, "meaning", "(I)J"⟩
abbrev cX2_idlePlaces : ByteArray := prog_4_method_7_code
def yX2_idlePlaces : MethodName := ⟨RX2, "idlePlaces", "(I)I"⟩
abbrev cX2_isMet : ByteArray := prog_4_method_8_code
def yX2_isMet : MethodName := ⟨RX2, "isMet", "(II)Z"⟩
abbrev cX2_lettingAt : ByteArray := prog_4_method_9_code
def yX2_lettingAt : MethodName := ⟨RX2, "lettingAt", "(I)I"⟩
abbrev cX2_letByAll : ByteArray := prog_4_method_10_code
def yX2_letByAll : MethodName := ⟨RX2, "letByAll", "()J"⟩
abbrev cX2_barredByAll : ByteArray := prog_4_method_11_code
def yX2_barredByAll : MethodName := ⟨RX2, "barredByAll", "()J"⟩
abbrev cX2_idleInAll : ByteArray := prog_4_method_12_code
def yX2_idleInAll : MethodName := ⟨RX2, "idleInAll", "()I"⟩
abbrev cX2_areAtOdds : ByteArray := prog_4_method_13_code
def yX2_areAtOdds : MethodName := ⟨RX2, "areAtOdds", "(II)Z"⟩
abbrev cX2_evenestCase : ByteArray := prog_4_method_14_code
def yX2_evenestCase : MethodName := ⟨RX2, "evenestCase", "()I"⟩
def RX3 : String := "MayBeRead$Mender"
def TX3 : u_T := fun k => match k with
  | 0 => ("MayBeRead$Mender", "nodeBits", "[I", true)
  | 1 => ("MayBeRead$Mender", "shared", "[I", true)
  | 2 => ("MayBeRead$Mender", "size", "I", false)
  | _ => ("MayBeRead$Mender", "every", "I", false)
def tyX3 : Nat → FieldType := fun k => match k with
  | 0 => .array .int
  | 1 => .array .int
  | 2 => .int
  | _ => .int
abbrev wsX30 : List Cond := u_ws RX3 TX3 4
theorem nmX3 : ∀ a, a < 4 → ∀ b, b < 4 → a ≠ b → (TX3 a).2.1 ≠ (TX3 b).2.1 := by decide +kernel
theorem tyX3_ok : ∀ k, k < 4 → parseFieldDescriptor (TX3 k).2.2.1 = some (tyX3 k) := by decide +kernel
abbrev cX3_init : ByteArray := prog_5_method_1_code
def yX3_init : MethodName := ⟨RX3, "<init>", "()V"⟩
abbrev cX3_begin : ByteArray := prog_5_method_2_code
def yX3_begin : MethodName := ⟨RX3, "begin", "(LMayBeRead$Tree;)V"⟩
abbrev cX3_hold : ByteArray := prog_5_method_3_code
def yX3_hold : MethodName := ⟨RX3, "hold", "(LMayBeRead$Tree;)V"⟩
abbrev cX3_fewestNodes : ByteArray := prog_5_method_4_code
def yX3_fewestNodes : MethodName := ⟨RX3, "fewestNodes", "()I"⟩
abbrev cX3_sharedWith : ByteArray := prog_5_method_5_code
def yX3_sharedWith : MethodName := ⟨RX3, "sharedWith", "(I)I"⟩
def RX4 : String := "MayBeRead$Order"
def TX4 : u_T := fun k => match k with
  | 0 => ("MayBeRead$Order", "rules", "[I", true)
  | _ => ("MayBeRead$Order", "size", "I", false)
def tyX4 : Nat → FieldType := fun k => match k with
  | 0 => .array .int
  | _ => .int
abbrev wsX40 : List Cond := u_ws RX4 TX4 2
theorem nmX4 : ∀ a, a < 2 → ∀ b, b < 2 → a ≠ b → (TX4 a).2.1 ≠ (TX4 b).2.1 := by decide +kernel
theorem tyX4_ok : ∀ k, k < 2 → parseFieldDescriptor (TX4 k).2.2.1 = some (tyX4 k) := by decide +kernel
abbrev cX4_init : ByteArray := prog_6_method_1_code
def yX4_init : MethodName := ⟨RX4, "<init>", "()V"⟩
abbrev cX4_size : ByteArray := prog_6_method_2_code
def yX4_size : MethodName := ⟨RX4, "size", "()I"⟩
abbrev cX4_at : ByteArray := prog_6_method_3_code
def yX4_at : MethodName := ⟨RX4, "at", "(I)I"⟩
abbrev cX4_clear : ByteArray := prog_6_method_4_code
def yX4_clear : MethodName := ⟨RX4, "clear", "()V"⟩
abbrev cX4_has : ByteArray := prog_6_method_5_code
def yX4_has : MethodName := ⟨RX4, "has", "(I)Z"⟩
abbrev cX4_add : ByteArray := prog_6_method_6_code
def yX4_add : MethodName := ⟨RX4, "add", "(I)V"⟩
abbrev cX4_become : ByteArray := prog_6_method_7_code
def yX4_become : MethodName := ⟨RX4, "become", "(LMayBeRead$Order;)V"⟩
def RX5 : String := "MayBeRead$Sense"
def TX5 : u_T := fun k => match k with
  | 0 => ("MayBeRead$Sense", "meanings", "[J", true)
  | 1 => ("MayBeRead$Sense", "weights", "[J", true)
  | 2 => ("MayBeRead$Sense", "bares", "[I", true)
  | 3 => ("MayBeRead$Sense", "idlePlaces", "I", false)
  | _ => ("MayBeRead$Sense", "metRules", "I", false)
def tyX5 : Nat → FieldType := fun k => match k with
  | 0 => .array .long
  | 1 => .array .long
  | 2 => .array .int
  | 3 => .int
  | _ => .int
abbrev wsX50 : List Cond := u_ws RX5 TX5 5
theorem nmX5 : ∀ a, a < 5 → ∀ b, b < 5 → a ≠ b → (TX5 a).2.1 ≠ (TX5 b).2.1 := by decide +kernel
theorem tyX5_ok : ∀ k, k < 5 → parseFieldDescriptor (TX5 k).2.2.1 = some (tyX5 k) := by decide +kernel
abbrev cX5_init : ByteArray := prog_7_method_1_code
def yX5_init : MethodName := ⟨RX5, "<init>", "()V"⟩
abbrev cX5_meaning : ByteArray := prog_7_method_2_code
def yX5_meaning : MethodName := ⟨RX5, "meaning", "()J"⟩
abbrev cX5_idlePlaces : ByteArray := prog_7_method_3_code
def yX5_idlePlaces : MethodName := ⟨RX5, "idlePlaces", "()I"⟩
abbrev cX5_metRules : ByteArray := prog_7_method_4_code
def yX5_metRules : MethodName := ⟨RX5, "metRules", "()I"⟩
abbrev cX5_weigh : ByteArray := prog_7_method_5_code
def yX5_weigh : MethodName := ⟨RX5, "weigh", "(LMayBeRead$Tree;LMayBeRead$Words;)V"⟩
abbrev cX5_meaningOf : ByteArray := prog_7_method_6_code
def yX5_meaningOf : MethodName := ⟨RX5, "meaningOf", "(LMayBeRead$Tree;LMayBeRead$Words;I)J"⟩
abbrev cX5_bareOf : ByteArray := prog_7_method_7_code
def yX5_bareOf : MethodName := ⟨RX5, "bareOf", "(LMayBeRead$Tree;I)I"⟩
abbrev cX5_findIdle : ByteArray := prog_7_method_8_code
def yX5_findIdle : MethodName := ⟨RX5, "findIdle", "(LMayBeRead$Tree;)V"⟩
abbrev cX5_brokenByWhole : ByteArray := prog_7_method_9_code
def yX5_brokenByWhole : MethodName := ⟨RX5, "brokenByWhole", "()I"⟩
abbrev cX5_brokenAt : ByteArray := prog_7_method_10_code
def yX5_brokenAt : MethodName := ⟨RX5, "brokenAt", "(LMayBeRead$Tree;LMayBeRead$Words;I)I"⟩
def RX6 : String := "MayBeRead$Sieve"
def TX6 : u_T := fun k => match k with
  | 0 => ("MayBeRead$Sieve", "kept", "[I", true)
  | 1 => ("MayBeRead$Sieve", "size", "I", false)
  | _ => ("MayBeRead$Sieve", "passed", "I", false)
def tyX6 : Nat → FieldType := fun k => match k with
  | 0 => .array .int
  | 1 => .int
  | _ => .int
abbrev wsX60 : List Cond := u_ws RX6 TX6 3
theorem nmX6 : ∀ a, a < 3 → ∀ b, b < 3 → a ≠ b → (TX6 a).2.1 ≠ (TX6 b).2.1 := by decide +kernel
theorem tyX6_ok : ∀ k, k < 3 → parseFieldDescriptor (TX6 k).2.2.1 = some (tyX6 k) := by decide +kernel
abbrev cX6_init : ByteArray := prog_8_method_1_code
def yX6_init : MethodName := ⟨RX6, "<init>", "()V"⟩
abbrev cX6_size : ByteArray := prog_8_method_2_code
def yX6_size : MethodName := ⟨RX6, "size", "()I"⟩
abbrev cX6_at : ByteArray := prog_8_method_3_code
def yX6_at : MethodName := ⟨RX6, "at", "(I)I"⟩
abbrev cX6_passed : ByteArray := prog_8_method_4_code
def yX6_passed : MethodName := ⟨RX6, "passed", "()I"⟩
abbrev cX6_sift : ByteArray := prog_8_method_5_code
def yX6_sift : MethodName := ⟨RX6, "sift", "(LMayBeRead$Listing;LMayBeRead$Order;I)V"⟩
abbrev cX6_keepMet : ByteArray := prog_8_method_6_code
def yX6_keepMet : MethodName := ⟨RX6, "keepMet", "(LMayBeRead$Listing;I)V"⟩
abbrev cX6_keepsAs : ByteArray := prog_8_method_7_code
def yX6_keepsAs : MethodName := ⟨RX6, "keepsAs", "(LMayBeRead$Sieve;)Z"⟩
def RX7 : String := "MayBeRead$Tree"
def TX7 : u_T := fun k => match k with
  | 0 => ("MayBeRead$Tree", "kinds", "[I", true)
  | 1 => ("MayBeRead$Tree", "froms", "[I", true)
  | 2 => ("MayBeRead$Tree", "ends", "[I", true)
  | 3 => ("MayBeRead$Tree", "behinds", "[I", true)
  | 4 => ("MayBeRead$Tree", "size", "I", false)
  | 5 => ("MayBeRead$Tree", "waitingFroms", "[I", true)
  | 6 => ("MayBeRead$Tree", "waitingEnds", "[I", true)
  | 7 => ("MayBeRead$Tree", "waitingNumbers", "[J", true)
  | 8 => ("MayBeRead$Tree", "waitingJoins", "[I", true)
  | _ => ("MayBeRead$Tree", "waiting", "I", false)
def tyX7 : Nat → FieldType := fun k => match k with
  | 0 => .array .int
  | 1 => .array .int
  | 2 => .array .int
  | 3 => .array .int
  | 4 => .int
  | 5 => .array .int
  | 6 => .array .int
  | 7 => .array .long
  | 8 => .array .int
  | _ => .int
abbrev wsX70 : List Cond := u_ws RX7 TX7 10
theorem nmX7 : ∀ a, a < 10 → ∀ b, b < 10 → a ≠ b → (TX7 a).2.1 ≠ (TX7 b).2.1 := by decide +kernel
theorem tyX7_ok : ∀ k, k < 10 → parseFieldDescriptor (TX7 k).2.2.1 = some (tyX7 k) := by decide +kernel
abbrev cX7_init : ByteArray := prog_9_method_1_code
def yX7_init : MethodName := ⟨RX7, "<init>", "()V"⟩
abbrev cX7_size : ByteArray := prog_9_method_2_code
def yX7_size : MethodName := ⟨RX7, "size", "()I"⟩
abbrev cX7_kind : ByteArray := prog_9_method_3_code
def yX7_kind : MethodName := ⟨RX7, "kind", "(I)I"⟩
abbrev cX7_from : ByteArray := prog_9_method_4_code
def yX7_from : MethodName := ⟨RX7, "from", "(I)I"⟩
abbrev cX7_end : ByteArray := prog_9_method_5_code
def yX7_end : MethodName := ⟨RX7, "end", "(I)I"⟩
abbrev cX7_inner : ByteArray := prog_9_method_6_code
def yX7_inner : MethodName := ⟨RX7, "inner", "(I)I"⟩
abbrev cX7_behind : ByteArray := prog_9_method_7_code
def yX7_behind : MethodName := ⟨RX7, "behind", "(I)I"⟩
abbrev cX7_grow : ByteArray := prog_9_method_8_code
def yX7_grow : MethodName := ⟨RX7, "grow", "(LMayBeRead$Words;LMayBeRead$Ways;J)V"⟩
abbrev cX7_await : ByteArray := prog_9_method_9_code
def yX7_await : MethodName := ⟨RX7, "await", "(IIJI)V"⟩
abbrev cX7_growFront : ByteArray := prog_9_method_10_code
def yX7_growFront : MethodName := ⟨RX7, "growFront", "(LMayBeRead$Words;IIJ)V"⟩
abbrev cX7_growJoin : ByteArray := prog_9_method_11_code
def yX7_growJoin : MethodName := ⟨RX7, "growJoin", "(LMayBeRead$Words;LMayBeRead$Ways;IIJ)V"⟩
abbrev cX7_addNode : ByteArray := prog_9_method_12_code
def yX7_addNode : MethodName := ⟨RX7, "addNode", "(III)V"⟩
def RX8 : String := "MayBeRead$Unlike"
def TX8 : u_T := fun k => match k with
  | 0 => ("MayBeRead$Unlike", "meanings", "[J", true)
  | _ => ("MayBeRead$Unlike", "size", "I", false)
def tyX8 : Nat → FieldType := fun k => match k with
  | 0 => .array .long
  | _ => .int
abbrev wsX80 : List Cond := u_ws RX8 TX8 2
theorem nmX8 : ∀ a, a < 2 → ∀ b, b < 2 → a ≠ b → (TX8 a).2.1 ≠ (TX8 b).2.1 := by decide +kernel
theorem tyX8_ok : ∀ k, k < 2 → parseFieldDescriptor (TX8 k).2.2.1 = some (tyX8 k) := by decide +kernel
abbrev cX8_init : ByteArray := prog_10_method_1_code
def yX8_init : MethodName := ⟨RX8, "<init>", "()V"⟩
abbrev cX8_size : ByteArray := prog_10_method_2_code
def yX8_size : MethodName := ⟨RX8, "size", "()I"⟩
abbrev cX8_gather : ByteArray := prog_10_method_3_code
def yX8_gather : MethodName := ⟨RX8, "gather", "(LMayBeRead$Listing;)V"⟩
abbrev cX8_has : ByteArray := prog_10_method_4_code
def yX8_has : MethodName := ⟨RX8, "has", "(J)Z"⟩
abbrev cX8_fewestCases : ByteArray := prog_10_method_5_code
def yX8_fewestCases : MethodName := ⟨RX8, "fewestCases", "()I"⟩
abbrev cX8_isThirdFor : ByteArray := prog_10_method_6_code
def yX8_isThirdFor : MethodName := ⟨RX8, "isThirdFor", "(II)Z"⟩
abbrev cX8_arePartedBy : ByteArray := prog_10_method_7_code
def yX8_arePartedBy : MethodName := ⟨RX8, "arePartedBy", "(III)Z"⟩
def RX9 : String := "MayBeRead$Ways"
def TX9 : u_T := fun k => match k with
  | 0 => ("MayBeRead$Ways", "numbers", "[J", true)
  | _ => ("MayBeRead$Ways", "frontNumbers", "[J", true)
def tyX9 : Nat → FieldType := fun k => match k with
  | 0 => .array .long
  | _ => .array .long
abbrev wsX90 : List Cond := u_ws RX9 TX9 2
theorem nmX9 : ∀ a, a < 2 → ∀ b, b < 2 → a ≠ b → (TX9 a).2.1 ≠ (TX9 b).2.1 := by decide +kernel
theorem tyX9_ok : ∀ k, k < 2 → parseFieldDescriptor (TX9 k).2.2.1 = some (tyX9 k) := by decide +kernel
abbrev cX9_init : ByteArray := prog_11_method_1_code
def yX9_init : MethodName := ⟨RX9, "<init>", "()V"⟩
abbrev cX9_number : ByteArray := prog_11_method_2_code
def yX9_number : MethodName := ⟨RX9, "number", "(II)J"⟩
abbrev cX9_frontNumber : ByteArray := prog_11_method_3_code
def yX9_frontNumber : MethodName := ⟨RX9, "frontNumber", "(II)J"⟩
abbrev cX9_reckon : ByteArray := prog_11_method_4_code
def yX9_reckon : MethodName := ⟨RX9, "reckon", "(LMayBeRead$Words;)V"⟩
abbrev cX9_fronted : ByteArray := prog_11_method_5_code
def yX9_fronted : MethodName := ⟨RX9, "fronted", "(IIII)J"⟩
abbrev cX9_parted : ByteArray := prog_11_method_6_code
def yX9_parted : MethodName := ⟨RX9, "parted", "(LMayBeRead$Words;II)J"⟩
def RX10 : String := "MayBeRead$Words"
def TX10 : u_T := fun k => match k with
  | 0 => ("MayBeRead$Words", "row", "[I", true)
  | _ => ("MayBeRead$Words", "size", "I", false)
def tyX10 : Nat → FieldType := fun k => match k with
  | 0 => .array .int
  | _ => .int
abbrev wsX100 : List Cond := u_ws RX10 TX10 2
theorem nmX10 : ∀ a, a < 2 → ∀ b, b < 2 → a ≠ b → (TX10 a).2.1 ≠ (TX10 b).2.1 := by decide +kernel
theorem tyX10_ok : ∀ k, k < 2 → parseFieldDescriptor (TX10 k).2.2.1 = some (tyX10 k) := by decide +kernel
abbrev cX10_init : ByteArray := prog_12_method_1_code
def yX10_init : MethodName := ⟨RX10, "<init>", "()V"⟩
abbrev cX10_size : ByteArray := prog_12_method_2_code
def yX10_size : MethodName := ⟨RX10, "size", "()I"⟩
abbrev cX10_at : ByteArray := prog_12_method_3_code
def yX10_at : MethodName := ⟨RX10, "at", "(I)I"⟩
abbrev cX10_clear : ByteArray := prog_12_method_4_code
def yX10_clear : MethodName := ⟨RX10, "clear", "()V"⟩
abbrev cX10_add : ByteArray := prog_12_method_5_code
def yX10_add : MethodName := ⟨RX10, "add", "(I)V"⟩
abbrev cX10_become : ByteArray := prog_12_method_6_code
def yX10_become : MethodName := ⟨RX10, "become", "(LMayBeRead$Words;)V"⟩
abbrev cX10_bracketed : ByteArray := prog_12_method_7_code
def yX10_bracketed : MethodName := ⟨RX10, "bracketed", "(LMayBeRead$Words;II)V"⟩
abbrev cX10_letters : ByteArray := prog_12_method_8_code
def yX10_letters : MethodName := ⟨RX10, "letters", "()I"⟩
abbrev cX10_mostOpen : ByteArray := prog_12_method_9_code
def yX10_mostOpen : MethodName := ⟨RX10, "mostOpen", "()I"⟩
abbrev cX10_closeAfter : ByteArray := prog_12_method_10_code
def yX10_closeAfter : MethodName := ⟨RX10, "closeAfter", "(I)I"⟩
abbrev cX10_fault : ByteArray := prog_12_method_11_code
def yX10_fault : MethodName := ⟨RX10, "fault", "()I"⟩
def RX11 : String := "MayBeRead"
def TX11 : u_T := fun k => match k with
  | 0 => ("MayBeRead", "tape", "LMayBeRead$Words;", true)
  | 1 => ("MayBeRead", "sentence", "LMayBeRead$Words;", true)
  | 2 => ("MayBeRead", "draft", "LMayBeRead$Words;", true)
  | 3 => ("MayBeRead", "ways", "LMayBeRead$Ways;", true)
  | 4 => ("MayBeRead", "tree", "LMayBeRead$Tree;", true)
  | 5 => ("MayBeRead", "listing", "LMayBeRead$Listing;", true)
  | 6 => ("MayBeRead", "unlikeOnes", "LMayBeRead$Unlike;", true)
  | 7 => ("MayBeRead", "order", "LMayBeRead$Order;", true)
  | 8 => ("MayBeRead", "sieve", "LMayBeRead$Sieve;", true)
  | 9 => ("MayBeRead", "otherSieve", "LMayBeRead$Sieve;", true)
  | 10 => ("MayBeRead", "mender", "LMayBeRead$Mender;", true)
  | 11 => ("MayBeRead", "aims", "LMayBeRead$Aims;", true)
  | 12 => ("MayBeRead", "taken", "LMayBeRead$Image;", true)
  | _ => ("MayBeRead", "refused", "[I", true)
def tyX11 : Nat → FieldType := fun k => match k with
  | 0 => .object "MayBeRead$Words"
  | 1 => .object "MayBeRead$Words"
  | 2 => .object "MayBeRead$Words"
  | 3 => .object "MayBeRead$Ways"
  | 4 => .object "MayBeRead$Tree"
  | 5 => .object "MayBeRead$Listing"
  | 6 => .object "MayBeRead$Unlike"
  | 7 => .object "MayBeRead$Order"
  | 8 => .object "MayBeRead$Sieve"
  | 9 => .object "MayBeRead$Sieve"
  | 10 => .object "MayBeRead$Mender"
  | 11 => .object "MayBeRead$Aims"
  | 12 => .object "MayBeRead$Image"
  | _ => .array .int
abbrev wsX110 : List Cond := u_ws RX11 TX11 14
theorem nmX11 : ∀ a, a < 14 → ∀ b, b < 14 → a ≠ b → (TX11 a).2.1 ≠ (TX11 b).2.1 := by decide +kernel
theorem tyX11_ok : ∀ k, k < 14 → parseFieldDescriptor (TX11 k).2.2.1 = some (tyX11 k) := by decide +kernel
abbrev cX11_init : ByteArray := prog_1_method_1_code
def yX11_init : MethodName := ⟨RX11, "<init>", "()V"⟩
abbrev cX11_feed : ByteArray := prog_1_method_2_code
def yX11_feed : MethodName := ⟨RX11, "feed", "(IJ)I"⟩
abbrev cX11_read : ByteArray := prog_1_method_3_code
def yX11_read : MethodName := ⟨RX11, "read", "()I"⟩
abbrev cX11_wordAt : ByteArray := prog_1_method_4_code
def yX11_wordAt : MethodName := ⟨RX11, "wordAt", "(I)I"⟩
abbrev cX11_readings : ByteArray := prog_1_method_5_code
def yX11_readings : MethodName := ⟨RX11, "readings", "()J"⟩
abbrev cX11_nodes : ByteArray := prog_1_method_6_code
def yX11_nodes : MethodName := ⟨RX11, "nodes", "(I)I"⟩
abbrev cX11_node : ByteArray := prog_1_method_7_code
def yX11_node : MethodName := ⟨RX11, "node", "(III)I"⟩
abbrev cX11_means : ByteArray := prog_1_method_8_code
def yX11_means : MethodName := ⟨RX11, "means", "(I)J"⟩
abbrev cX11_lets : ByteArray := prog_1_method_9_code
def yX11_lets : MethodName := ⟨RX11, "lets", "(II)I"⟩
abbrev cX11_map : ByteArray := prog_1_method_10_code
def yX11_map : MethodName := ⟨RX11, "map", "(I)I"⟩
abbrev cX11_all : ByteArray := prog_1_method_11_code
def yX11_all : MethodName := ⟨RX11, "all", "(Z)J"⟩
abbrev cX11_same : ByteArray := prog_1_method_12_code
def yX11_same : MethodName := ⟨RX11, "same", "(II)I"⟩
abbrev cX11_unlike : ByteArray := prog_1_method_13_code
def yX11_unlike : MethodName := ⟨RX11, "unlike", "()I"⟩
abbrev cX11_part : ByteArray := prog_1_method_14_code
def yX11_part : MethodName := ⟨RX11, "part", "(II)I"⟩
abbrev cX11_idle : ByteArray := prog_1_method_15_code
def yX11_idle : MethodName := ⟨RX11, "idle", "(I)I"⟩
abbrev cX11_needless : ByteArray := prog_1_method_16_code
def yX11_needless : MethodName := ⟨RX11, "needless", "()I"⟩
abbrev cX11_meets : ByteArray := prog_1_method_17_code
def yX11_meets : MethodName := ⟨RX11, "meets", "(II)I"⟩
abbrev cX11_choose : ByteArray := prog_1_method_18_code
def yX11_choose : MethodName := ⟨RX11, "choose", "(I)I"⟩
abbrev cX11_unchoose : ByteArray := prog_1_method_19_code
def yX11_unchoose : MethodName := ⟨RX11, "unchoose", "()I"⟩
abbrev cX11_leftOver : ByteArray := prog_1_method_20_code
def yX11_leftOver : MethodName := ⟨RX11, "leftOver", "(I)I"⟩
abbrev cX11_passedOver : ByteArray := prog_1_method_21_code
def yX11_passedOver : MethodName := ⟨RX11, "passedOver", "()I"⟩
abbrev cX11_quarrel : ByteArray := prog_1_method_22_code
def yX11_quarrel : MethodName := ⟨RX11, "quarrel", "(II)I"⟩
abbrev cX11_hangs : ByteArray := prog_1_method_23_code
def yX11_hangs : MethodName := ⟨RX11, "hangs", "()I"⟩
abbrev cX11_test : ByteArray := prog_1_method_24_code
def yX11_test : MethodName := ⟨RX11, "test", "()I"⟩
abbrev cX11_fewest : ByteArray := prog_1_method_25_code
def yX11_fewest : MethodName := ⟨RX11, "fewest", "()I"⟩
abbrev cX11_bracket : ByteArray := prog_1_method_26_code
def yX11_bracket : MethodName := ⟨RX11, "bracket", "(II)I"⟩
abbrev cX11_mend : ByteArray := prog_1_method_27_code
def yX11_mend : MethodName := ⟨RX11, "mend", "(I)I"⟩
abbrev cX11_aim : ByteArray := prog_1_method_28_code
def yX11_aim : MethodName := ⟨RX11, "aim", "(II)I"⟩
abbrev cX11_serves : ByteArray := prog_1_method_29_code
def yX11_serves : MethodName := ⟨RX11, "serves", "(I)I"⟩
abbrev cX11_best : ByteArray := prog_1_method_30_code
def yX11_best : MethodName := ⟨RX11, "best", "()I"⟩
abbrev cX11_image : ByteArray := prog_1_method_31_code
def yX11_image : MethodName := ⟨RX11, "image", "()I"⟩
abbrev cX11_on : ByteArray := prog_1_method_32_code
def yX11_on : MethodName := ⟨RX11, "on", "()I"⟩
abbrev cX11_count : ByteArray := prog_1_method_33_code
def yX11_count : MethodName := ⟨RX11, "count", "(I)I"⟩
abbrev cX11_refuse : ByteArray := prog_1_method_34_code
def yX11_refuse : MethodName := ⟨RX11, "refuse", "(I)I"⟩
abbrev cX11_takeSentence : ByteArray := prog_1_method_35_code
def yX11_takeSentence : MethodName := ⟨RX11, "takeSentence", "(LMayBeRead$Words;)V"⟩
abbrev cX11_spent : ByteArray := prog_1_method_36_code
def yX11_spent : MethodName := ⟨RX11, "spent", "()Z"⟩
abbrev cX11_noReading : ByteArray := prog_1_method_37_code
def yX11_noReading : MethodName := ⟨RX11, "noReading", "(I)Z"⟩
abbrev cX11_noCase : ByteArray := prog_1_method_38_code
def yX11_noCase : MethodName := ⟨RX11, "noCase", "(I)Z"⟩
abbrev cX11_noRule : ByteArray := prog_1_method_39_code
def yX11_noRule : MethodName := ⟨RX11, "noRule", "(I)Z"⟩
abbrev cX11_kindOf : ByteArray := prog_1_method_40_code
def yX11_kindOf : MethodName := ⟨RX11, "kindOf", "(I)I"⟩
abbrev cX11_casesOf : ByteArray := prog_1_method_41_code
def yX11_casesOf : MethodName := ⟨RX11, "casesOf", "(I)J"⟩
abbrev cX11_isJoin : ByteArray := prog_1_method_42_code
def yX11_isJoin : MethodName := ⟨RX11, "isJoin", "(I)Z"⟩
abbrev cX11_bit : ByteArray := prog_1_method_43_code
def yX11_bit : MethodName := ⟨RX11, "bit", "(JI)I"⟩
abbrev cX11_leastCase : ByteArray := prog_1_method_44_code
def yX11_leastCase : MethodName := ⟨RX11, "leastCase", "(J)I"⟩
abbrev cX11_look : ByteArray := prog_1_method_45_code
def yX11_look : MethodName := ⟨RX11, "look", "([II)I"⟩
abbrev cX11_look_ : ByteArray := prog_1_method_46_code
def yX11_look_ : MethodName := ⟨RX11, "look", "([JI)J"⟩
abbrev cX11_put : ByteArray := prog_1_method_47_code
def yX11_put : MethodName := ⟨RX11, "put", "([III)V"⟩
abbrev cX11_put_ : ByteArray := prog_1_method_48_code
def yX11_put_ : MethodName := ⟨RX11, "put", "([JIJ)V"⟩
def RX12 : String := "MayBeReadModel"
def TX12 : u_T := fun k => match k with
  | 0 => ("MayBeReadModel", "refusals", "[I", true)
  | 1 => ("MayBeReadModel", "word", "[I", true)
  | 2 => ("MayBeReadModel", "tape", "[I", true)
  | 3 => ("MayBeReadModel", "chosen", "[I", true)
  | 4 => ("MayBeReadModel", "aimCase", "[I", true)
  | 5 => ("MayBeReadModel", "aimWeight", "[I", true)
  | 6 => ("MayBeReadModel", "keptWord", "[I", true)
  | 7 => ("MayBeReadModel", "keptChosen", "[I", true)
  | 8 => ("MayBeReadModel", "keptCase", "[I", true)
  | 9 => ("MayBeReadModel", "keptWeight", "[I", true)
  | 10 => ("MayBeReadModel", "words", "I", false)
  | 11 => ("MayBeReadModel", "taped", "I", false)
  | 12 => ("MayBeReadModel", "choices", "I", false)
  | 13 => ("MayBeReadModel", "aims", "I", false)
  | 14 => ("MayBeReadModel", "keptWords", "I", false)
  | 15 => ("MayBeReadModel", "keptChoices", "I", false)
  | 16 => ("MayBeReadModel", "keptAims", "I", false)
  | 17 => ("MayBeReadModel", "isKept", "Z", false)
  | 18 => ("MayBeReadModel", "ways", "[J", true)
  | 19 => ("MayBeReadModel", "nodeKind", "[I", true)
  | 20 => ("MayBeReadModel", "nodeAt", "[I", true)
  | 21 => ("MayBeReadModel", "nodeLong", "[I", true)
  | 22 => ("MayBeReadModel", "nodes", "[I", true)
  | 23 => ("MayBeReadModel", "met", "[I", true)
  | 24 => ("MayBeReadModel", "idles", "[I", true)
  | 25 => ("MayBeReadModel", "meaning", "[J", true)
  | 26 => ("MayBeReadModel", "listed", "I", false)
  | 27 => ("MayBeReadModel", "broken", "I", false)
  | 28 => ("MayBeReadModel", "put", "I", false)
  | 29 => ("MayBeReadModel", "isListed", "Z", false)
  | 30 => ("MayBeReadModel", "isNoting", "Z", false)
  | 31 => ("MayBeReadModel", "putSo", "Z", false)
  | 32 => ("MayBeReadModel", "masks", "[J", true)
  | 33 => ("MayBeReadModel", "unlike", "[J", true)
  | 34 => ("MayBeReadModel", "unlikeMany", "I", false)
  | 35 => ("MayBeReadModel", "over", "[Z", true)
  | 36 => ("MayBeReadModel", "otherwise", "[Z", true)
  | 37 => ("MayBeReadModel", "passed", "I", false)
  | _ => ("MayBeReadModel", "made", "[I", true)
def tyX12 : Nat → FieldType := fun k => match k with
  | 0 => .array .int
  | 1 => .array .int
  | 2 => .array .int
  | 3 => .array .int
  | 4 => .array .int
  | 5 => .array .int
  | 6 => .array .int
  | 7 => .array .int
  | 8 => .array .int
  | 9 => .array .int
  | 10 => .int
  | 11 => .int
  | 12 => .int
  | 13 => .int
  | 14 => .int
  | 15 => .int
  | 16 => .int
  | 17 => .boolean
  | 18 => .array .long
  | 19 => .array .int
  | 20 => .array .int
  | 21 => .array .int
  | 22 => .array .int
  | 23 => .array .int
  | 24 => .array .int
  | 25 => .array .long
  | 26 => .int
  | 27 => .int
  | 28 => .int
  | 29 => .boolean
  | 30 => .boolean
  | 31 => .boolean
  | 32 => .array .long
  | 33 => .array .long
  | 34 => .int
  | 35 => .array .boolean
  | 36 => .array .boolean
  | 37 => .int
  | _ => .array .int
abbrev wsX120 : List Cond := u_ws RX12 TX12 39
theorem nmX12 : ∀ a, a < 39 → ∀ b, b < 39 → a ≠ b → (TX12 a).2.1 ≠ (TX12 b).2.1 := by decide +kernel
theorem tyX12_ok : ∀ k, k < 39 → parseFieldDescriptor (TX12 k).2.2.1 = some (tyX12 k) := by decide +kernel
abbrev cX12_init : ByteArray := prog_14_method_1_code
def yX12_init : MethodName := ⟨RX12, "<init>", "()V"⟩
abbrev cX12_refuse : ByteArray := prog_14_method_2_code
def yX12_refuse : MethodName := ⟨RX12, "refuse", "(I)I"⟩
abbrev cX12_isIn : ByteArray := prog_14_method_3_code
def yX12_isIn : MethodName := ⟨RX12, "isIn", "(II)Z"⟩
abbrev cX12_within : ByteArray := prog_14_method_4_code
def yX12_within : MethodName := ⟨RX12, "within", "(III)I"⟩
abbrev cX12_feed : ByteArray := prog_14_method_5_code
def yX12_feed : MethodName := ⟨RX12, "feed", "(IJ)I"⟩
abbrev cX12_isLetter : ByteArray := prog_14_method_6_code
def yX12_isLetter : MethodName := ⟨RX12, "isLetter", "(I)Z"⟩
abbrev cX12_kindOf : ByteArray := prog_14_method_7_code
def yX12_kindOf : MethodName := ⟨RX12, "kindOf", "(I)I"⟩
abbrev cX12_fault : ByteArray := prog_14_method_8_code
def yX12_fault : MethodName := ⟨RX12, "fault", "([II)I"⟩
abbrev cX12_read : ByteArray := prog_14_method_9_code
def yX12_read : MethodName := ⟨RX12, "read", "()I"⟩
abbrev cX12_wordAt : ByteArray := prog_14_method_10_code
def yX12_wordAt : MethodName := ⟨RX12, "wordAt", "(I)I"⟩
abbrev cX12_waysOf : ByteArray := prog_14_method_11_code
def yX12_waysOf : MethodName := ⟨RX12, "waysOf", "(II)J"⟩
abbrev cX12_isBracketed : ByteArray := prog_14_method_12_code
def yX12_isBracketed : MethodName := ⟨RX12, "isBracketed", "(II)Z"⟩
abbrev cX12_firstWays : ByteArray := prog_14_method_13_code
def yX12_firstWays : MethodName := ⟨RX12, "firstWays", "(II)J"⟩
abbrev cX12_findWays : ByteArray := prog_14_method_14_code
def yX12_findWays : MethodName := ⟨RX12, "findWays", "()V"⟩
abbrev cX12_readings : ByteArray := prog_14_method_15_code
def yX12_readings : MethodName := ⟨RX12, "readings", "()J"⟩
abbrev cX12_mask : ByteArray := prog_14_method_16_code
def yX12_mask : MethodName := ⟨RX12, "mask", "(I)J"⟩
abbrev cX12_notes : ByteArray := prog_14_method_17_code
def yX12_notes : MethodName := ⟨RX12, "notes", "(III)V"⟩
abbrev cX12_breaks : ByteArray := prog_14_method_18_code
def yX12_breaks : MethodName := ⟨RX12, "breaks", "(ZI)V"⟩
abbrev cX12_meansRun : ByteArray := prog_14_method_19_code
def yX12_meansRun : MethodName := ⟨RX12, "meansRun", "(IIJZZZI)J"⟩
abbrev cX12_meansNow : ByteArray := prog_14_method_20_code
def yX12_meansNow : MethodName := ⟨RX12, "meansNow", "(I)J"⟩
abbrev cX12_idleIn : ByteArray := prog_14_method_21_code
def yX12_idleIn : MethodName := ⟨RX12, "idleIn", "(I)I"⟩
abbrev cX12_finds : ByteArray := prog_14_method_22_code
def yX12_finds : MethodName := ⟨RX12, "finds", "()V"⟩
abbrev cX12_wrong : ByteArray := prog_14_method_23_code
def yX12_wrong : MethodName := ⟨RX12, "wrong", "(I)I"⟩
abbrev cX12_nodes : ByteArray := prog_14_method_24_code
def yX12_nodes : MethodName := ⟨RX12, "nodes", "(I)I"⟩
abbrev cX12_node : ByteArray := prog_14_method_25_code
def yX12_node : MethodName := ⟨RX12, "node", "(III)I"⟩
abbrev cX12_means : ByteArray := prog_14_method_26_code
def yX12_means : MethodName := ⟨RX12, "means", "(I)J"⟩
abbrev cX12_does : ByteArray := prog_14_method_27_code
def yX12_does : MethodName := ⟨RX12, "does", "(II)Z"⟩
abbrev cX12_lets : ByteArray := prog_14_method_28_code
def yX12_lets : MethodName := ⟨RX12, "lets", "(II)I"⟩
abbrev cX12_lettingOf : ByteArray := prog_14_method_29_code
def yX12_lettingOf : MethodName := ⟨RX12, "lettingOf", "(I)I"⟩
abbrev cX12_map : ByteArray := prog_14_method_30_code
def yX12_map : MethodName := ⟨RX12, "map", "(I)I"⟩
abbrev cX12_all : ByteArray := prog_14_method_31_code
def yX12_all : MethodName := ⟨RX12, "all", "(Z)J"⟩
abbrev cX12_same : ByteArray := prog_14_method_32_code
def yX12_same : MethodName := ⟨RX12, "same", "(II)I"⟩
abbrev cX12_findUnlike : ByteArray := prog_14_method_33_code
def yX12_findUnlike : MethodName := ⟨RX12, "findUnlike", "()V"⟩
abbrev cX12_unlike : ByteArray := prog_14_method_34_code
def yX12_unlike : MethodName := ⟨RX12, "unlike", "()I"⟩
abbrev cX12_part : ByteArray := prog_14_method_35_code
def yX12_part : MethodName := ⟨RX12, "part", "(II)I"⟩
abbrev cX12_idle : ByteArray := prog_14_method_36_code
def yX12_idle : MethodName := ⟨RX12, "idle", "(I)I"⟩
abbrev cX12_needless : ByteArray := prog_14_method_37_code
def yX12_needless : MethodName := ⟨RX12, "needless", "()I"⟩
abbrev cX12_meets : ByteArray := prog_14_method_38_code
def yX12_meets : MethodName := ⟨RX12, "meets", "(II)I"⟩
abbrev cX12_choose : ByteArray := prog_14_method_39_code
def yX12_choose : MethodName := ⟨RX12, "choose", "(I)I"⟩
abbrev cX12_unchoose : ByteArray := prog_14_method_40_code
def yX12_unchoose : MethodName := ⟨RX12, "unchoose", "()I"⟩
abbrev cX12_findOver : ByteArray := prog_14_method_41_code
def yX12_findOver : MethodName := ⟨RX12, "findOver", "([ZI)V"⟩
abbrev cX12_leftOver : ByteArray := prog_14_method_42_code
def yX12_leftOver : MethodName := ⟨RX12, "leftOver", "(I)I"⟩
abbrev cX12_passedOver : ByteArray := prog_14_method_43_code
def yX12_passedOver : MethodName := ⟨RX12, "passedOver", "()I"⟩
abbrev cX12_quarrel : ByteArray := prog_14_method_44_code
def yX12_quarrel : MethodName := ⟨RX12, "quarrel", "(II)I"⟩
abbrev cX12_hangs : ByteArray := prog_14_method_45_code
def yX12_hangs : MethodName := ⟨RX12, "hangs", "()I"⟩
abbrev cX12_test : ByteArray := prog_14_method_46_code
def yX12_test : MethodName := ⟨RX12, "test", "()I"⟩
abbrev cX12_isParted : ByteArray := prog_14_method_47_code
def yX12_isParted : MethodName := ⟨RX12, "isParted", "(J)Z"⟩
abbrev cX12_isPartedBy : ByteArray := prog_14_method_48_code
def yX12_isPartedBy : MethodName := ⟨RX12, "isPartedBy", "(IIJ)Z"⟩
abbrev cX12_fewest : ByteArray := prog_14_method_49_code
def yX12_fewest : MethodName := ⟨RX12, "fewest", "()I"⟩
abbrev cX12_bracket : ByteArray := prog_14_method_50_code
def yX12_bracket : MethodName := ⟨RX12, "bracket", "(II)I"⟩
abbrev cX12_has : ByteArray := prog_14_method_51_code
def yX12_has : MethodName := ⟨RX12, "has", "(III)Z"⟩
abbrev cX12_isMark : ByteArray := prog_14_method_52_code
def yX12_isMark : MethodName := ⟨RX12, "isMark", "(II)Z"⟩
abbrev cX12_isMended : ByteArray := prog_14_method_53_code
def yX12_isMended : MethodName := ⟨RX12, "isMended", "(III)Z"⟩
abbrev cX12_mend : ByteArray := prog_14_method_54_code
def yX12_mend : MethodName := ⟨RX12, "mend", "(I)I"⟩
abbrev cX12_aim : ByteArray := prog_14_method_55_code
def yX12_aim : MethodName := ⟨RX12, "aim", "(II)I"⟩
abbrev cX12_servesBy : ByteArray := prog_14_method_56_code
def yX12_servesBy : MethodName := ⟨RX12, "servesBy", "(I)I"⟩
abbrev cX12_serves : ByteArray := prog_14_method_57_code
def yX12_serves : MethodName := ⟨RX12, "serves", "(I)I"⟩
abbrev cX12_best : ByteArray := prog_14_method_58_code
def yX12_best : MethodName := ⟨RX12, "best", "()I"⟩
abbrev cX12_image : ByteArray := prog_14_method_59_code
def yX12_image : MethodName := ⟨RX12, "image", "()I"⟩
abbrev cX12_on : ByteArray := prog_14_method_60_code
def yX12_on : MethodName := ⟨RX12, "on", "()I"⟩
abbrev cX12_count : ByteArray := prog_14_method_61_code
def yX12_count : MethodName := ⟨RX12, "count", "(I)I"⟩
def RJ9 : String := "java/lang/Math"
def TJ9 : u_T := fun k => match k with
  | _ => ("", "", "", false)
def tyJ9 : Nat → FieldType := fun k => match k with
  | _ => .int
abbrev wsJ90 : List Cond := u_ws RJ9 TJ9 0
theorem nmJ9 : ∀ a, a < 0 → ∀ b, b < 0 → a ≠ b → (TJ9 a).2.1 ≠ (TJ9 b).2.1 := by decide +kernel
theorem tyJ9_ok : ∀ k, k < 0 → parseFieldDescriptor (TJ9 k).2.2.1 = some (tyJ9 k) := by decide +kernel
abbrev cJ9_abs_0f7a4 : ByteArray := prog_15_method_59_code
def yJ9_abs_0f7a4 : MethodName := ⟨RJ9, "abs", "(I)I"⟩
abbrev cJ9_max_7cf53 : ByteArray := prog_15_method_65_code
def yJ9_max_7cf53 : MethodName := ⟨RJ9, "max", "(II)I"⟩
def RL : String := "MayBeReadLaw"
abbrev cL_law : ByteArray := code
def yL_law : MethodName := ⟨RL, "law", "([I)Z"⟩
abbrev vwCl : List vw_C := [(RX0, TX0, 3), (RX1, TX1, 4), (RX2, TX2, 6), (RX3, TX3, 4), (RX4, TX4, 2), (RX5, TX5, 5), (RX6, TX6, 3), (RX7, TX7, 10), (RX8, TX8, 2), (RX9, TX9, 2), (RX10, TX10, 2), (RX11, TX11, 14), (RX12, TX12, 39)]
def WS : List Cond := lw_tbl.filter goodWord
theorem zIn {w : Cond} (i : Nat) (h : tables_1[i]? = some w) (hg : goodWord w = true) : w ∈ WS := List.mem_filter.mpr ⟨List.mem_append_right _ (List.mem_of_getElem? h), hg⟩
theorem zInP {w : Cond} (i : Nat) (h : (k2_sels lw_privs)[i]? = some w) (hg : goodWord w = true) : w ∈ WS := List.mem_filter.mpr ⟨List.mem_append_left _ (List.mem_of_getElem? h), hg⟩
theorem zGood {ws : List Cond} (h : ∀ w ∈ ws, w ∈ WS) : GoodIn WS ws := fun w hw => ⟨h w hw, good_of_word (List.mem_filter.mp (h w hw)).2⟩
end
section
theorem dX0_init_0 : decode cX0_init 0 = .ok (.aload_n 0, 1) := by decide +kernel
theorem dX0_init_1 : decode cX0_init 1 = .ok (.invokespecial 3, 3) := by decide +kernel
theorem dX0_init_4 : decode cX0_init 4 = .ok (.aload_n 0, 1) := by decide +kernel
theorem dX0_init_5 : decode cX0_init 5 = .ok (.bipush 8, 2) := by decide +kernel
theorem dX0_init_7 : decode cX0_init 7 = .ok (.newarray .int, 2) := by decide +kernel
theorem dX0_init_9 : decode cX0_init 9 = .ok (.putfield 9, 3) := by decide +kernel
theorem dX0_init_12 : decode cX0_init 12 = .ok (.aload_n 0, 1) := by decide +kernel
theorem dX0_init_13 : decode cX0_init 13 = .ok (.bipush 8, 2) := by decide +kernel
theorem dX0_init_15 : decode cX0_init 15 = .ok (.newarray .int, 2) := by decide +kernel
theorem dX0_init_17 : decode cX0_init 17 = .ok (.putfield 15, 3) := by decide +kernel
theorem dX0_init_20 : decode cX0_init 20 = .ok (.return_, 1) := by decide +kernel
theorem dX0_size_0 : decode cX0_size 0 = .ok (.aload_n 0, 1) := by decide +kernel
theorem dX0_size_1 : decode cX0_size 1 = .ok (.getfield 18, 3) := by decide +kernel
theorem dX0_size_4 : decode cX0_size 4 = .ok (.ireturn, 1) := by decide +kernel
theorem dX0_add_0 : decode cX0_add 0 = .ok (.aload_n 0, 1) := by decide +kernel
theorem dX0_add_1 : decode cX0_add 1 = .ok (.getfield 18, 3) := by decide +kernel
theorem dX0_add_4 : decode cX0_add 4 = .ok (.bipush 8, 2) := by decide +kernel
theorem dX0_add_6 : decode cX0_add 6 = .ok (.if_icmp .ge 37, 3) := by decide +kernel
theorem dX0_add_9 : decode cX0_add 9 = .ok (.aload_n 0, 1) := by decide +kernel
theorem dX0_add_10 : decode cX0_add 10 = .ok (.getfield 9, 3) := by decide +kernel
theorem dX0_add_13 : decode cX0_add 13 = .ok (.aload_n 0, 1) := by decide +kernel
theorem dX0_add_14 : decode cX0_add 14 = .ok (.getfield 18, 3) := by decide +kernel
theorem dX0_add_17 : decode cX0_add 17 = .ok (.iload_n 1, 1) := by decide +kernel
theorem dX0_add_18 : decode cX0_add 18 = .ok (.invokestatic 22, 3) := by decide +kernel
theorem dX0_add_21 : decode cX0_add 21 = .ok (.aload_n 0, 1) := by decide +kernel
theorem dX0_add_22 : decode cX0_add 22 = .ok (.getfield 15, 3) := by decide +kernel
theorem dX0_add_25 : decode cX0_add 25 = .ok (.aload_n 0, 1) := by decide +kernel
theorem dX0_add_26 : decode cX0_add 26 = .ok (.getfield 18, 3) := by decide +kernel
theorem dX0_add_29 : decode cX0_add 29 = .ok (.iload_n 2, 1) := by decide +kernel
theorem dX0_add_30 : decode cX0_add 30 = .ok (.invokestatic 22, 3) := by decide +kernel
theorem dX0_add_33 : decode cX0_add 33 = .ok (.aload_n 0, 1) := by decide +kernel
theorem dX0_add_34 : decode cX0_add 34 = .ok (.dup, 1) := by decide +kernel
theorem dX0_add_35 : decode cX0_add 35 = .ok (.getfield 18, 3) := by decide +kernel
theorem dX0_add_38 : decode cX0_add 38 = .ok (.iconst 1, 1) := by decide +kernel
theorem dX0_add_39 : decode cX0_add 39 = .ok (.iadd, 1) := by decide +kernel
theorem dX0_add_40 : decode cX0_add 40 = .ok (.putfield 18, 3) := by decide +kernel
theorem dX0_add_43 : decode cX0_add 43 = .ok (.return_, 1) := by decide +kernel
theorem dX0_become_0 : decode cX0_become 0 = .ok (.aload_n 0, 1) := by decide +kernel
theorem dX0_become_1 : decode cX0_become 1 = .ok (.iconst 0, 1) := by decide +kernel
theorem dX0_become_2 : decode cX0_become 2 = .ok (.putfield 18, 3) := by decide +kernel
theorem dX0_become_5 : decode cX0_become 5 = .ok (.iconst 0, 1) := by decide +kernel
theorem dX0_become_6 : decode cX0_become 6 = .ok (.istore_n 2, 1) := by decide +kernel
theorem dX0_become_7 : decode cX0_become 7 = .ok (.iload_n 2, 1) := by decide +kernel
theorem dX0_become_8 : decode cX0_become 8 = .ok (.aload_n 1, 1) := by decide +kernel
theorem dX0_become_9 : decode cX0_become 9 = .ok (.getfield 18, 3) := by decide +kernel
theorem dX0_become_12 : decode cX0_become 12 = .ok (.if_icmp .ge 29, 3) := by decide +kernel
theorem dX0_become_15 : decode cX0_become 15 = .ok (.aload_n 0, 1) := by decide +kernel
theorem dX0_become_16 : decode cX0_become 16 = .ok (.aload_n 1, 1) := by decide +kernel
theorem dX0_become_17 : decode cX0_become 17 = .ok (.getfield 9, 3) := by decide +kernel
theorem dX0_become_20 : decode cX0_become 20 = .ok (.iload_n 2, 1) := by decide +kernel
theorem dX0_become_21 : decode cX0_become 21 = .ok (.invokestatic 26, 3) := by decide +kernel
theorem dX0_become_24 : decode cX0_become 24 = .ok (.aload_n 1, 1) := by decide +kernel
theorem dX0_become_25 : decode cX0_become 25 = .ok (.getfield 15, 3) := by decide +kernel
theorem dX0_become_28 : decode cX0_become 28 = .ok (.iload_n 2, 1) := by decide +kernel
theorem dX0_become_29 : decode cX0_become 29 = .ok (.invokestatic 26, 3) := by decide +kernel
theorem dX0_become_32 : decode cX0_become 32 = .ok (.invokevirtual 30, 3) := by decide +kernel
theorem dX0_become_35 : decode cX0_become 35 = .ok (.iinc 2 1, 3) := by decide +kernel
theorem dX0_become_38 : decode cX0_become 38 = .ok (.goto (-31), 3) := by decide +kernel
theorem dX0_become_41 : decode cX0_become 41 = .ok (.return_, 1) := by decide +kernel
theorem dX0_servedBy_0 : decode cX0_servedBy 0 = .ok (.iconst 0, 1) := by decide +kernel
theorem dX0_servedBy_1 : decode cX0_servedBy 1 = .ok (.istore_n 3, 1) := by decide +kernel
theorem dX0_servedBy_2 : decode cX0_servedBy 2 = .ok (.iconst 0, 1) := by decide +kernel
theorem dX0_servedBy_3 : decode cX0_servedBy 3 = .ok (.istore 4, 2) := by decide +kernel
theorem dX0_servedBy_5 : decode cX0_servedBy 5 = .ok (.iload 4, 2) := by decide +kernel
theorem dX0_servedBy_7 : decode cX0_servedBy 7 = .ok (.aload_n 0, 1) := by decide +kernel
theorem dX0_servedBy_8 : decode cX0_servedBy 8 = .ok (.getfield 18, 3) := by decide +kernel
theorem dX0_servedBy_11 : decode cX0_servedBy 11 = .ok (.if_icmp .ge 35, 3) := by decide +kernel
theorem dX0_servedBy_14 : decode cX0_servedBy 14 = .ok (.iload_n 3, 1) := by decide +kernel
theorem dX0_servedBy_15 : decode cX0_servedBy 15 = .ok (.aload_n 0, 1) := by decide +kernel
theorem dX0_servedBy_16 : decode cX0_servedBy 16 = .ok (.getfield 15, 3) := by decide +kernel
theorem dX0_servedBy_19 : decode cX0_servedBy 19 = .ok (.iload 4, 2) := by decide +kernel
theorem dX0_servedBy_21 : decode cX0_servedBy 21 = .ok (.invokestatic 26, 3) := by decide +kernel
theorem dX0_servedBy_24 : decode cX0_servedBy 24 = .ok (.lload_n 1, 1) := by decide +kernel
theorem dX0_servedBy_25 : decode cX0_servedBy 25 = .ok (.aload_n 0, 1) := by decide +kernel
theorem dX0_servedBy_26 : decode cX0_servedBy 26 = .ok (.getfield 9, 3) := by decide +kernel
theorem dX0_servedBy_29 : decode cX0_servedBy 29 = .ok (.iload 4, 2) := by decide +kernel
theorem dX0_servedBy_31 : decode cX0_servedBy 31 = .ok (.invokestatic 26, 3) := by decide +kernel
theorem dX0_servedBy_34 : decode cX0_servedBy 34 = .ok (.invokestatic 34, 3) := by decide +kernel
theorem dX0_servedBy_37 : decode cX0_servedBy 37 = .ok (.imul, 1) := by decide +kernel
theorem dX0_servedBy_38 : decode cX0_servedBy 38 = .ok (.iadd, 1) := by decide +kernel
theorem dX0_servedBy_39 : decode cX0_servedBy 39 = .ok (.istore_n 3, 1) := by decide +kernel
theorem dX0_servedBy_40 : decode cX0_servedBy 40 = .ok (.iinc 4 1, 3) := by decide +kernel
theorem dX0_servedBy_43 : decode cX0_servedBy 43 = .ok (.goto (-38), 3) := by decide +kernel
theorem dX0_servedBy_46 : decode cX0_servedBy 46 = .ok (.iload_n 3, 1) := by decide +kernel
theorem dX0_servedBy_47 : decode cX0_servedBy 47 = .ok (.ireturn, 1) := by decide +kernel
theorem dX1_init_0 : decode cX1_init 0 = .ok (.aload_n 0, 1) := by decide +kernel
theorem dX1_init_1 : decode cX1_init 1 = .ok (.invokespecial 1, 3) := by decide +kernel
theorem dX1_init_4 : decode cX1_init 4 = .ok (.aload_n 0, 1) := by decide +kernel
theorem dX1_init_5 : decode cX1_init 5 = .ok (.new 7, 3) := by decide +kernel
theorem dX1_init_8 : decode cX1_init 8 = .ok (.dup, 1) := by decide +kernel
theorem dX1_init_9 : decode cX1_init 9 = .ok (.invokespecial 9, 3) := by decide +kernel
theorem dX1_init_12 : decode cX1_init 12 = .ok (.putfield 10, 3) := by decide +kernel
theorem dX1_init_15 : decode cX1_init 15 = .ok (.aload_n 0, 1) := by decide +kernel
theorem dX1_init_16 : decode cX1_init 16 = .ok (.new 16, 3) := by decide +kernel
theorem dX1_init_19 : decode cX1_init 19 = .ok (.dup, 1) := by decide +kernel
theorem dX1_init_20 : decode cX1_init 20 = .ok (.invokespecial 18, 3) := by decide +kernel
theorem dX1_init_23 : decode cX1_init 23 = .ok (.putfield 19, 3) := by decide +kernel
theorem dX1_init_26 : decode cX1_init 26 = .ok (.aload_n 0, 1) := by decide +kernel
theorem dX1_init_27 : decode cX1_init 27 = .ok (.new 23, 3) := by decide +kernel
theorem dX1_init_30 : decode cX1_init 30 = .ok (.dup, 1) := by decide +kernel
theorem dX1_init_31 : decode cX1_init 31 = .ok (.invokespecial 25, 3) := by decide +kernel
theorem dX1_init_34 : decode cX1_init 34 = .ok (.putfield 26, 3) := by decide +kernel
theorem dX1_init_37 : decode cX1_init 37 = .ok (.return_, 1) := by decide +kernel
theorem dX1_isThere_0 : decode cX1_isThere 0 = .ok (.aload_n 0, 1) := by decide +kernel
theorem dX1_isThere_1 : decode cX1_isThere 1 = .ok (.getfield 30, 3) := by decide +kernel
theorem dX1_isThere_4 : decode cX1_isThere 4 = .ok (.ireturn, 1) := by decide +kernel
theorem dX1_words_0 : decode cX1_words 0 = .ok (.aload_n 0, 1) := by decide +kernel
theorem dX1_words_1 : decode cX1_words 1 = .ok (.getfield 10, 3) := by decide +kernel
theorem dX1_words_4 : decode cX1_words 4 = .ok (.areturn, 1) := by decide +kernel
theorem dX1_order_0 : decode cX1_order 0 = .ok (.aload_n 0, 1) := by decide +kernel
theorem dX1_order_1 : decode cX1_order 1 = .ok (.getfield 19, 3) := by decide +kernel
theorem dX1_order_4 : decode cX1_order 4 = .ok (.areturn, 1) := by decide +kernel
theorem dX1_aims_0 : decode cX1_aims 0 = .ok (.aload_n 0, 1) := by decide +kernel
theorem dX1_aims_1 : decode cX1_aims 1 = .ok (.getfield 26, 3) := by decide +kernel
theorem dX1_aims_4 : decode cX1_aims 4 = .ok (.areturn, 1) := by decide +kernel
theorem dX1_take_0 : decode cX1_take 0 = .ok (.aload_n 0, 1) := by decide +kernel
theorem dX1_take_1 : decode cX1_take 1 = .ok (.getfield 10, 3) := by decide +kernel
theorem dX1_take_4 : decode cX1_take 4 = .ok (.aload_n 1, 1) := by decide +kernel
theorem dX1_take_5 : decode cX1_take 5 = .ok (.invokevirtual 34, 3) := by decide +kernel
theorem dX1_take_8 : decode cX1_take 8 = .ok (.aload_n 0, 1) := by decide +kernel
theorem dX1_take_9 : decode cX1_take 9 = .ok (.getfield 19, 3) := by decide +kernel
theorem dX1_take_12 : decode cX1_take 12 = .ok (.aload_n 2, 1) := by decide +kernel
theorem dX1_take_13 : decode cX1_take 13 = .ok (.invokevirtual 38, 3) := by decide +kernel
theorem dX1_take_16 : decode cX1_take 16 = .ok (.aload_n 0, 1) := by decide +kernel
theorem dX1_take_17 : decode cX1_take 17 = .ok (.getfield 26, 3) := by decide +kernel
theorem dX1_take_20 : decode cX1_take 20 = .ok (.aload_n 3, 1) := by decide +kernel
theorem dX1_take_21 : decode cX1_take 21 = .ok (.invokevirtual 41, 3) := by decide +kernel
theorem dX1_take_24 : decode cX1_take 24 = .ok (.aload_n 0, 1) := by decide +kernel
theorem dX1_take_25 : decode cX1_take 25 = .ok (.iconst 1, 1) := by decide +kernel
theorem dX1_take_26 : decode cX1_take 26 = .ok (.putfield 30, 3) := by decide +kernel
theorem dX1_take_29 : decode cX1_take 29 = .ok (.return_, 1) := by decide +kernel
theorem dX2_init_0 : decode cX2_init 0 = .ok (.aload_n 0, 1) := by decide +kernel
theorem dX2_init_1 : decode cX2_init 1 = .ok (.invokespecial 3, 3) := by decide +kernel
theorem dX2_init_4 : decode cX2_init 4 = .ok (.aload_n 0, 1) := by decide +kernel
theorem dX2_init_5 : decode cX2_init 5 = .ok (.new 9, 3) := by decide +kernel
theorem dX2_init_8 : decode cX2_init 8 = .ok (.dup, 1) := by decide +kernel
theorem dX2_init_9 : decode cX2_init 9 = .ok (.invokespecial 11, 3) := by decide +kernel
theorem dX2_init_12 : decode cX2_init 12 = .ok (.putfield 12, 3) := by decide +kernel
theorem dX2_init_15 : decode cX2_init 15 = .ok (.aload_n 0, 1) := by decide +kernel
theorem dX2_init_16 : decode cX2_init 16 = .ok (.sipush 200, 3) := by decide +kernel
theorem dX2_init_19 : decode cX2_init 19 = .ok (.newarray .long, 2) := by decide +kernel
theorem dX2_init_21 : decode cX2_init 21 = .ok (.putfield 18, 3) := by decide +kernel
theorem dX2_init_24 : decode cX2_init 24 = .ok (.aload_n 0, 1) := by decide +kernel
theorem dX2_init_25 : decode cX2_init 25 = .ok (.sipush 200, 3) := by decide +kernel
theorem dX2_init_28 : decode cX2_init 28 = .ok (.newarray .int, 2) := by decide +kernel
theorem dX2_init_30 : decode cX2_init 30 = .ok (.putfield 22, 3) := by decide +kernel
theorem dX2_init_33 : decode cX2_init 33 = .ok (.aload_n 0, 1) := by decide +kernel
theorem dX2_init_34 : decode cX2_init 34 = .ok (.sipush 200, 3) := by decide +kernel
theorem dX2_init_37 : decode cX2_init 37 = .ok (.newarray .int, 2) := by decide +kernel
theorem dX2_init_39 : decode cX2_init 39 = .ok (.putfield 26, 3) := by decide +kernel
theorem dX2_init_42 : decode cX2_init 42 = .ok (.return_, 1) := by decide +kernel
theorem dX2_isMade_0 : decode cX2_isMade 0 = .ok (.aload_n 0, 1) := by decide +kernel
theorem dX2_isMade_1 : decode cX2_isMade 1 = .ok (.getfield 29, 3) := by decide +kernel
theorem dX2_isMade_4 : decode cX2_isMade 4 = .ok (.ireturn, 1) := by decide +kernel
theorem dX2_forget_0 : decode cX2_forget 0 = .ok (.aload_n 0, 1) := by decide +kernel
theorem dX2_forget_1 : decode cX2_forget 1 = .ok (.iconst 0, 1) := by decide +kernel
theorem dX2_forget_2 : decode cX2_forget 2 = .ok (.putfield 29, 3) := by decide +kernel
theorem dX2_forget_5 : decode cX2_forget 5 = .ok (.return_, 1) := by decide +kernel
theorem dX2_make_0 : decode cX2_make 0 = .ok (.aload_n 0, 1) := by decide +kernel
theorem dX2_make_1 : decode cX2_make 1 = .ok (.iload 4, 2) := by decide +kernel
theorem dX2_make_3 : decode cX2_make 3 = .ok (.putfield 33, 3) := by decide +kernel
theorem dX2_make_6 : decode cX2_make 6 = .ok (.iconst 0, 1) := by decide +kernel
theorem dX2_make_7 : decode cX2_make 7 = .ok (.istore 5, 2) := by decide +kernel
theorem dX2_make_9 : decode cX2_make 9 = .ok (.iload 5, 2) := by decide +kernel
theorem dX2_make_11 : decode cX2_make 11 = .ok (.aload_n 0, 1) := by decide +kernel
theorem dX2_make_12 : decode cX2_make 12 = .ok (.getfield 33, 3) := by decide +kernel
theorem dX2_make_15 : decode cX2_make 15 = .ok (.if_icmp .ge 75, 3) := by decide +kernel
theorem dX2_make_18 : decode cX2_make 18 = .ok (.aload_n 3, 1) := by decide +kernel
theorem dX2_make_19 : decode cX2_make 19 = .ok (.aload_n 1, 1) := by decide +kernel
theorem dX2_make_20 : decode cX2_make 20 = .ok (.aload_n 2, 1) := by decide +kernel
theorem dX2_make_21 : decode cX2_make 21 = .ok (.iload 5, 2) := by decide +kernel
theorem dX2_make_23 : decode cX2_make 23 = .ok (.i2l, 1) := by decide +kernel
theorem dX2_make_24 : decode cX2_make 24 = .ok (.invokevirtual 37, 3) := by decide +kernel
theorem dX2_make_27 : decode cX2_make 27 = .ok (.aload_n 0, 1) := by decide +kernel
theorem dX2_make_28 : decode cX2_make 28 = .ok (.getfield 12, 3) := by decide +kernel
theorem dX2_make_31 : decode cX2_make 31 = .ok (.aload_n 3, 1) := by decide +kernel
theorem dX2_make_32 : decode cX2_make 32 = .ok (.aload_n 1, 1) := by decide +kernel
theorem dX2_make_33 : decode cX2_make 33 = .ok (.invokevirtual 43, 3) := by decide +kernel
theorem dX2_make_36 : decode cX2_make 36 = .ok (.aload_n 0, 1) := by decide +kernel
theorem dX2_make_37 : decode cX2_make 37 = .ok (.getfield 18, 3) := by decide +kernel
theorem dX2_make_40 : decode cX2_make 40 = .ok (.iload 5, 2) := by decide +kernel
theorem dX2_make_42 : decode cX2_make 42 = .ok (.aload_n 0, 1) := by decide +kernel
theorem dX2_make_43 : decode cX2_make 43 = .ok (.getfield 12, 3) := by decide +kernel
theorem dX2_make_46 : decode cX2_make 46 = .ok (.invokevirtual 47, 3) := by decide +kernel
theorem dX2_make_49 : decode cX2_make 49 = .ok (.invokestatic 51, 3) := by decide +kernel
theorem dX2_make_52 : decode cX2_make 52 = .ok (.aload_n 0, 1) := by decide +kernel
theorem dX2_make_53 : decode cX2_make 53 = .ok (.getfield 22, 3) := by decide +kernel
theorem dX2_make_56 : decode cX2_make 56 = .ok (.iload 5, 2) := by decide +kernel
theorem dX2_make_58 : decode cX2_make 58 = .ok (.aload_n 0, 1) := by decide +kernel
theorem dX2_make_59 : decode cX2_make 59 = .ok (.getfield 12, 3) := by decide +kernel
theorem dX2_make_62 : decode cX2_make 62 = .ok (.invokevirtual 55, 3) := by decide +kernel
theorem dX2_make_65 : decode cX2_make 65 = .ok (.invokestatic 59, 3) := by decide +kernel
theorem dX2_make_68 : decode cX2_make 68 = .ok (.aload_n 0, 1) := by decide +kernel
theorem dX2_make_69 : decode cX2_make 69 = .ok (.getfield 26, 3) := by decide +kernel
theorem dX2_make_72 : decode cX2_make 72 = .ok (.iload 5, 2) := by decide +kernel
theorem dX2_make_74 : decode cX2_make 74 = .ok (.aload_n 0, 1) := by decide +kernel
theorem dX2_make_75 : decode cX2_make 75 = .ok (.getfield 12, 3) := by decide +kernel
theorem dX2_make_78 : decode cX2_make 78 = .ok (.invokevirtual 62, 3) := by decide +kernel
theorem dX2_make_81 : decode cX2_make 81 = .ok (.invokestatic 59, 3) := by decide +kernel
theorem dX2_make_84 : decode cX2_make 84 = .ok (.iinc 5 1, 3) := by decide +kernel
theorem dX2_make_87 : decode cX2_make 87 = .ok (.goto (-78), 3) := by decide +kernel
theorem dX2_make_90 : decode cX2_make 90 = .ok (.aload_n 0, 1) := by decide +kernel
theorem dX2_make_91 : decode cX2_make 91 = .ok (.iconst 1, 1) := by decide +kernel
theorem dX2_make_92 : decode cX2_make 92 = .ok (.putfield 29, 3) := by decide +kernel
theorem dX2_make_95 : decode cX2_make 95 = .ok (.return_, 1) := by decide +kernel
theorem dX2_size_0 : decode cX2_size 0 = .ok (.aload_n 0, 1) := by decide +kernel
theorem dX2_size_1 : decode cX2_size 1 = .ok (.getfield 33, 3) := by decide +kernel
theorem dX2_size_4 : decode cX2_size 4 = .ok (.ireturn, 1) := by decide +kernel
theorem dX2_meaning_0 : decode cX2_meaning 0 = .ok (.aload_n 0, 1) := by decide +kernel
theorem dX2_meaning_1 : decode cX2_meaning 1 = .ok (.getfield 18, 3) := by decide +kernel
theorem dX2_meaning_4 : decode cX2_meaning 4 = .ok (.iload_n 1, 1) := by decide +kernel
theorem dX2_meaning_5 : decode cX2_meaning 5 = .ok (.invokestatic 65, 3) := by decide +kernel
theorem dX2_meaning_8 : decode cX2_meaning 8 = .ok (.lreturn, 1) := by decide +kernel
theorem dX2_idlePlaces_0 : decode cX2_idlePlaces 0 = .ok (.aload_n 0, 1) := by decide +kernel
theorem dX2_idlePlaces_1 : decode cX2_idlePlaces 1 = .ok (.getfield 22, 3) := by decide +kernel
theorem dX2_idlePlaces_4 : decode cX2_idlePlaces 4 = .ok (.iload_n 1, 1) := by decide +kernel
theorem dX2_idlePlaces_5 : decode cX2_idlePlaces 5 = .ok (.invokestatic 69, 3) := by decide +kernel
theorem dX2_idlePlaces_8 : decode cX2_idlePlaces 8 = .ok (.ireturn, 1) := by decide +kernel
theorem dX2_isMet_0 : decode cX2_isMet 0 = .ok (.aload_n 0, 1) := by decide +kernel
theorem dX2_isMet_1 : decode cX2_isMet 1 = .ok (.getfield 26, 3) := by decide +kernel
theorem dX2_isMet_4 : decode cX2_isMet 4 = .ok (.iload_n 1, 1) := by decide +kernel
theorem dX2_isMet_5 : decode cX2_isMet 5 = .ok (.invokestatic 69, 3) := by decide +kernel
theorem dX2_isMet_8 : decode cX2_isMet 8 = .ok (.i2l, 1) := by decide +kernel
theorem dX2_isMet_9 : decode cX2_isMet 9 = .ok (.iload_n 2, 1) := by decide +kernel
theorem dX2_isMet_10 : decode cX2_isMet 10 = .ok (.invokestatic 72, 3) := by decide +kernel
theorem dX2_isMet_13 : decode cX2_isMet 13 = .ok (.iconst 1, 1) := by decide +kernel
theorem dX2_isMet_14 : decode cX2_isMet 14 = .ok (.if_icmp .ne 7, 3) := by decide +kernel
theorem dX2_isMet_17 : decode cX2_isMet 17 = .ok (.iconst 1, 1) := by decide +kernel
theorem dX2_isMet_18 : decode cX2_isMet 18 = .ok (.goto 4, 3) := by decide +kernel
theorem dX2_isMet_21 : decode cX2_isMet 21 = .ok (.iconst 0, 1) := by decide +kernel
theorem dX2_isMet_22 : decode cX2_isMet 22 = .ok (.ireturn, 1) := by decide +kernel
theorem dX2_lettingAt_0 : decode cX2_lettingAt 0 = .ok (.iconst 0, 1) := by decide +kernel
theorem dX2_lettingAt_1 : decode cX2_lettingAt 1 = .ok (.istore_n 2, 1) := by decide +kernel
theorem dX2_lettingAt_2 : decode cX2_lettingAt 2 = .ok (.iconst 0, 1) := by decide +kernel
theorem dX2_lettingAt_3 : decode cX2_lettingAt 3 = .ok (.istore_n 3, 1) := by decide +kernel
theorem dX2_lettingAt_4 : decode cX2_lettingAt 4 = .ok (.iload_n 3, 1) := by decide +kernel
theorem dX2_lettingAt_5 : decode cX2_lettingAt 5 = .ok (.aload_n 0, 1) := by decide +kernel
theorem dX2_lettingAt_6 : decode cX2_lettingAt 6 = .ok (.getfield 33, 3) := by decide +kernel
theorem dX2_lettingAt_9 : decode cX2_lettingAt 9 = .ok (.if_icmp .ge 21, 3) := by decide +kernel
theorem dX2_lettingAt_12 : decode cX2_lettingAt 12 = .ok (.iload_n 2, 1) := by decide +kernel
theorem dX2_lettingAt_13 : decode cX2_lettingAt 13 = .ok (.aload_n 0, 1) := by decide +kernel
theorem dX2_lettingAt_14 : decode cX2_lettingAt 14 = .ok (.iload_n 3, 1) := by decide +kernel
theorem dX2_lettingAt_15 : decode cX2_lettingAt 15 = .ok (.invokevirtual 76, 3) := by decide +kernel
theorem dX2_lettingAt_18 : decode cX2_lettingAt 18 = .ok (.iload_n 1, 1) := by decide +kernel
theorem dX2_lettingAt_19 : decode cX2_lettingAt 19 = .ok (.invokestatic 72, 3) := by decide +kernel
theorem dX2_lettingAt_22 : decode cX2_lettingAt 22 = .ok (.iadd, 1) := by decide +kernel
theorem dX2_lettingAt_23 : decode cX2_lettingAt 23 = .ok (.istore_n 2, 1) := by decide +kernel
theorem dX2_lettingAt_24 : decode cX2_lettingAt 24 = .ok (.iinc 3 1, 3) := by decide +kernel
theorem dX2_lettingAt_27 : decode cX2_lettingAt 27 = .ok (.goto (-23), 3) := by decide +kernel
theorem dX2_lettingAt_30 : decode cX2_lettingAt 30 = .ok (.iload_n 2, 1) := by decide +kernel
theorem dX2_lettingAt_31 : decode cX2_lettingAt 31 = .ok (.ireturn, 1) := by decide +kernel
theorem dX2_letByAll_0 : decode cX2_letByAll 0 = .ok (.ldc2_w 79, 3) := by decide +kernel
theorem dX2_letByAll_3 : decode cX2_letByAll 3 = .ok (.lstore_n 1, 1) := by decide +kernel
theorem dX2_letByAll_4 : decode cX2_letByAll 4 = .ok (.iconst 0, 1) := by decide +kernel
theorem dX2_letByAll_5 : decode cX2_letByAll 5 = .ok (.istore_n 3, 1) := by decide +kernel
theorem dX2_letByAll_6 : decode cX2_letByAll 6 = .ok (.iload_n 3, 1) := by decide +kernel
theorem dX2_letByAll_7 : decode cX2_letByAll 7 = .ok (.aload_n 0, 1) := by decide +kernel
theorem dX2_letByAll_8 : decode cX2_letByAll 8 = .ok (.getfield 33, 3) := by decide +kernel
theorem dX2_letByAll_11 : decode cX2_letByAll 11 = .ok (.if_icmp .ge 17, 3) := by decide +kernel
theorem dX2_letByAll_14 : decode cX2_letByAll 14 = .ok (.lload_n 1, 1) := by decide +kernel
theorem dX2_letByAll_15 : decode cX2_letByAll 15 = .ok (.aload_n 0, 1) := by decide +kernel
theorem dX2_letByAll_16 : decode cX2_letByAll 16 = .ok (.iload_n 3, 1) := by decide +kernel
theorem dX2_letByAll_17 : decode cX2_letByAll 17 = .ok (.invokevirtual 76, 3) := by decide +kernel
theorem dX2_letByAll_20 : decode cX2_letByAll 20 = .ok (.land, 1) := by decide +kernel
theorem dX2_letByAll_21 : decode cX2_letByAll 21 = .ok (.lstore_n 1, 1) := by decide +kernel
theorem dX2_letByAll_22 : decode cX2_letByAll 22 = .ok (.iinc 3 1, 3) := by decide +kernel
theorem dX2_letByAll_25 : decode cX2_letByAll 25 = .ok (.goto (-19), 3) := by decide +kernel
theorem dX2_letByAll_28 : decode cX2_letByAll 28 = .ok (.lload_n 1, 1) := by decide +kernel
theorem dX2_letByAll_29 : decode cX2_letByAll 29 = .ok (.lreturn, 1) := by decide +kernel
theorem dX2_barredByAll_0 : decode cX2_barredByAll 0 = .ok (.ldc2_w 79, 3) := by decide +kernel
theorem dX2_barredByAll_3 : decode cX2_barredByAll 3 = .ok (.lstore_n 1, 1) := by decide +kernel
theorem dX2_barredByAll_4 : decode cX2_barredByAll 4 = .ok (.iconst 0, 1) := by decide +kernel
theorem dX2_barredByAll_5 : decode cX2_barredByAll 5 = .ok (.istore_n 3, 1) := by decide +kernel
theorem dX2_barredByAll_6 : decode cX2_barredByAll 6 = .ok (.iload_n 3, 1) := by decide +kernel
theorem dX2_barredByAll_7 : decode cX2_barredByAll 7 = .ok (.aload_n 0, 1) := by decide +kernel
theorem dX2_barredByAll_8 : decode cX2_barredByAll 8 = .ok (.getfield 33, 3) := by decide +kernel
theorem dX2_barredByAll_11 : decode cX2_barredByAll 11 = .ok (.if_icmp .ge 21, 3) := by decide +kernel
theorem dX2_barredByAll_14 : decode cX2_barredByAll 14 = .ok (.lload_n 1, 1) := by decide +kernel
theorem dX2_barredByAll_15 : decode cX2_barredByAll 15 = .ok (.aload_n 0, 1) := by decide +kernel
theorem dX2_barredByAll_16 : decode cX2_barredByAll 16 = .ok (.iload_n 3, 1) := by decide +kernel
theorem dX2_barredByAll_17 : decode cX2_barredByAll 17 = .ok (.invokevirtual 76, 3) := by decide +kernel
theorem dX2_barredByAll_20 : decode cX2_barredByAll 20 = .ok (.ldc2_w 81, 3) := by decide +kernel
theorem dX2_barredByAll_23 : decode cX2_barredByAll 23 = .ok (.lxor, 1) := by decide +kernel
theorem dX2_barredByAll_24 : decode cX2_barredByAll 24 = .ok (.land, 1) := by decide +kernel
theorem dX2_barredByAll_25 : decode cX2_barredByAll 25 = .ok (.lstore_n 1, 1) := by decide +kernel
theorem dX2_barredByAll_26 : decode cX2_barredByAll 26 = .ok (.iinc 3 1, 3) := by decide +kernel
theorem dX2_barredByAll_29 : decode cX2_barredByAll 29 = .ok (.goto (-23), 3) := by decide +kernel
theorem dX2_barredByAll_32 : decode cX2_barredByAll 32 = .ok (.lload_n 1, 1) := by decide +kernel
theorem dX2_barredByAll_33 : decode cX2_barredByAll 33 = .ok (.lreturn, 1) := by decide +kernel
theorem dX2_idleInAll_0 : decode cX2_idleInAll 0 = .ok (.aload_n 0, 1) := by decide +kernel
theorem dX2_idleInAll_1 : decode cX2_idleInAll 1 = .ok (.iconst 0, 1) := by decide +kernel
theorem dX2_idleInAll_2 : decode cX2_idleInAll 2 = .ok (.invokevirtual 83, 3) := by decide +kernel
theorem dX2_idleInAll_5 : decode cX2_idleInAll 5 = .ok (.istore_n 1, 1) := by decide +kernel
theorem dX2_idleInAll_6 : decode cX2_idleInAll 6 = .ok (.iconst 1, 1) := by decide +kernel
theorem dX2_idleInAll_7 : decode cX2_idleInAll 7 = .ok (.istore_n 2, 1) := by decide +kernel
theorem dX2_idleInAll_8 : decode cX2_idleInAll 8 = .ok (.iload_n 2, 1) := by decide +kernel
theorem dX2_idleInAll_9 : decode cX2_idleInAll 9 = .ok (.aload_n 0, 1) := by decide +kernel
theorem dX2_idleInAll_10 : decode cX2_idleInAll 10 = .ok (.getfield 33, 3) := by decide +kernel
theorem dX2_idleInAll_13 : decode cX2_idleInAll 13 = .ok (.if_icmp .ge 17, 3) := by decide +kernel
theorem dX2_idleInAll_16 : decode cX2_idleInAll 16 = .ok (.iload_n 1, 1) := by decide +kernel
theorem dX2_idleInAll_17 : decode cX2_idleInAll 17 = .ok (.aload_n 0, 1) := by decide +kernel
theorem dX2_idleInAll_18 : decode cX2_idleInAll 18 = .ok (.iload_n 2, 1) := by decide +kernel
theorem dX2_idleInAll_19 : decode cX2_idleInAll 19 = .ok (.invokevirtual 83, 3) := by decide +kernel
theorem dX2_idleInAll_22 : decode cX2_idleInAll 22 = .ok (.iand, 1) := by decide +kernel
theorem dX2_idleInAll_23 : decode cX2_idleInAll 23 = .ok (.istore_n 1, 1) := by decide +kernel
theorem dX2_idleInAll_24 : decode cX2_idleInAll 24 = .ok (.iinc 2 1, 3) := by decide +kernel
theorem dX2_idleInAll_27 : decode cX2_idleInAll 27 = .ok (.goto (-19), 3) := by decide +kernel
theorem dX2_idleInAll_30 : decode cX2_idleInAll 30 = .ok (.iload_n 1, 1) := by decide +kernel
theorem dX2_idleInAll_31 : decode cX2_idleInAll 31 = .ok (.ireturn, 1) := by decide +kernel
theorem dX2_areAtOdds_0 : decode cX2_areAtOdds 0 = .ok (.iconst 0, 1) := by decide +kernel
theorem dX2_areAtOdds_1 : decode cX2_areAtOdds 1 = .ok (.istore_n 3, 1) := by decide +kernel
theorem dX2_areAtOdds_2 : decode cX2_areAtOdds 2 = .ok (.iconst 0, 1) := by decide +kernel
theorem dX2_areAtOdds_3 : decode cX2_areAtOdds 3 = .ok (.istore 4, 2) := by decide +kernel
theorem dX2_areAtOdds_5 : decode cX2_areAtOdds 5 = .ok (.iconst 0, 1) := by decide +kernel
theorem dX2_areAtOdds_6 : decode cX2_areAtOdds 6 = .ok (.istore 5, 2) := by decide +kernel
theorem dX2_areAtOdds_8 : decode cX2_areAtOdds 8 = .ok (.iload 5, 2) := by decide +kernel
theorem dX2_areAtOdds_10 : decode cX2_areAtOdds 10 = .ok (.aload_n 0, 1) := by decide +kernel
theorem dX2_areAtOdds_11 : decode cX2_areAtOdds 11 = .ok (.getfield 33, 3) := by decide +kernel
theorem dX2_areAtOdds_14 : decode cX2_areAtOdds 14 = .ok (.if_icmp .ge 53, 3) := by decide +kernel
theorem dX2_areAtOdds_17 : decode cX2_areAtOdds 17 = .ok (.aload_n 0, 1) := by decide +kernel
theorem dX2_areAtOdds_18 : decode cX2_areAtOdds 18 = .ok (.iload 5, 2) := by decide +kernel
theorem dX2_areAtOdds_20 : decode cX2_areAtOdds 20 = .ok (.iload_n 1, 1) := by decide +kernel
theorem dX2_areAtOdds_21 : decode cX2_areAtOdds 21 = .ok (.invokevirtual 86, 3) := by decide +kernel
theorem dX2_areAtOdds_24 : decode cX2_areAtOdds 24 = .ok (.ifCond .eq 15, 3) := by decide +kernel
theorem dX2_areAtOdds_27 : decode cX2_areAtOdds 27 = .ok (.aload_n 0, 1) := by decide +kernel
theorem dX2_areAtOdds_28 : decode cX2_areAtOdds 28 = .ok (.iload 5, 2) := by decide +kernel
theorem dX2_areAtOdds_30 : decode cX2_areAtOdds 30 = .ok (.iload_n 2, 1) := by decide +kernel
theorem dX2_areAtOdds_31 : decode cX2_areAtOdds 31 = .ok (.invokevirtual 86, 3) := by decide +kernel
theorem dX2_areAtOdds_34 : decode cX2_areAtOdds 34 = .ok (.ifCond .eq 5, 3) := by decide +kernel
theorem dX2_areAtOdds_37 : decode cX2_areAtOdds 37 = .ok (.iconst 0, 1) := by decide +kernel
theorem dX2_areAtOdds_38 : decode cX2_areAtOdds 38 = .ok (.ireturn, 1) := by decide +kernel
theorem dX2_areAtOdds_39 : decode cX2_areAtOdds 39 = .ok (.iload_n 3, 1) := by decide +kernel
theorem dX2_areAtOdds_40 : decode cX2_areAtOdds 40 = .ok (.aload_n 0, 1) := by decide +kernel
theorem dX2_areAtOdds_41 : decode cX2_areAtOdds 41 = .ok (.iload 5, 2) := by decide +kernel
theorem dX2_areAtOdds_43 : decode cX2_areAtOdds 43 = .ok (.iload_n 1, 1) := by decide +kernel
theorem dX2_areAtOdds_44 : decode cX2_areAtOdds 44 = .ok (.invokevirtual 86, 3) := by decide +kernel
theorem dX2_areAtOdds_47 : decode cX2_areAtOdds 47 = .ok (.ior, 1) := by decide +kernel
theorem dX2_areAtOdds_48 : decode cX2_areAtOdds 48 = .ok (.istore_n 3, 1) := by decide +kernel
theorem dX2_areAtOdds_49 : decode cX2_areAtOdds 49 = .ok (.iload 4, 2) := by decide +kernel
theorem dX2_areAtOdds_51 : decode cX2_areAtOdds 51 = .ok (.aload_n 0, 1) := by decide +kernel
theorem dX2_areAtOdds_52 : decode cX2_areAtOdds 52 = .ok (.iload 5, 2) := by decide +kernel
theorem dX2_areAtOdds_54 : decode cX2_areAtOdds 54 = .ok (.iload_n 2, 1) := by decide +kernel
theorem dX2_areAtOdds_55 : decode cX2_areAtOdds 55 = .ok (.invokevirtual 86, 3) := by decide +kernel
theorem dX2_areAtOdds_58 : decode cX2_areAtOdds 58 = .ok (.ior, 1) := by decide +kernel
theorem dX2_areAtOdds_59 : decode cX2_areAtOdds 59 = .ok (.istore 4, 2) := by decide +kernel
theorem dX2_areAtOdds_61 : decode cX2_areAtOdds 61 = .ok (.iinc 5 1, 3) := by decide +kernel
theorem dX2_areAtOdds_64 : decode cX2_areAtOdds 64 = .ok (.goto (-56), 3) := by decide +kernel
theorem dX2_areAtOdds_67 : decode cX2_areAtOdds 67 = .ok (.iload_n 3, 1) := by decide +kernel
theorem dX2_areAtOdds_68 : decode cX2_areAtOdds 68 = .ok (.ifCond .eq 12, 3) := by decide +kernel
theorem dX2_areAtOdds_71 : decode cX2_areAtOdds 71 = .ok (.iload 4, 2) := by decide +kernel
theorem dX2_areAtOdds_73 : decode cX2_areAtOdds 73 = .ok (.ifCond .eq 7, 3) := by decide +kernel
theorem dX2_areAtOdds_76 : decode cX2_areAtOdds 76 = .ok (.iconst 1, 1) := by decide +kernel
theorem dX2_areAtOdds_77 : decode cX2_areAtOdds 77 = .ok (.goto 4, 3) := by decide +kernel
theorem dX2_areAtOdds_80 : decode cX2_areAtOdds 80 = .ok (.iconst 0, 1) := by decide +kernel
theorem dX2_areAtOdds_81 : decode cX2_areAtOdds 81 = .ok (.ireturn, 1) := by decide +kernel
theorem dX2_evenestCase_0 : decode cX2_evenestCase 0 = .ok (.iconst 0, 1) := by decide +kernel
theorem dX2_evenestCase_1 : decode cX2_evenestCase 1 = .ok (.istore_n 1, 1) := by decide +kernel
theorem dX2_evenestCase_2 : decode cX2_evenestCase 2 = .ok (.aload_n 0, 1) := by decide +kernel
theorem dX2_evenestCase_3 : decode cX2_evenestCase 3 = .ok (.getfield 33, 3) := by decide +kernel
theorem dX2_evenestCase_6 : decode cX2_evenestCase 6 = .ok (.iconst 1, 1) := by decide +kernel
theorem dX2_evenestCase_7 : decode cX2_evenestCase 7 = .ok (.iadd, 1) := by decide +kernel
theorem dX2_evenestCase_8 : decode cX2_evenestCase 8 = .ok (.istore_n 2, 1) := by decide +kernel
theorem dX2_evenestCase_9 : decode cX2_evenestCase 9 = .ok (.iconst 0, 1) := by decide +kernel
theorem dX2_evenestCase_10 : decode cX2_evenestCase 10 = .ok (.istore_n 3, 1) := by decide +kernel
theorem dX2_evenestCase_11 : decode cX2_evenestCase 11 = .ok (.iload_n 3, 1) := by decide +kernel
theorem dX2_evenestCase_12 : decode cX2_evenestCase 12 = .ok (.bipush 32, 2) := by decide +kernel
theorem dX2_evenestCase_14 : decode cX2_evenestCase 14 = .ok (.if_icmp .ge 37, 3) := by decide +kernel
theorem dX2_evenestCase_17 : decode cX2_evenestCase 17 = .ok (.iconst 2, 1) := by decide +kernel
theorem dX2_evenestCase_18 : decode cX2_evenestCase 18 = .ok (.aload_n 0, 1) := by decide +kernel
theorem dX2_evenestCase_19 : decode cX2_evenestCase 19 = .ok (.iload_n 3, 1) := by decide +kernel
theorem dX2_evenestCase_20 : decode cX2_evenestCase 20 = .ok (.invokevirtual 90, 3) := by decide +kernel
theorem dX2_evenestCase_23 : decode cX2_evenestCase 23 = .ok (.imul, 1) := by decide +kernel
theorem dX2_evenestCase_24 : decode cX2_evenestCase 24 = .ok (.aload_n 0, 1) := by decide +kernel
theorem dX2_evenestCase_25 : decode cX2_evenestCase 25 = .ok (.getfield 33, 3) := by decide +kernel
theorem dX2_evenestCase_28 : decode cX2_evenestCase 28 = .ok (.isub, 1) := by decide +kernel
theorem dX2_evenestCase_29 : decode cX2_evenestCase 29 = .ok (.invokestatic 93, 3) := by decide +kernel
theorem dX2_evenestCase_32 : decode cX2_evenestCase 32 = .ok (.istore 4, 2) := by decide +kernel
theorem dX2_evenestCase_34 : decode cX2_evenestCase 34 = .ok (.iload 4, 2) := by decide +kernel
theorem dX2_evenestCase_36 : decode cX2_evenestCase 36 = .ok (.iload_n 2, 1) := by decide +kernel
theorem dX2_evenestCase_37 : decode cX2_evenestCase 37 = .ok (.if_icmp .ge 8, 3) := by decide +kernel
theorem dX2_evenestCase_40 : decode cX2_evenestCase 40 = .ok (.iload 4, 2) := by decide +kernel
theorem dX2_evenestCase_42 : decode cX2_evenestCase 42 = .ok (.istore_n 2, 1) := by decide +kernel
theorem dX2_evenestCase_43 : decode cX2_evenestCase 43 = .ok (.iload_n 3, 1) := by decide +kernel
theorem dX2_evenestCase_44 : decode cX2_evenestCase 44 = .ok (.istore_n 1, 1) := by decide +kernel
theorem dX2_evenestCase_45 : decode cX2_evenestCase 45 = .ok (.iinc 3 1, 3) := by decide +kernel
theorem dX2_evenestCase_48 : decode cX2_evenestCase 48 = .ok (.goto (-37), 3) := by decide +kernel
theorem dX2_evenestCase_51 : decode cX2_evenestCase 51 = .ok (.iload_n 1, 1) := by decide +kernel
theorem dX2_evenestCase_52 : decode cX2_evenestCase 52 = .ok (.ireturn, 1) := by decide +kernel
theorem dX3_init_0 : decode cX3_init 0 = .ok (.aload_n 0, 1) := by decide +kernel
theorem dX3_init_1 : decode cX3_init 1 = .ok (.invokespecial 3, 3) := by decide +kernel
theorem dX3_init_4 : decode cX3_init 4 = .ok (.aload_n 0, 1) := by decide +kernel
theorem dX3_init_5 : decode cX3_init 5 = .ok (.sipush 484, 3) := by decide +kernel
theorem dX3_init_8 : decode cX3_init 8 = .ok (.newarray .int, 2) := by decide +kernel
theorem dX3_init_10 : decode cX3_init 10 = .ok (.putfield 11, 3) := by decide +kernel
theorem dX3_init_13 : decode cX3_init 13 = .ok (.aload_n 0, 1) := by decide +kernel
theorem dX3_init_14 : decode cX3_init 14 = .ok (.sipush 200, 3) := by decide +kernel
theorem dX3_init_17 : decode cX3_init 17 = .ok (.newarray .int, 2) := by decide +kernel
theorem dX3_init_19 : decode cX3_init 19 = .ok (.putfield 15, 3) := by decide +kernel
theorem dX3_init_22 : decode cX3_init 22 = .ok (.return_, 1) := by decide +kernel
theorem dX3_begin_0 : decode cX3_begin 0 = .ok (.aload_n 0, 1) := by decide +kernel
theorem dX3_begin_1 : decode cX3_begin 1 = .ok (.iconst 0, 1) := by decide +kernel
theorem dX3_begin_2 : decode cX3_begin 2 = .ok (.putfield 18, 3) := by decide +kernel
theorem dX3_begin_5 : decode cX3_begin 5 = .ok (.aload_n 0, 1) := by decide +kernel
theorem dX3_begin_6 : decode cX3_begin 6 = .ok (.iconst 0, 1) := by decide +kernel
theorem dX3_begin_7 : decode cX3_begin 7 = .ok (.putfield 22, 3) := by decide +kernel
theorem dX3_begin_10 : decode cX3_begin 10 = .ok (.iconst 0, 1) := by decide +kernel
theorem dX3_begin_11 : decode cX3_begin 11 = .ok (.istore_n 2, 1) := by decide +kernel
theorem dX3_begin_12 : decode cX3_begin 12 = .ok (.iload_n 2, 1) := by decide +kernel
theorem dX3_begin_13 : decode cX3_begin 13 = .ok (.aload_n 0, 1) := by decide +kernel
theorem dX3_begin_14 : decode cX3_begin 14 = .ok (.getfield 11, 3) := by decide +kernel
theorem dX3_begin_17 : decode cX3_begin 17 = .ok (.arraylength, 1) := by decide +kernel
theorem dX3_begin_18 : decode cX3_begin 18 = .ok (.if_icmp .ge 16, 3) := by decide +kernel
theorem dX3_begin_21 : decode cX3_begin 21 = .ok (.aload_n 0, 1) := by decide +kernel
theorem dX3_begin_22 : decode cX3_begin 22 = .ok (.getfield 11, 3) := by decide +kernel
theorem dX3_begin_25 : decode cX3_begin 25 = .ok (.iload_n 2, 1) := by decide +kernel
theorem dX3_begin_26 : decode cX3_begin 26 = .ok (.iconst 0, 1) := by decide +kernel
theorem dX3_begin_27 : decode cX3_begin 27 = .ok (.iastore, 1) := by decide +kernel
theorem dX3_begin_28 : decode cX3_begin 28 = .ok (.iinc 2 1, 3) := by decide +kernel
theorem dX3_begin_31 : decode cX3_begin 31 = .ok (.goto (-19), 3) := by decide +kernel
theorem dX3_begin_34 : decode cX3_begin 34 = .ok (.iconst 1, 1) := by decide +kernel
theorem dX3_begin_35 : decode cX3_begin 35 = .ok (.istore_n 2, 1) := by decide +kernel
theorem dX3_begin_36 : decode cX3_begin 36 = .ok (.iload_n 2, 1) := by decide +kernel
theorem dX3_begin_37 : decode cX3_begin 37 = .ok (.aload_n 1, 1) := by decide +kernel
theorem dX3_begin_38 : decode cX3_begin 38 = .ok (.invokevirtual 25, 3) := by decide +kernel
theorem dX3_begin_41 : decode cX3_begin 41 = .ok (.if_icmp .ge 62, 3) := by decide +kernel
theorem dX3_begin_44 : decode cX3_begin 44 = .ok (.aload_n 1, 1) := by decide +kernel
theorem dX3_begin_45 : decode cX3_begin 45 = .ok (.iload_n 2, 1) := by decide +kernel
theorem dX3_begin_46 : decode cX3_begin 46 = .ok (.invokevirtual 30, 3) := by decide +kernel
theorem dX3_begin_49 : decode cX3_begin 49 = .ok (.ifCond .eq 48, 3) := by decide +kernel
theorem dX3_begin_52 : decode cX3_begin 52 = .ok (.aload_n 1, 1) := by decide +kernel
theorem dX3_begin_53 : decode cX3_begin 53 = .ok (.iload_n 2, 1) := by decide +kernel
theorem dX3_begin_54 : decode cX3_begin 54 = .ok (.invokevirtual 30, 3) := by decide +kernel
theorem dX3_begin_57 : decode cX3_begin 57 = .ok (.iconst 2, 1) := by decide +kernel
theorem dX3_begin_58 : decode cX3_begin 58 = .ok (.if_icmp .eq 39, 3) := by decide +kernel
theorem dX3_begin_61 : decode cX3_begin 61 = .ok (.aload_n 0, 1) := by decide +kernel
theorem dX3_begin_62 : decode cX3_begin 62 = .ok (.getfield 11, 3) := by decide +kernel
theorem dX3_begin_65 : decode cX3_begin 65 = .ok (.aload_n 1, 1) := by decide +kernel
theorem dX3_begin_66 : decode cX3_begin 66 = .ok (.iload_n 2, 1) := by decide +kernel
theorem dX3_begin_67 : decode cX3_begin 67 = .ok (.invokevirtual 34, 3) := by decide +kernel
theorem dX3_begin_70 : decode cX3_begin 70 = .ok (.bipush 22, 2) := by decide +kernel
theorem dX3_begin_72 : decode cX3_begin 72 = .ok (.imul, 1) := by decide +kernel
theorem dX3_begin_73 : decode cX3_begin 73 = .ok (.aload_n 1, 1) := by decide +kernel
theorem dX3_begin_74 : decode cX3_begin 74 = .ok (.iload_n 2, 1) := by decide +kernel
theorem dX3_begin_75 : decode cX3_begin 75 = .ok (.invokevirtual 37, 3) := by decide +kernel
theorem dX3_begin_78 : decode cX3_begin 78 = .ok (.iadd, 1) := by decide +kernel
theorem dX3_begin_79 : decode cX3_begin 79 = .ok (.iconst 1, 1) := by decide +kernel
theorem dX3_begin_80 : decode cX3_begin 80 = .ok (.iload_n 2, 1) := by decide +kernel
theorem dX3_begin_81 : decode cX3_begin 81 = .ok (.ishl, 1) := by decide +kernel
theorem dX3_begin_82 : decode cX3_begin 82 = .ok (.invokestatic 40, 3) := by decide +kernel
theorem dX3_begin_85 : decode cX3_begin 85 = .ok (.aload_n 0, 1) := by decide +kernel
theorem dX3_begin_86 : decode cX3_begin 86 = .ok (.dup, 1) := by decide +kernel
theorem dX3_begin_87 : decode cX3_begin 87 = .ok (.getfield 22, 3) := by decide +kernel
theorem dX3_begin_90 : decode cX3_begin 90 = .ok (.iconst 1, 1) := by decide +kernel
theorem dX3_begin_91 : decode cX3_begin 91 = .ok (.iload_n 2, 1) := by decide +kernel
theorem dX3_begin_92 : decode cX3_begin 92 = .ok (.ishl, 1) := by decide +kernel
theorem dX3_begin_93 : decode cX3_begin 93 = .ok (.ior, 1) := by decide +kernel
theorem dX3_begin_94 : decode cX3_begin 94 = .ok (.putfield 22, 3) := by decide +kernel
theorem dX3_begin_97 : decode cX3_begin 97 = .ok (.iinc 2 1, 3) := by decide +kernel
theorem dX3_begin_100 : decode cX3_begin 100 = .ok (.goto (-64), 3) := by decide +kernel
theorem dX3_begin_103 : decode cX3_begin 103 = .ok (.return_, 1) := by decide +kernel
theorem dX3_hold_0 : decode cX3_hold 0 = .ok (.iconst 0, 1) := by decide +kernel
theorem dX3_hold_1 : decode cX3_hold 1 = .ok (.istore_n 2, 1) := by decide +kernel
theorem dX3_hold_2 : decode cX3_hold 2 = .ok (.iconst 0, 1) := by decide +kernel
theorem dX3_hold_3 : decode cX3_hold 3 = .ok (.istore_n 3, 1) := by decide +kernel
theorem dX3_hold_4 : decode cX3_hold 4 = .ok (.iload_n 3, 1) := by decide +kernel
theorem dX3_hold_5 : decode cX3_hold 5 = .ok (.aload_n 1, 1) := by decide +kernel
theorem dX3_hold_6 : decode cX3_hold 6 = .ok (.invokevirtual 25, 3) := by decide +kernel
theorem dX3_hold_9 : decode cX3_hold 9 = .ok (.if_icmp .ge 33, 3) := by decide +kernel
theorem dX3_hold_12 : decode cX3_hold 12 = .ok (.iload_n 2, 1) := by decide +kernel
theorem dX3_hold_13 : decode cX3_hold 13 = .ok (.aload_n 0, 1) := by decide +kernel
theorem dX3_hold_14 : decode cX3_hold 14 = .ok (.getfield 11, 3) := by decide +kernel
theorem dX3_hold_17 : decode cX3_hold 17 = .ok (.aload_n 1, 1) := by decide +kernel
theorem dX3_hold_18 : decode cX3_hold 18 = .ok (.iload_n 3, 1) := by decide +kernel
theorem dX3_hold_19 : decode cX3_hold 19 = .ok (.invokevirtual 34, 3) := by decide +kernel
theorem dX3_hold_22 : decode cX3_hold 22 = .ok (.bipush 22, 2) := by decide +kernel
theorem dX3_hold_24 : decode cX3_hold 24 = .ok (.imul, 1) := by decide +kernel
theorem dX3_hold_25 : decode cX3_hold 25 = .ok (.aload_n 1, 1) := by decide +kernel
theorem dX3_hold_26 : decode cX3_hold 26 = .ok (.iload_n 3, 1) := by decide +kernel
theorem dX3_hold_27 : decode cX3_hold 27 = .ok (.invokevirtual 37, 3) := by decide +kernel
theorem dX3_hold_30 : decode cX3_hold 30 = .ok (.iadd, 1) := by decide +kernel
theorem dX3_hold_31 : decode cX3_hold 31 = .ok (.invokestatic 44, 3) := by decide +kernel
theorem dX3_hold_34 : decode cX3_hold 34 = .ok (.ior, 1) := by decide +kernel
theorem dX3_hold_35 : decode cX3_hold 35 = .ok (.istore_n 2, 1) := by decide +kernel
theorem dX3_hold_36 : decode cX3_hold 36 = .ok (.iinc 3 1, 3) := by decide +kernel
theorem dX3_hold_39 : decode cX3_hold 39 = .ok (.goto (-35), 3) := by decide +kernel
theorem dX3_hold_42 : decode cX3_hold 42 = .ok (.aload_n 0, 1) := by decide +kernel
theorem dX3_hold_43 : decode cX3_hold 43 = .ok (.getfield 15, 3) := by decide +kernel
theorem dX3_hold_46 : decode cX3_hold 46 = .ok (.aload_n 0, 1) := by decide +kernel
theorem dX3_hold_47 : decode cX3_hold 47 = .ok (.getfield 18, 3) := by decide +kernel
theorem dX3_hold_50 : decode cX3_hold 50 = .ok (.iload_n 2, 1) := by decide +kernel
theorem dX3_hold_51 : decode cX3_hold 51 = .ok (.invokestatic 40, 3) := by decide +kernel
theorem dX3_hold_54 : decode cX3_hold 54 = .ok (.aload_n 0, 1) := by decide +kernel
theorem dX3_hold_55 : decode cX3_hold 55 = .ok (.dup, 1) := by decide +kernel
theorem dX3_hold_56 : decode cX3_hold 56 = .ok (.getfield 18, 3) := by decide +kernel
theorem dX3_hold_59 : decode cX3_hold 59 = .ok (.iconst 1, 1) := by decide +kernel
theorem dX3_hold_60 : decode cX3_hold 60 = .ok (.iadd, 1) := by decide +kernel
theorem dX3_hold_61 : decode cX3_hold 61 = .ok (.putfield 18, 3) := by decide +kernel
theorem dX3_hold_64 : decode cX3_hold 64 = .ok (.return_, 1) := by decide +kernel
theorem dX3_fewestNodes_0 : decode cX3_fewestNodes 0 = .ok (.aload_n 0, 1) := by decide +kernel
theorem dX3_fewestNodes_1 : decode cX3_fewestNodes 1 = .ok (.getfield 18, 3) := by decide +kernel
theorem dX3_fewestNodes_4 : decode cX3_fewestNodes 4 = .ok (.ifCond .ne 5, 3) := by decide +kernel
theorem dX3_fewestNodes_7 : decode cX3_fewestNodes 7 = .ok (.iconst 0, 1) := by decide +kernel
theorem dX3_fewestNodes_8 : decode cX3_fewestNodes 8 = .ok (.ireturn, 1) := by decide +kernel
theorem dX3_fewestNodes_9 : decode cX3_fewestNodes 9 = .ok (.aload_n 0, 1) := by decide +kernel
theorem dX3_fewestNodes_10 : decode cX3_fewestNodes 10 = .ok (.getfield 22, 3) := by decide +kernel
theorem dX3_fewestNodes_13 : decode cX3_fewestNodes 13 = .ok (.aload_n 0, 1) := by decide +kernel
theorem dX3_fewestNodes_14 : decode cX3_fewestNodes 14 = .ok (.iconst 0, 1) := by decide +kernel
theorem dX3_fewestNodes_15 : decode cX3_fewestNodes 15 = .ok (.invokevirtual 48, 3) := by decide +kernel
theorem dX3_fewestNodes_18 : decode cX3_fewestNodes 18 = .ok (.iconst (-1), 1) := by decide +kernel
theorem dX3_fewestNodes_19 : decode cX3_fewestNodes 19 = .ok (.ixor, 1) := by decide +kernel
theorem dX3_fewestNodes_20 : decode cX3_fewestNodes 20 = .ok (.iand, 1) := by decide +kernel
theorem dX3_fewestNodes_21 : decode cX3_fewestNodes 21 = .ok (.ifCond .eq 5, 3) := by decide +kernel
theorem dX3_fewestNodes_24 : decode cX3_fewestNodes 24 = .ok (.iconst 1, 1) := by decide +kernel
theorem dX3_fewestNodes_25 : decode cX3_fewestNodes 25 = .ok (.ireturn, 1) := by decide +kernel
theorem dX3_fewestNodes_26 : decode cX3_fewestNodes 26 = .ok (.iconst 0, 1) := by decide +kernel
theorem dX3_fewestNodes_27 : decode cX3_fewestNodes 27 = .ok (.istore_n 1, 1) := by decide +kernel
theorem dX3_fewestNodes_28 : decode cX3_fewestNodes 28 = .ok (.iload_n 1, 1) := by decide +kernel
theorem dX3_fewestNodes_29 : decode cX3_fewestNodes 29 = .ok (.bipush 21, 2) := by decide +kernel
theorem dX3_fewestNodes_31 : decode cX3_fewestNodes 31 = .ok (.if_icmp .ge 39, 3) := by decide +kernel
theorem dX3_fewestNodes_34 : decode cX3_fewestNodes 34 = .ok (.aload_n 0, 1) := by decide +kernel
theorem dX3_fewestNodes_35 : decode cX3_fewestNodes 35 = .ok (.getfield 22, 3) := by decide +kernel
theorem dX3_fewestNodes_38 : decode cX3_fewestNodes 38 = .ok (.iconst 1, 1) := by decide +kernel
theorem dX3_fewestNodes_39 : decode cX3_fewestNodes 39 = .ok (.iload_n 1, 1) := by decide +kernel
theorem dX3_fewestNodes_40 : decode cX3_fewestNodes 40 = .ok (.ishl, 1) := by decide +kernel
theorem dX3_fewestNodes_41 : decode cX3_fewestNodes 41 = .ok (.iand, 1) := by decide +kernel
theorem dX3_fewestNodes_42 : decode cX3_fewestNodes 42 = .ok (.istore_n 2, 1) := by decide +kernel
theorem dX3_fewestNodes_43 : decode cX3_fewestNodes 43 = .ok (.iload_n 2, 1) := by decide +kernel
theorem dX3_fewestNodes_44 : decode cX3_fewestNodes 44 = .ok (.ifCond .eq 20, 3) := by decide +kernel
theorem dX3_fewestNodes_47 : decode cX3_fewestNodes 47 = .ok (.aload_n 0, 1) := by decide +kernel
theorem dX3_fewestNodes_48 : decode cX3_fewestNodes 48 = .ok (.getfield 22, 3) := by decide +kernel
theorem dX3_fewestNodes_51 : decode cX3_fewestNodes 51 = .ok (.aload_n 0, 1) := by decide +kernel
theorem dX3_fewestNodes_52 : decode cX3_fewestNodes 52 = .ok (.iload_n 2, 1) := by decide +kernel
theorem dX3_fewestNodes_53 : decode cX3_fewestNodes 53 = .ok (.invokevirtual 48, 3) := by decide +kernel
theorem dX3_fewestNodes_56 : decode cX3_fewestNodes 56 = .ok (.iconst (-1), 1) := by decide +kernel
theorem dX3_fewestNodes_57 : decode cX3_fewestNodes 57 = .ok (.ixor, 1) := by decide +kernel
theorem dX3_fewestNodes_58 : decode cX3_fewestNodes 58 = .ok (.iand, 1) := by decide +kernel
theorem dX3_fewestNodes_59 : decode cX3_fewestNodes 59 = .ok (.ifCond .eq 5, 3) := by decide +kernel
theorem dX3_fewestNodes_62 : decode cX3_fewestNodes 62 = .ok (.iconst 2, 1) := by decide +kernel
theorem dX3_fewestNodes_63 : decode cX3_fewestNodes 63 = .ok (.ireturn, 1) := by decide +kernel
theorem dX3_fewestNodes_64 : decode cX3_fewestNodes 64 = .ok (.iinc 1 1, 3) := by decide +kernel
theorem dX3_fewestNodes_67 : decode cX3_fewestNodes 67 = .ok (.goto (-39), 3) := by decide +kernel
theorem dX3_fewestNodes_70 : decode cX3_fewestNodes 70 = .ok (.bipush (-9), 2) := by decide +kernel
theorem dX3_fewestNodes_72 : decode cX3_fewestNodes 72 = .ok (.ireturn, 1) := by decide +kernel
theorem dX3_sharedWith_0 : decode cX3_sharedWith 0 = .ok (.iconst 0, 1) := by decide +kernel
theorem dX3_sharedWith_1 : decode cX3_sharedWith 1 = .ok (.istore_n 2, 1) := by decide +kernel
theorem dX3_sharedWith_2 : decode cX3_sharedWith 2 = .ok (.iconst 0, 1) := by decide +kernel
theorem dX3_sharedWith_3 : decode cX3_sharedWith 3 = .ok (.istore_n 3, 1) := by decide +kernel
theorem dX3_sharedWith_4 : decode cX3_sharedWith 4 = .ok (.iload_n 3, 1) := by decide +kernel
theorem dX3_sharedWith_5 : decode cX3_sharedWith 5 = .ok (.aload_n 0, 1) := by decide +kernel
theorem dX3_sharedWith_6 : decode cX3_sharedWith 6 = .ok (.getfield 18, 3) := by decide +kernel
theorem dX3_sharedWith_9 : decode cX3_sharedWith 9 = .ok (.if_icmp .ge 34, 3) := by decide +kernel
theorem dX3_sharedWith_12 : decode cX3_sharedWith 12 = .ok (.aload_n 0, 1) := by decide +kernel
theorem dX3_sharedWith_13 : decode cX3_sharedWith 13 = .ok (.getfield 15, 3) := by decide +kernel
theorem dX3_sharedWith_16 : decode cX3_sharedWith 16 = .ok (.iload_n 3, 1) := by decide +kernel
theorem dX3_sharedWith_17 : decode cX3_sharedWith 17 = .ok (.invokestatic 44, 3) := by decide +kernel
theorem dX3_sharedWith_20 : decode cX3_sharedWith 20 = .ok (.iload_n 1, 1) := by decide +kernel
theorem dX3_sharedWith_21 : decode cX3_sharedWith 21 = .ok (.iand, 1) := by decide +kernel
theorem dX3_sharedWith_22 : decode cX3_sharedWith 22 = .ok (.iload_n 1, 1) := by decide +kernel
theorem dX3_sharedWith_23 : decode cX3_sharedWith 23 = .ok (.if_icmp .ne 14, 3) := by decide +kernel
theorem dX3_sharedWith_26 : decode cX3_sharedWith 26 = .ok (.iload_n 2, 1) := by decide +kernel
theorem dX3_sharedWith_27 : decode cX3_sharedWith 27 = .ok (.aload_n 0, 1) := by decide +kernel
theorem dX3_sharedWith_28 : decode cX3_sharedWith 28 = .ok (.getfield 15, 3) := by decide +kernel
theorem dX3_sharedWith_31 : decode cX3_sharedWith 31 = .ok (.iload_n 3, 1) := by decide +kernel
theorem dX3_sharedWith_32 : decode cX3_sharedWith 32 = .ok (.invokestatic 44, 3) := by decide +kernel
theorem dX3_sharedWith_35 : decode cX3_sharedWith 35 = .ok (.ior, 1) := by decide +kernel
theorem dX3_sharedWith_36 : decode cX3_sharedWith 36 = .ok (.istore_n 2, 1) := by decide +kernel
theorem dX3_sharedWith_37 : decode cX3_sharedWith 37 = .ok (.iinc 3 1, 3) := by decide +kernel
theorem dX3_sharedWith_40 : decode cX3_sharedWith 40 = .ok (.goto (-36), 3) := by decide +kernel
theorem dX3_sharedWith_43 : decode cX3_sharedWith 43 = .ok (.iload_n 2, 1) := by decide +kernel
theorem dX3_sharedWith_44 : decode cX3_sharedWith 44 = .ok (.ireturn, 1) := by decide +kernel
theorem dX4_init_0 : decode cX4_init 0 = .ok (.aload_n 0, 1) := by decide +kernel
theorem dX4_init_1 : decode cX4_init 1 = .ok (.invokespecial 3, 3) := by decide +kernel
theorem dX4_init_4 : decode cX4_init 4 = .ok (.aload_n 0, 1) := by decide +kernel
theorem dX4_init_5 : decode cX4_init 5 = .ok (.bipush 6, 2) := by decide +kernel
theorem dX4_init_7 : decode cX4_init 7 = .ok (.newarray .int, 2) := by decide +kernel
theorem dX4_init_9 : decode cX4_init 9 = .ok (.putfield 9, 3) := by decide +kernel
theorem dX4_init_12 : decode cX4_init 12 = .ok (.return_, 1) := by decide +kernel
theorem dX4_size_0 : decode cX4_size 0 = .ok (.aload_n 0, 1) := by decide +kernel
theorem dX4_size_1 : decode cX4_size 1 = .ok (.getfield 15, 3) := by decide +kernel
theorem dX4_size_4 : decode cX4_size 4 = .ok (.ireturn, 1) := by decide +kernel
theorem dX4_at_0 : decode cX4_at 0 = .ok (.aload_n 0, 1) := by decide +kernel
theorem dX4_at_1 : decode cX4_at 1 = .ok (.getfield 9, 3) := by decide +kernel
theorem dX4_at_4 : decode cX4_at 4 = .ok (.iload_n 1, 1) := by decide +kernel
theorem dX4_at_5 : decode cX4_at 5 = .ok (.invokestatic 19, 3) := by decide +kernel
theorem dX4_at_8 : decode cX4_at 8 = .ok (.ireturn, 1) := by decide +kernel
theorem dX4_clear_0 : decode cX4_clear 0 = .ok (.aload_n 0, 1) := by decide +kernel
theorem dX4_clear_1 : decode cX4_clear 1 = .ok (.iconst 0, 1) := by decide +kernel
theorem dX4_clear_2 : decode cX4_clear 2 = .ok (.putfield 15, 3) := by decide +kernel
theorem dX4_clear_5 : decode cX4_clear 5 = .ok (.return_, 1) := by decide +kernel
theorem dX4_has_0 : decode cX4_has 0 = .ok (.iconst 0, 1) := by decide +kernel
theorem dX4_has_1 : decode cX4_has 1 = .ok (.istore_n 2, 1) := by decide +kernel
theorem dX4_has_2 : decode cX4_has 2 = .ok (.iload_n 2, 1) := by decide +kernel
theorem dX4_has_3 : decode cX4_has 3 = .ok (.aload_n 0, 1) := by decide +kernel
theorem dX4_has_4 : decode cX4_has 4 = .ok (.getfield 15, 3) := by decide +kernel
theorem dX4_has_7 : decode cX4_has 7 = .ok (.if_icmp .ge 20, 3) := by decide +kernel
theorem dX4_has_10 : decode cX4_has 10 = .ok (.aload_n 0, 1) := by decide +kernel
theorem dX4_has_11 : decode cX4_has 11 = .ok (.iload_n 2, 1) := by decide +kernel
theorem dX4_has_12 : decode cX4_has 12 = .ok (.invokevirtual 23, 3) := by decide +kernel
theorem dX4_has_15 : decode cX4_has 15 = .ok (.iload_n 1, 1) := by decide +kernel
theorem dX4_has_16 : decode cX4_has 16 = .ok (.if_icmp .ne 5, 3) := by decide +kernel
theorem dX4_has_19 : decode cX4_has 19 = .ok (.iconst 1, 1) := by decide +kernel
theorem dX4_has_20 : decode cX4_has 20 = .ok (.ireturn, 1) := by decide +kernel
theorem dX4_has_21 : decode cX4_has 21 = .ok (.iinc 2 1, 3) := by decide +kernel
theorem dX4_has_24 : decode cX4_has 24 = .ok (.goto (-22), 3) := by decide +kernel
theorem dX4_has_27 : decode cX4_has 27 = .ok (.iconst 0, 1) := by decide +kernel
theorem dX4_has_28 : decode cX4_has 28 = .ok (.ireturn, 1) := by decide +kernel
theorem dX4_add_0 : decode cX4_add 0 = .ok (.aload_n 0, 1) := by decide +kernel
theorem dX4_add_1 : decode cX4_add 1 = .ok (.getfield 15, 3) := by decide +kernel
theorem dX4_add_4 : decode cX4_add 4 = .ok (.bipush 6, 2) := by decide +kernel
theorem dX4_add_6 : decode cX4_add 6 = .ok (.if_icmp .ge 25, 3) := by decide +kernel
theorem dX4_add_9 : decode cX4_add 9 = .ok (.aload_n 0, 1) := by decide +kernel
theorem dX4_add_10 : decode cX4_add 10 = .ok (.getfield 9, 3) := by decide +kernel
theorem dX4_add_13 : decode cX4_add 13 = .ok (.aload_n 0, 1) := by decide +kernel
theorem dX4_add_14 : decode cX4_add 14 = .ok (.getfield 15, 3) := by decide +kernel
theorem dX4_add_17 : decode cX4_add 17 = .ok (.iload_n 1, 1) := by decide +kernel
theorem dX4_add_18 : decode cX4_add 18 = .ok (.invokestatic 27, 3) := by decide +kernel
theorem dX4_add_21 : decode cX4_add 21 = .ok (.aload_n 0, 1) := by decide +kernel
theorem dX4_add_22 : decode cX4_add 22 = .ok (.dup, 1) := by decide +kernel
theorem dX4_add_23 : decode cX4_add 23 = .ok (.getfield 15, 3) := by decide +kernel
theorem dX4_add_26 : decode cX4_add 26 = .ok (.iconst 1, 1) := by decide +kernel
theorem dX4_add_27 : decode cX4_add 27 = .ok (.iadd, 1) := by decide +kernel
theorem dX4_add_28 : decode cX4_add 28 = .ok (.putfield 15, 3) := by decide +kernel
theorem dX4_add_31 : decode cX4_add 31 = .ok (.return_, 1) := by decide +kernel
theorem dX4_become_0 : decode cX4_become 0 = .ok (.aload_n 0, 1) := by decide +kernel
theorem dX4_become_1 : decode cX4_become 1 = .ok (.invokevirtual 31, 3) := by decide +kernel
theorem dX4_become_4 : decode cX4_become 4 = .ok (.iconst 0, 1) := by decide +kernel
theorem dX4_become_5 : decode cX4_become 5 = .ok (.istore_n 2, 1) := by decide +kernel
theorem dX4_become_6 : decode cX4_become 6 = .ok (.iload_n 2, 1) := by decide +kernel
theorem dX4_become_7 : decode cX4_become 7 = .ok (.aload_n 1, 1) := by decide +kernel
theorem dX4_become_8 : decode cX4_become 8 = .ok (.getfield 15, 3) := by decide +kernel
theorem dX4_become_11 : decode cX4_become 11 = .ok (.if_icmp .ge 18, 3) := by decide +kernel
theorem dX4_become_14 : decode cX4_become 14 = .ok (.aload_n 0, 1) := by decide +kernel
theorem dX4_become_15 : decode cX4_become 15 = .ok (.aload_n 1, 1) := by decide +kernel
theorem dX4_become_16 : decode cX4_become 16 = .ok (.iload_n 2, 1) := by decide +kernel
theorem dX4_become_17 : decode cX4_become 17 = .ok (.invokevirtual 23, 3) := by decide +kernel
theorem dX4_become_20 : decode cX4_become 20 = .ok (.invokevirtual 34, 3) := by decide +kernel
theorem dX4_become_23 : decode cX4_become 23 = .ok (.iinc 2 1, 3) := by decide +kernel
theorem dX4_become_26 : decode cX4_become 26 = .ok (.goto (-20), 3) := by decide +kernel
theorem dX4_become_29 : decode cX4_become 29 = .ok (.return_, 1) := by decide +kernel
theorem dX5_init_0 : decode cX5_init 0 = .ok (.aload_n 0, 1) := by decide +kernel
theorem dX5_init_1 : decode cX5_init 1 = .ok (.invokespecial 3, 3) := by decide +kernel
theorem dX5_init_4 : decode cX5_init 4 = .ok (.aload_n 0, 1) := by decide +kernel
theorem dX5_init_5 : decode cX5_init 5 = .ok (.bipush 21, 2) := by decide +kernel
theorem dX5_init_7 : decode cX5_init 7 = .ok (.newarray .long, 2) := by decide +kernel
theorem dX5_init_9 : decode cX5_init 9 = .ok (.putfield 9, 3) := by decide +kernel
theorem dX5_init_12 : decode cX5_init 12 = .ok (.aload_n 0, 1) := by decide +kernel
theorem dX5_init_13 : decode cX5_init 13 = .ok (.bipush 21, 2) := by decide +kernel
theorem dX5_init_15 : decode cX5_init 15 = .ok (.newarray .long, 2) := by decide +kernel
theorem dX5_init_17 : decode cX5_init 17 = .ok (.putfield 15, 3) := by decide +kernel
theorem dX5_init_20 : decode cX5_init 20 = .ok (.aload_n 0, 1) := by decide +kernel
theorem dX5_init_21 : decode cX5_init 21 = .ok (.bipush 21, 2) := by decide +kernel
theorem dX5_init_23 : decode cX5_init 23 = .ok (.newarray .int, 2) := by decide +kernel
theorem dX5_init_25 : decode cX5_init 25 = .ok (.putfield 18, 3) := by decide +kernel
theorem dX5_init_28 : decode cX5_init 28 = .ok (.return_, 1) := by decide +kernel
theorem dX5_meaning_0 : decode cX5_meaning 0 = .ok (.aload_n 0, 1) := by decide +kernel
theorem dX5_meaning_1 : decode cX5_meaning 1 = .ok (.getfield 9, 3) := by decide +kernel
theorem dX5_meaning_4 : decode cX5_meaning 4 = .ok (.iconst 0, 1) := by decide +kernel
theorem dX5_meaning_5 : decode cX5_meaning 5 = .ok (.invokestatic 22, 3) := by decide +kernel
theorem dX5_meaning_8 : decode cX5_meaning 8 = .ok (.lreturn, 1) := by decide +kernel
theorem dX5_idlePlaces_0 : decode cX5_idlePlaces 0 = .ok (.aload_n 0, 1) := by decide +kernel
theorem dX5_idlePlaces_1 : decode cX5_idlePlaces 1 = .ok (.getfield 26, 3) := by decide +kernel
theorem dX5_idlePlaces_4 : decode cX5_idlePlaces 4 = .ok (.ireturn, 1) := by decide +kernel
theorem dX5_metRules_0 : decode cX5_metRules 0 = .ok (.aload_n 0, 1) := by decide +kernel
theorem dX5_metRules_1 : decode cX5_metRules 1 = .ok (.getfield 30, 3) := by decide +kernel
theorem dX5_metRules_4 : decode cX5_metRules 4 = .ok (.ireturn, 1) := by decide +kernel
theorem dX5_weigh_0 : decode cX5_weigh 0 = .ok (.iconst 0, 1) := by decide +kernel
theorem dX5_weigh_1 : decode cX5_weigh 1 = .ok (.istore_n 3, 1) := by decide +kernel
theorem dX5_weigh_2 : decode cX5_weigh 2 = .ok (.aload_n 1, 1) := by decide +kernel
theorem dX5_weigh_3 : decode cX5_weigh 3 = .ok (.invokevirtual 33, 3) := by decide +kernel
theorem dX5_weigh_6 : decode cX5_weigh 6 = .ok (.iconst 1, 1) := by decide +kernel
theorem dX5_weigh_7 : decode cX5_weigh 7 = .ok (.isub, 1) := by decide +kernel
theorem dX5_weigh_8 : decode cX5_weigh 8 = .ok (.istore 4, 2) := by decide +kernel
theorem dX5_weigh_10 : decode cX5_weigh 10 = .ok (.iload 4, 2) := by decide +kernel
theorem dX5_weigh_12 : decode cX5_weigh 12 = .ok (.ifCond .lt 53, 3) := by decide +kernel
theorem dX5_weigh_15 : decode cX5_weigh 15 = .ok (.aload_n 0, 1) := by decide +kernel
theorem dX5_weigh_16 : decode cX5_weigh 16 = .ok (.getfield 9, 3) := by decide +kernel
theorem dX5_weigh_19 : decode cX5_weigh 19 = .ok (.iload 4, 2) := by decide +kernel
theorem dX5_weigh_21 : decode cX5_weigh 21 = .ok (.aload_n 0, 1) := by decide +kernel
theorem dX5_weigh_22 : decode cX5_weigh 22 = .ok (.aload_n 1, 1) := by decide +kernel
theorem dX5_weigh_23 : decode cX5_weigh 23 = .ok (.aload_n 2, 1) := by decide +kernel
theorem dX5_weigh_24 : decode cX5_weigh 24 = .ok (.iload 4, 2) := by decide +kernel
theorem dX5_weigh_26 : decode cX5_weigh 26 = .ok (.invokevirtual 39, 3) := by decide +kernel
theorem dX5_weigh_29 : decode cX5_weigh 29 = .ok (.invokestatic 43, 3) := by decide +kernel
theorem dX5_weigh_32 : decode cX5_weigh 32 = .ok (.aload_n 0, 1) := by decide +kernel
theorem dX5_weigh_33 : decode cX5_weigh 33 = .ok (.getfield 18, 3) := by decide +kernel
theorem dX5_weigh_36 : decode cX5_weigh 36 = .ok (.iload 4, 2) := by decide +kernel
theorem dX5_weigh_38 : decode cX5_weigh 38 = .ok (.aload_n 0, 1) := by decide +kernel
theorem dX5_weigh_39 : decode cX5_weigh 39 = .ok (.aload_n 1, 1) := by decide +kernel
theorem dX5_weigh_40 : decode cX5_weigh 40 = .ok (.iload 4, 2) := by decide +kernel
theorem dX5_weigh_42 : decode cX5_weigh 42 = .ok (.invokevirtual 47, 3) := by decide +kernel
theorem dX5_weigh_45 : decode cX5_weigh 45 = .ok (.invokestatic 51, 3) := by decide +kernel
theorem dX5_weigh_48 : decode cX5_weigh 48 = .ok (.iload_n 3, 1) := by decide +kernel
theorem dX5_weigh_49 : decode cX5_weigh 49 = .ok (.aload_n 0, 1) := by decide +kernel
theorem dX5_weigh_50 : decode cX5_weigh 50 = .ok (.aload_n 1, 1) := by decide +kernel
theorem dX5_weigh_51 : decode cX5_weigh 51 = .ok (.aload_n 2, 1) := by decide +kernel
theorem dX5_weigh_52 : decode cX5_weigh 52 = .ok (.iload 4, 2) := by decide +kernel
theorem dX5_weigh_54 : decode cX5_weigh 54 = .ok (.invokevirtual 54, 3) := by decide +kernel
theorem dX5_weigh_57 : decode cX5_weigh 57 = .ok (.ior, 1) := by decide +kernel
theorem dX5_weigh_58 : decode cX5_weigh 58 = .ok (.istore_n 3, 1) := by decide +kernel
theorem dX5_weigh_59 : decode cX5_weigh 59 = .ok (.iinc 4 (-1), 3) := by decide +kernel
theorem dX5_weigh_62 : decode cX5_weigh 62 = .ok (.goto (-52), 3) := by decide +kernel
theorem dX5_weigh_65 : decode cX5_weigh 65 = .ok (.aload_n 0, 1) := by decide +kernel
theorem dX5_weigh_66 : decode cX5_weigh 66 = .ok (.aload_n 1, 1) := by decide +kernel
theorem dX5_weigh_67 : decode cX5_weigh 67 = .ok (.invokevirtual 58, 3) := by decide +kernel
theorem dX5_weigh_70 : decode cX5_weigh 70 = .ok (.aload_n 0, 1) := by decide +kernel
theorem dX5_weigh_71 : decode cX5_weigh 71 = .ok (.bipush 63, 2) := by decide +kernel
theorem dX5_weigh_73 : decode cX5_weigh 73 = .ok (.iload_n 3, 1) := by decide +kernel
theorem dX5_weigh_74 : decode cX5_weigh 74 = .ok (.aload_n 0, 1) := by decide +kernel
theorem dX5_weigh_75 : decode cX5_weigh 75 = .ok (.invokevirtual 62, 3) := by decide +kernel
theorem dX5_weigh_78 : decode cX5_weigh 78 = .ok (.ior, 1) := by decide +kernel
theorem dX5_weigh_79 : decode cX5_weigh 79 = .ok (.iconst (-1), 1) := by decide +kernel
theorem dX5_weigh_80 : decode cX5_weigh 80 = .ok (.ixor, 1) := by decide +kernel
theorem dX5_weigh_81 : decode cX5_weigh 81 = .ok (.iand, 1) := by decide +kernel
theorem dX5_weigh_82 : decode cX5_weigh 82 = .ok (.putfield 30, 3) := by decide +kernel
theorem dX5_weigh_85 : decode cX5_weigh 85 = .ok (.return_, 1) := by decide +kernel
theorem dX5_meaningOf_0 : decode cX5_meaningOf 0 = .ok (.aload_n 0, 1) := by decide +kernel
theorem dX5_meaningOf_1 : decode cX5_meaningOf 1 = .ok (.getfield 9, 3) := by decide +kernel
theorem dX5_meaningOf_4 : decode cX5_meaningOf 4 = .ok (.aload_n 1, 1) := by decide +kernel
theorem dX5_meaningOf_5 : decode cX5_meaningOf 5 = .ok (.iload_n 3, 1) := by decide +kernel
theorem dX5_meaningOf_6 : decode cX5_meaningOf 6 = .ok (.invokevirtual 65, 3) := by decide +kernel
theorem dX5_meaningOf_9 : decode cX5_meaningOf 9 = .ok (.invokestatic 22, 3) := by decide +kernel
theorem dX5_meaningOf_12 : decode cX5_meaningOf 12 = .ok (.lstore 4, 2) := by decide +kernel
theorem dX5_meaningOf_14 : decode cX5_meaningOf 14 = .ok (.aload_n 0, 1) := by decide +kernel
theorem dX5_meaningOf_15 : decode cX5_meaningOf 15 = .ok (.getfield 9, 3) := by decide +kernel
theorem dX5_meaningOf_18 : decode cX5_meaningOf 18 = .ok (.aload_n 1, 1) := by decide +kernel
theorem dX5_meaningOf_19 : decode cX5_meaningOf 19 = .ok (.iload_n 3, 1) := by decide +kernel
theorem dX5_meaningOf_20 : decode cX5_meaningOf 20 = .ok (.invokevirtual 69, 3) := by decide +kernel
theorem dX5_meaningOf_23 : decode cX5_meaningOf 23 = .ok (.invokestatic 22, 3) := by decide +kernel
theorem dX5_meaningOf_26 : decode cX5_meaningOf 26 = .ok (.lstore 6, 2) := by decide +kernel
theorem dX5_meaningOf_28 : decode cX5_meaningOf 28 = .ok (.aload_n 1, 1) := by decide +kernel
theorem dX5_meaningOf_29 : decode cX5_meaningOf 29 = .ok (.iload_n 3, 1) := by decide +kernel
theorem dX5_meaningOf_30 : decode cX5_meaningOf 30 = .ok (.invokevirtual 72, 3) := by decide +kernel
theorem dX5_meaningOf_33 : decode cX5_meaningOf 33 = .ok (.tableswitch 103 0 6 #[43, 56, 103, 67, 73, 79, 93], 43) := by decide +kernel
theorem dX5_meaningOf_76 : decode cX5_meaningOf 76 = .ok (.aload_n 2, 1) := by decide +kernel
theorem dX5_meaningOf_77 : decode cX5_meaningOf 77 = .ok (.aload_n 1, 1) := by decide +kernel
theorem dX5_meaningOf_78 : decode cX5_meaningOf 78 = .ok (.iload_n 3, 1) := by decide +kernel
theorem dX5_meaningOf_79 : decode cX5_meaningOf 79 = .ok (.invokevirtual 75, 3) := by decide +kernel
theorem dX5_meaningOf_82 : decode cX5_meaningOf 82 = .ok (.invokevirtual 78, 3) := by decide +kernel
theorem dX5_meaningOf_85 : decode cX5_meaningOf 85 = .ok (.invokestatic 83, 3) := by decide +kernel
theorem dX5_meaningOf_88 : decode cX5_meaningOf 88 = .ok (.lreturn, 1) := by decide +kernel
theorem dX5_meaningOf_89 : decode cX5_meaningOf 89 = .ok (.ldc2_w 87, 3) := by decide +kernel
theorem dX5_meaningOf_92 : decode cX5_meaningOf 92 = .ok (.lload 4, 2) := by decide +kernel
theorem dX5_meaningOf_94 : decode cX5_meaningOf 94 = .ok (.ldc2_w 89, 3) := by decide +kernel
theorem dX5_meaningOf_97 : decode cX5_meaningOf 97 = .ok (.lxor, 1) := by decide +kernel
theorem dX5_meaningOf_98 : decode cX5_meaningOf 98 = .ok (.land, 1) := by decide +kernel
theorem dX5_meaningOf_99 : decode cX5_meaningOf 99 = .ok (.lreturn, 1) := by decide +kernel
theorem dX5_meaningOf_100 : decode cX5_meaningOf 100 = .ok (.lload 4, 2) := by decide +kernel
theorem dX5_meaningOf_102 : decode cX5_meaningOf 102 = .ok (.lload 6, 2) := by decide +kernel
theorem dX5_meaningOf_104 : decode cX5_meaningOf 104 = .ok (.land, 1) := by decide +kernel
theorem dX5_meaningOf_105 : decode cX5_meaningOf 105 = .ok (.lreturn, 1) := by decide +kernel
theorem dX5_meaningOf_106 : decode cX5_meaningOf 106 = .ok (.lload 4, 2) := by decide +kernel
theorem dX5_meaningOf_108 : decode cX5_meaningOf 108 = .ok (.lload 6, 2) := by decide +kernel
theorem dX5_meaningOf_110 : decode cX5_meaningOf 110 = .ok (.lor, 1) := by decide +kernel
theorem dX5_meaningOf_111 : decode cX5_meaningOf 111 = .ok (.lreturn, 1) := by decide +kernel
theorem dX5_meaningOf_112 : decode cX5_meaningOf 112 = .ok (.ldc2_w 87, 3) := by decide +kernel
theorem dX5_meaningOf_115 : decode cX5_meaningOf 115 = .ok (.lload 4, 2) := by decide +kernel
theorem dX5_meaningOf_117 : decode cX5_meaningOf 117 = .ok (.ldc2_w 89, 3) := by decide +kernel
theorem dX5_meaningOf_120 : decode cX5_meaningOf 120 = .ok (.lxor, 1) := by decide +kernel
theorem dX5_meaningOf_121 : decode cX5_meaningOf 121 = .ok (.lload 6, 2) := by decide +kernel
theorem dX5_meaningOf_123 : decode cX5_meaningOf 123 = .ok (.lor, 1) := by decide +kernel
theorem dX5_meaningOf_124 : decode cX5_meaningOf 124 = .ok (.land, 1) := by decide +kernel
theorem dX5_meaningOf_125 : decode cX5_meaningOf 125 = .ok (.lreturn, 1) := by decide +kernel
theorem dX5_meaningOf_126 : decode cX5_meaningOf 126 = .ok (.lload 4, 2) := by decide +kernel
theorem dX5_meaningOf_128 : decode cX5_meaningOf 128 = .ok (.lload 6, 2) := by decide +kernel
theorem dX5_meaningOf_130 : decode cX5_meaningOf 130 = .ok (.ldc2_w 89, 3) := by decide +kernel
theorem dX5_meaningOf_133 : decode cX5_meaningOf 133 = .ok (.lxor, 1) := by decide +kernel
theorem dX5_meaningOf_134 : decode cX5_meaningOf 134 = .ok (.land, 1) := by decide +kernel
theorem dX5_meaningOf_135 : decode cX5_meaningOf 135 = .ok (.lreturn, 1) := by decide +kernel
theorem dX5_meaningOf_136 : decode cX5_meaningOf 136 = .ok (.lload 4, 2) := by decide +kernel
theorem dX5_meaningOf_138 : decode cX5_meaningOf 138 = .ok (.lreturn, 1) := by decide +kernel
theorem dX5_bareOf_0 : decode cX5_bareOf 0 = .ok (.aload_n 1, 1) := by decide +kernel
theorem dX5_bareOf_1 : decode cX5_bareOf 1 = .ok (.iload_n 2, 1) := by decide +kernel
theorem dX5_bareOf_2 : decode cX5_bareOf 2 = .ok (.invokevirtual 72, 3) := by decide +kernel
theorem dX5_bareOf_5 : decode cX5_bareOf 5 = .ok (.istore_n 3, 1) := by decide +kernel
theorem dX5_bareOf_6 : decode cX5_bareOf 6 = .ok (.iload_n 3, 1) := by decide +kernel
theorem dX5_bareOf_7 : decode cX5_bareOf 7 = .ok (.ifCond .eq 8, 3) := by decide +kernel
theorem dX5_bareOf_10 : decode cX5_bareOf 10 = .ok (.iload_n 3, 1) := by decide +kernel
theorem dX5_bareOf_11 : decode cX5_bareOf 11 = .ok (.iconst 2, 1) := by decide +kernel
theorem dX5_bareOf_12 : decode cX5_bareOf 12 = .ok (.if_icmp .ne 5, 3) := by decide +kernel
theorem dX5_bareOf_15 : decode cX5_bareOf 15 = .ok (.iconst 0, 1) := by decide +kernel
theorem dX5_bareOf_16 : decode cX5_bareOf 16 = .ok (.ireturn, 1) := by decide +kernel
theorem dX5_bareOf_17 : decode cX5_bareOf 17 = .ok (.aload_n 0, 1) := by decide +kernel
theorem dX5_bareOf_18 : decode cX5_bareOf 18 = .ok (.getfield 18, 3) := by decide +kernel
theorem dX5_bareOf_21 : decode cX5_bareOf 21 = .ok (.aload_n 1, 1) := by decide +kernel
theorem dX5_bareOf_22 : decode cX5_bareOf 22 = .ok (.iload_n 2, 1) := by decide +kernel
theorem dX5_bareOf_23 : decode cX5_bareOf 23 = .ok (.invokevirtual 65, 3) := by decide +kernel
theorem dX5_bareOf_26 : decode cX5_bareOf 26 = .ok (.invokestatic 91, 3) := by decide +kernel
theorem dX5_bareOf_29 : decode cX5_bareOf 29 = .ok (.istore 4, 2) := by decide +kernel
theorem dX5_bareOf_31 : decode cX5_bareOf 31 = .ok (.iload_n 3, 1) := by decide +kernel
theorem dX5_bareOf_32 : decode cX5_bareOf 32 = .ok (.iconst 1, 1) := by decide +kernel
theorem dX5_bareOf_33 : decode cX5_bareOf 33 = .ok (.if_icmp .ne 8, 3) := by decide +kernel
theorem dX5_bareOf_36 : decode cX5_bareOf 36 = .ok (.iload 4, 2) := by decide +kernel
theorem dX5_bareOf_38 : decode cX5_bareOf 38 = .ok (.goto 22, 3) := by decide +kernel
theorem dX5_bareOf_41 : decode cX5_bareOf 41 = .ok (.iload 4, 2) := by decide +kernel
theorem dX5_bareOf_43 : decode cX5_bareOf 43 = .ok (.aload_n 0, 1) := by decide +kernel
theorem dX5_bareOf_44 : decode cX5_bareOf 44 = .ok (.getfield 18, 3) := by decide +kernel
theorem dX5_bareOf_47 : decode cX5_bareOf 47 = .ok (.aload_n 1, 1) := by decide +kernel
theorem dX5_bareOf_48 : decode cX5_bareOf 48 = .ok (.iload_n 2, 1) := by decide +kernel
theorem dX5_bareOf_49 : decode cX5_bareOf 49 = .ok (.invokevirtual 69, 3) := by decide +kernel
theorem dX5_bareOf_52 : decode cX5_bareOf 52 = .ok (.invokestatic 91, 3) := by decide +kernel
theorem dX5_bareOf_55 : decode cX5_bareOf 55 = .ok (.ior, 1) := by decide +kernel
theorem dX5_bareOf_56 : decode cX5_bareOf 56 = .ok (.iconst 1, 1) := by decide +kernel
theorem dX5_bareOf_57 : decode cX5_bareOf 57 = .ok (.iload_n 3, 1) := by decide +kernel
theorem dX5_bareOf_58 : decode cX5_bareOf 58 = .ok (.ishl, 1) := by decide +kernel
theorem dX5_bareOf_59 : decode cX5_bareOf 59 = .ok (.ior, 1) := by decide +kernel
theorem dX5_bareOf_60 : decode cX5_bareOf 60 = .ok (.ireturn, 1) := by decide +kernel
theorem dX5_findIdle_0 : decode cX5_findIdle 0 = .ok (.aload_n 0, 1) := by decide +kernel
theorem dX5_findIdle_1 : decode cX5_findIdle 1 = .ok (.iconst 0, 1) := by decide +kernel
theorem dX5_findIdle_2 : decode cX5_findIdle 2 = .ok (.putfield 26, 3) := by decide +kernel
theorem dX5_findIdle_5 : decode cX5_findIdle 5 = .ok (.aload_n 0, 1) := by decide +kernel
theorem dX5_findIdle_6 : decode cX5_findIdle 6 = .ok (.getfield 15, 3) := by decide +kernel
theorem dX5_findIdle_9 : decode cX5_findIdle 9 = .ok (.iconst 0, 1) := by decide +kernel
theorem dX5_findIdle_10 : decode cX5_findIdle 10 = .ok (.ldc2_w 87, 3) := by decide +kernel
theorem dX5_findIdle_13 : decode cX5_findIdle 13 = .ok (.invokestatic 43, 3) := by decide +kernel
theorem dX5_findIdle_16 : decode cX5_findIdle 16 = .ok (.iconst 0, 1) := by decide +kernel
theorem dX5_findIdle_17 : decode cX5_findIdle 17 = .ok (.istore_n 2, 1) := by decide +kernel
theorem dX5_findIdle_18 : decode cX5_findIdle 18 = .ok (.iload_n 2, 1) := by decide +kernel
theorem dX5_findIdle_19 : decode cX5_findIdle 19 = .ok (.aload_n 1, 1) := by decide +kernel
theorem dX5_findIdle_20 : decode cX5_findIdle 20 = .ok (.invokevirtual 33, 3) := by decide +kernel
theorem dX5_findIdle_23 : decode cX5_findIdle 23 = .ok (.if_icmp .ge 169, 3) := by decide +kernel
theorem dX5_findIdle_26 : decode cX5_findIdle 26 = .ok (.aload_n 1, 1) := by decide +kernel
theorem dX5_findIdle_27 : decode cX5_findIdle 27 = .ok (.iload_n 2, 1) := by decide +kernel
theorem dX5_findIdle_28 : decode cX5_findIdle 28 = .ok (.invokevirtual 72, 3) := by decide +kernel
theorem dX5_findIdle_31 : decode cX5_findIdle 31 = .ok (.istore_n 3, 1) := by decide +kernel
theorem dX5_findIdle_32 : decode cX5_findIdle 32 = .ok (.aload_n 0, 1) := by decide +kernel
theorem dX5_findIdle_33 : decode cX5_findIdle 33 = .ok (.getfield 15, 3) := by decide +kernel
theorem dX5_findIdle_36 : decode cX5_findIdle 36 = .ok (.iload_n 2, 1) := by decide +kernel
theorem dX5_findIdle_37 : decode cX5_findIdle 37 = .ok (.invokestatic 22, 3) := by decide +kernel
theorem dX5_findIdle_40 : decode cX5_findIdle 40 = .ok (.lstore 4, 2) := by decide +kernel
theorem dX5_findIdle_42 : decode cX5_findIdle 42 = .ok (.iload_n 3, 1) := by decide +kernel
theorem dX5_findIdle_43 : decode cX5_findIdle 43 = .ok (.invokestatic 94, 3) := by decide +kernel
theorem dX5_findIdle_46 : decode cX5_findIdle 46 = .ok (.ifCond .eq 96, 3) := by decide +kernel
theorem dX5_findIdle_49 : decode cX5_findIdle 49 = .ok (.aload_n 0, 1) := by decide +kernel
theorem dX5_findIdle_50 : decode cX5_findIdle 50 = .ok (.getfield 9, 3) := by decide +kernel
theorem dX5_findIdle_53 : decode cX5_findIdle 53 = .ok (.aload_n 1, 1) := by decide +kernel
theorem dX5_findIdle_54 : decode cX5_findIdle 54 = .ok (.iload_n 2, 1) := by decide +kernel
theorem dX5_findIdle_55 : decode cX5_findIdle 55 = .ok (.invokevirtual 65, 3) := by decide +kernel
theorem dX5_findIdle_58 : decode cX5_findIdle 58 = .ok (.invokestatic 22, 3) := by decide +kernel
theorem dX5_findIdle_61 : decode cX5_findIdle 61 = .ok (.lstore 6, 2) := by decide +kernel
theorem dX5_findIdle_63 : decode cX5_findIdle 63 = .ok (.aload_n 0, 1) := by decide +kernel
theorem dX5_findIdle_64 : decode cX5_findIdle 64 = .ok (.getfield 9, 3) := by decide +kernel
theorem dX5_findIdle_67 : decode cX5_findIdle 67 = .ok (.aload_n 1, 1) := by decide +kernel
theorem dX5_findIdle_68 : decode cX5_findIdle 68 = .ok (.iload_n 2, 1) := by decide +kernel
theorem dX5_findIdle_69 : decode cX5_findIdle 69 = .ok (.invokevirtual 69, 3) := by decide +kernel
theorem dX5_findIdle_72 : decode cX5_findIdle 72 = .ok (.invokestatic 22, 3) := by decide +kernel
theorem dX5_findIdle_75 : decode cX5_findIdle 75 = .ok (.lstore 8, 2) := by decide +kernel
theorem dX5_findIdle_77 : decode cX5_findIdle 77 = .ok (.aload_n 0, 1) := by decide +kernel
theorem dX5_findIdle_78 : decode cX5_findIdle 78 = .ok (.getfield 15, 3) := by decide +kernel
theorem dX5_findIdle_81 : decode cX5_findIdle 81 = .ok (.aload_n 1, 1) := by decide +kernel
theorem dX5_findIdle_82 : decode cX5_findIdle 82 = .ok (.iload_n 2, 1) := by decide +kernel
theorem dX5_findIdle_83 : decode cX5_findIdle 83 = .ok (.invokevirtual 65, 3) := by decide +kernel
theorem dX5_findIdle_86 : decode cX5_findIdle 86 = .ok (.lload 4, 2) := by decide +kernel
theorem dX5_findIdle_88 : decode cX5_findIdle 88 = .ok (.iload_n 3, 1) := by decide +kernel
theorem dX5_findIdle_89 : decode cX5_findIdle 89 = .ok (.iconst 3, 1) := by decide +kernel
theorem dX5_findIdle_90 : decode cX5_findIdle 90 = .ok (.if_icmp .ne 8, 3) := by decide +kernel
theorem dX5_findIdle_93 : decode cX5_findIdle 93 = .ok (.lload 8, 2) := by decide +kernel
theorem dX5_findIdle_95 : decode cX5_findIdle 95 = .ok (.goto 9, 3) := by decide +kernel
theorem dX5_findIdle_98 : decode cX5_findIdle 98 = .ok (.lload 8, 2) := by decide +kernel
theorem dX5_findIdle_100 : decode cX5_findIdle 100 = .ok (.ldc2_w 89, 3) := by decide +kernel
theorem dX5_findIdle_103 : decode cX5_findIdle 103 = .ok (.lxor, 1) := by decide +kernel
theorem dX5_findIdle_104 : decode cX5_findIdle 104 = .ok (.land, 1) := by decide +kernel
theorem dX5_findIdle_105 : decode cX5_findIdle 105 = .ok (.invokestatic 43, 3) := by decide +kernel
theorem dX5_findIdle_108 : decode cX5_findIdle 108 = .ok (.aload_n 0, 1) := by decide +kernel
theorem dX5_findIdle_109 : decode cX5_findIdle 109 = .ok (.getfield 15, 3) := by decide +kernel
theorem dX5_findIdle_112 : decode cX5_findIdle 112 = .ok (.aload_n 1, 1) := by decide +kernel
theorem dX5_findIdle_113 : decode cX5_findIdle 113 = .ok (.iload_n 2, 1) := by decide +kernel
theorem dX5_findIdle_114 : decode cX5_findIdle 114 = .ok (.invokevirtual 69, 3) := by decide +kernel
theorem dX5_findIdle_117 : decode cX5_findIdle 117 = .ok (.lload 4, 2) := by decide +kernel
theorem dX5_findIdle_119 : decode cX5_findIdle 119 = .ok (.iload_n 3, 1) := by decide +kernel
theorem dX5_findIdle_120 : decode cX5_findIdle 120 = .ok (.iconst 4, 1) := by decide +kernel
theorem dX5_findIdle_121 : decode cX5_findIdle 121 = .ok (.if_icmp .ne 12, 3) := by decide +kernel
theorem dX5_findIdle_124 : decode cX5_findIdle 124 = .ok (.lload 6, 2) := by decide +kernel
theorem dX5_findIdle_126 : decode cX5_findIdle 126 = .ok (.ldc2_w 89, 3) := by decide +kernel
theorem dX5_findIdle_129 : decode cX5_findIdle 129 = .ok (.lxor, 1) := by decide +kernel
theorem dX5_findIdle_130 : decode cX5_findIdle 130 = .ok (.goto 5, 3) := by decide +kernel
theorem dX5_findIdle_133 : decode cX5_findIdle 133 = .ok (.lload 6, 2) := by decide +kernel
theorem dX5_findIdle_135 : decode cX5_findIdle 135 = .ok (.land, 1) := by decide +kernel
theorem dX5_findIdle_136 : decode cX5_findIdle 136 = .ok (.invokestatic 43, 3) := by decide +kernel
theorem dX5_findIdle_139 : decode cX5_findIdle 139 = .ok (.goto 47, 3) := by decide +kernel
theorem dX5_findIdle_142 : decode cX5_findIdle 142 = .ok (.iload_n 3, 1) := by decide +kernel
theorem dX5_findIdle_143 : decode cX5_findIdle 143 = .ok (.ifCond .eq 20, 3) := by decide +kernel
theorem dX5_findIdle_146 : decode cX5_findIdle 146 = .ok (.aload_n 0, 1) := by decide +kernel
theorem dX5_findIdle_147 : decode cX5_findIdle 147 = .ok (.getfield 15, 3) := by decide +kernel
theorem dX5_findIdle_150 : decode cX5_findIdle 150 = .ok (.aload_n 1, 1) := by decide +kernel
theorem dX5_findIdle_151 : decode cX5_findIdle 151 = .ok (.iload_n 2, 1) := by decide +kernel
theorem dX5_findIdle_152 : decode cX5_findIdle 152 = .ok (.invokevirtual 65, 3) := by decide +kernel
theorem dX5_findIdle_155 : decode cX5_findIdle 155 = .ok (.lload 4, 2) := by decide +kernel
theorem dX5_findIdle_157 : decode cX5_findIdle 157 = .ok (.invokestatic 43, 3) := by decide +kernel
theorem dX5_findIdle_160 : decode cX5_findIdle 160 = .ok (.goto 26, 3) := by decide +kernel
theorem dX5_findIdle_163 : decode cX5_findIdle 163 = .ok (.lload 4, 2) := by decide +kernel
theorem dX5_findIdle_165 : decode cX5_findIdle 165 = .ok (.lconst 0, 1) := by decide +kernel
theorem dX5_findIdle_166 : decode cX5_findIdle 166 = .ok (.lcmp, 1) := by decide +kernel
theorem dX5_findIdle_167 : decode cX5_findIdle 167 = .ok (.ifCond .ne 19, 3) := by decide +kernel
theorem dX5_findIdle_170 : decode cX5_findIdle 170 = .ok (.aload_n 0, 1) := by decide +kernel
theorem dX5_findIdle_171 : decode cX5_findIdle 171 = .ok (.dup, 1) := by decide +kernel
theorem dX5_findIdle_172 : decode cX5_findIdle 172 = .ok (.getfield 26, 3) := by decide +kernel
theorem dX5_findIdle_175 : decode cX5_findIdle 175 = .ok (.iconst 1, 1) := by decide +kernel
theorem dX5_findIdle_176 : decode cX5_findIdle 176 = .ok (.aload_n 1, 1) := by decide +kernel
theorem dX5_findIdle_177 : decode cX5_findIdle 177 = .ok (.iload_n 2, 1) := by decide +kernel
theorem dX5_findIdle_178 : decode cX5_findIdle 178 = .ok (.invokevirtual 75, 3) := by decide +kernel
end
section
theorem dX5_findIdle_181 : decode cX5_findIdle 181 = .ok (.ishl, 1) := by decide +kernel
theorem dX5_findIdle_182 : decode cX5_findIdle 182 = .ok (.ior, 1) := by decide +kernel
theorem dX5_findIdle_183 : decode cX5_findIdle 183 = .ok (.putfield 26, 3) := by decide +kernel
theorem dX5_findIdle_186 : decode cX5_findIdle 186 = .ok (.iinc 2 1, 3) := by decide +kernel
theorem dX5_findIdle_189 : decode cX5_findIdle 189 = .ok (.goto (-171), 3) := by decide +kernel
theorem dX5_findIdle_192 : decode cX5_findIdle 192 = .ok (.return_, 1) := by decide +kernel
theorem dX5_brokenByWhole_0 : decode cX5_brokenByWhole 0 = .ok (.iconst 0, 1) := by decide +kernel
theorem dX5_brokenByWhole_1 : decode cX5_brokenByWhole 1 = .ok (.istore_n 1, 1) := by decide +kernel
theorem dX5_brokenByWhole_2 : decode cX5_brokenByWhole 2 = .ok (.aload_n 0, 1) := by decide +kernel
theorem dX5_brokenByWhole_3 : decode cX5_brokenByWhole 3 = .ok (.getfield 26, 3) := by decide +kernel
theorem dX5_brokenByWhole_6 : decode cX5_brokenByWhole 6 = .ok (.ifCond .eq 8, 3) := by decide +kernel
theorem dX5_brokenByWhole_9 : decode cX5_brokenByWhole 9 = .ok (.iload_n 1, 1) := by decide +kernel
theorem dX5_brokenByWhole_10 : decode cX5_brokenByWhole 10 = .ok (.bipush 16, 2) := by decide +kernel
theorem dX5_brokenByWhole_12 : decode cX5_brokenByWhole 12 = .ok (.ior, 1) := by decide +kernel
theorem dX5_brokenByWhole_13 : decode cX5_brokenByWhole 13 = .ok (.istore_n 1, 1) := by decide +kernel
theorem dX5_brokenByWhole_14 : decode cX5_brokenByWhole 14 = .ok (.aload_n 0, 1) := by decide +kernel
theorem dX5_brokenByWhole_15 : decode cX5_brokenByWhole 15 = .ok (.invokevirtual 98, 3) := by decide +kernel
theorem dX5_brokenByWhole_18 : decode cX5_brokenByWhole 18 = .ok (.lconst 0, 1) := by decide +kernel
theorem dX5_brokenByWhole_19 : decode cX5_brokenByWhole 19 = .ok (.lcmp, 1) := by decide +kernel
theorem dX5_brokenByWhole_20 : decode cX5_brokenByWhole 20 = .ok (.ifCond .eq 14, 3) := by decide +kernel
theorem dX5_brokenByWhole_23 : decode cX5_brokenByWhole 23 = .ok (.aload_n 0, 1) := by decide +kernel
theorem dX5_brokenByWhole_24 : decode cX5_brokenByWhole 24 = .ok (.invokevirtual 98, 3) := by decide +kernel
theorem dX5_brokenByWhole_27 : decode cX5_brokenByWhole 27 = .ok (.ldc2_w 87, 3) := by decide +kernel
theorem dX5_brokenByWhole_30 : decode cX5_brokenByWhole 30 = .ok (.lcmp, 1) := by decide +kernel
theorem dX5_brokenByWhole_31 : decode cX5_brokenByWhole 31 = .ok (.ifCond .ne 8, 3) := by decide +kernel
theorem dX5_brokenByWhole_34 : decode cX5_brokenByWhole 34 = .ok (.iload_n 1, 1) := by decide +kernel
theorem dX5_brokenByWhole_35 : decode cX5_brokenByWhole 35 = .ok (.bipush 32, 2) := by decide +kernel
theorem dX5_brokenByWhole_37 : decode cX5_brokenByWhole 37 = .ok (.ior, 1) := by decide +kernel
theorem dX5_brokenByWhole_38 : decode cX5_brokenByWhole 38 = .ok (.istore_n 1, 1) := by decide +kernel
theorem dX5_brokenByWhole_39 : decode cX5_brokenByWhole 39 = .ok (.iload_n 1, 1) := by decide +kernel
theorem dX5_brokenByWhole_40 : decode cX5_brokenByWhole 40 = .ok (.ireturn, 1) := by decide +kernel
theorem dX5_brokenAt_0 : decode cX5_brokenAt 0 = .ok (.aload_n 1, 1) := by decide +kernel
theorem dX5_brokenAt_1 : decode cX5_brokenAt 1 = .ok (.iload_n 3, 1) := by decide +kernel
theorem dX5_brokenAt_2 : decode cX5_brokenAt 2 = .ok (.invokevirtual 72, 3) := by decide +kernel
theorem dX5_brokenAt_5 : decode cX5_brokenAt 5 = .ok (.istore 4, 2) := by decide +kernel
theorem dX5_brokenAt_7 : decode cX5_brokenAt 7 = .ok (.aload_n 0, 1) := by decide +kernel
theorem dX5_brokenAt_8 : decode cX5_brokenAt 8 = .ok (.getfield 18, 3) := by decide +kernel
theorem dX5_brokenAt_11 : decode cX5_brokenAt 11 = .ok (.aload_n 1, 1) := by decide +kernel
theorem dX5_brokenAt_12 : decode cX5_brokenAt 12 = .ok (.iload_n 3, 1) := by decide +kernel
theorem dX5_brokenAt_13 : decode cX5_brokenAt 13 = .ok (.invokevirtual 65, 3) := by decide +kernel
theorem dX5_brokenAt_16 : decode cX5_brokenAt 16 = .ok (.invokestatic 91, 3) := by decide +kernel
theorem dX5_brokenAt_19 : decode cX5_brokenAt 19 = .ok (.istore 5, 2) := by decide +kernel
theorem dX5_brokenAt_21 : decode cX5_brokenAt 21 = .ok (.aload_n 0, 1) := by decide +kernel
theorem dX5_brokenAt_22 : decode cX5_brokenAt 22 = .ok (.getfield 18, 3) := by decide +kernel
theorem dX5_brokenAt_25 : decode cX5_brokenAt 25 = .ok (.aload_n 1, 1) := by decide +kernel
theorem dX5_brokenAt_26 : decode cX5_brokenAt 26 = .ok (.iload_n 3, 1) := by decide +kernel
theorem dX5_brokenAt_27 : decode cX5_brokenAt 27 = .ok (.invokevirtual 69, 3) := by decide +kernel
theorem dX5_brokenAt_30 : decode cX5_brokenAt 30 = .ok (.invokestatic 91, 3) := by decide +kernel
theorem dX5_brokenAt_33 : decode cX5_brokenAt 33 = .ok (.istore 6, 2) := by decide +kernel
theorem dX5_brokenAt_35 : decode cX5_brokenAt 35 = .ok (.iconst 0, 1) := by decide +kernel
theorem dX5_brokenAt_36 : decode cX5_brokenAt 36 = .ok (.istore 7, 2) := by decide +kernel
theorem dX5_brokenAt_38 : decode cX5_brokenAt 38 = .ok (.iload 4, 2) := by decide +kernel
theorem dX5_brokenAt_40 : decode cX5_brokenAt 40 = .ok (.iconst 1, 1) := by decide +kernel
theorem dX5_brokenAt_41 : decode cX5_brokenAt 41 = .ok (.if_icmp .ne 14, 3) := by decide +kernel
theorem dX5_brokenAt_44 : decode cX5_brokenAt 44 = .ok (.iload 5, 2) := by decide +kernel
theorem dX5_brokenAt_46 : decode cX5_brokenAt 46 = .ok (.ifCond .eq 9, 3) := by decide +kernel
theorem dX5_brokenAt_49 : decode cX5_brokenAt 49 = .ok (.iload 7, 2) := by decide +kernel
theorem dX5_brokenAt_51 : decode cX5_brokenAt 51 = .ok (.iconst 1, 1) := by decide +kernel
theorem dX5_brokenAt_52 : decode cX5_brokenAt 52 = .ok (.ior, 1) := by decide +kernel
theorem dX5_brokenAt_53 : decode cX5_brokenAt 53 = .ok (.istore 7, 2) := by decide +kernel
theorem dX5_brokenAt_55 : decode cX5_brokenAt 55 = .ok (.iload 4, 2) := by decide +kernel
theorem dX5_brokenAt_57 : decode cX5_brokenAt 57 = .ok (.iconst 1, 1) := by decide +kernel
theorem dX5_brokenAt_58 : decode cX5_brokenAt 58 = .ok (.if_icmp .ne 26, 3) := by decide +kernel
theorem dX5_brokenAt_61 : decode cX5_brokenAt 61 = .ok (.aload_n 1, 1) := by decide +kernel
theorem dX5_brokenAt_62 : decode cX5_brokenAt 62 = .ok (.iload_n 3, 1) := by decide +kernel
theorem dX5_brokenAt_63 : decode cX5_brokenAt 63 = .ok (.invokevirtual 102, 3) := by decide +kernel
theorem dX5_brokenAt_66 : decode cX5_brokenAt 66 = .ok (.aload_n 2, 1) := by decide +kernel
theorem dX5_brokenAt_67 : decode cX5_brokenAt 67 = .ok (.aload_n 1, 1) := by decide +kernel
theorem dX5_brokenAt_68 : decode cX5_brokenAt 68 = .ok (.iload_n 3, 1) := by decide +kernel
theorem dX5_brokenAt_69 : decode cX5_brokenAt 69 = .ok (.invokevirtual 75, 3) := by decide +kernel
theorem dX5_brokenAt_72 : decode cX5_brokenAt 72 = .ok (.invokevirtual 105, 3) := by decide +kernel
theorem dX5_brokenAt_75 : decode cX5_brokenAt 75 = .ok (.if_icmp .eq 9, 3) := by decide +kernel
theorem dX5_brokenAt_78 : decode cX5_brokenAt 78 = .ok (.iload 7, 2) := by decide +kernel
theorem dX5_brokenAt_80 : decode cX5_brokenAt 80 = .ok (.iconst 2, 1) := by decide +kernel
theorem dX5_brokenAt_81 : decode cX5_brokenAt 81 = .ok (.ior, 1) := by decide +kernel
theorem dX5_brokenAt_82 : decode cX5_brokenAt 82 = .ok (.istore 7, 2) := by decide +kernel
theorem dX5_brokenAt_84 : decode cX5_brokenAt 84 = .ok (.iload 4, 2) := by decide +kernel
theorem dX5_brokenAt_86 : decode cX5_brokenAt 86 = .ok (.invokestatic 94, 3) := by decide +kernel
theorem dX5_brokenAt_89 : decode cX5_brokenAt 89 = .ok (.ifCond .eq 14, 3) := by decide +kernel
theorem dX5_brokenAt_92 : decode cX5_brokenAt 92 = .ok (.iload 6, 2) := by decide +kernel
theorem dX5_brokenAt_94 : decode cX5_brokenAt 94 = .ok (.ifCond .eq 9, 3) := by decide +kernel
theorem dX5_brokenAt_97 : decode cX5_brokenAt 97 = .ok (.iload 7, 2) := by decide +kernel
theorem dX5_brokenAt_99 : decode cX5_brokenAt 99 = .ok (.iconst 4, 1) := by decide +kernel
theorem dX5_brokenAt_100 : decode cX5_brokenAt 100 = .ok (.ior, 1) := by decide +kernel
theorem dX5_brokenAt_101 : decode cX5_brokenAt 101 = .ok (.istore 7, 2) := by decide +kernel
theorem dX5_brokenAt_103 : decode cX5_brokenAt 103 = .ok (.iload 4, 2) := by decide +kernel
theorem dX5_brokenAt_105 : decode cX5_brokenAt 105 = .ok (.iconst 3, 1) := by decide +kernel
theorem dX5_brokenAt_106 : decode cX5_brokenAt 106 = .ok (.if_icmp .ne 21, 3) := by decide +kernel
theorem dX5_brokenAt_109 : decode cX5_brokenAt 109 = .ok (.iload 5, 2) := by decide +kernel
theorem dX5_brokenAt_111 : decode cX5_brokenAt 111 = .ok (.iload 6, 2) := by decide +kernel
theorem dX5_brokenAt_113 : decode cX5_brokenAt 113 = .ok (.ior, 1) := by decide +kernel
theorem dX5_brokenAt_114 : decode cX5_brokenAt 114 = .ok (.bipush 112, 2) := by decide +kernel
theorem dX5_brokenAt_116 : decode cX5_brokenAt 116 = .ok (.iand, 1) := by decide +kernel
theorem dX5_brokenAt_117 : decode cX5_brokenAt 117 = .ok (.ifCond .eq 10, 3) := by decide +kernel
theorem dX5_brokenAt_120 : decode cX5_brokenAt 120 = .ok (.iload 7, 2) := by decide +kernel
theorem dX5_brokenAt_122 : decode cX5_brokenAt 122 = .ok (.bipush 8, 2) := by decide +kernel
theorem dX5_brokenAt_124 : decode cX5_brokenAt 124 = .ok (.ior, 1) := by decide +kernel
theorem dX5_brokenAt_125 : decode cX5_brokenAt 125 = .ok (.istore 7, 2) := by decide +kernel
theorem dX5_brokenAt_127 : decode cX5_brokenAt 127 = .ok (.iload 7, 2) := by decide +kernel
theorem dX5_brokenAt_129 : decode cX5_brokenAt 129 = .ok (.ireturn, 1) := by decide +kernel
theorem dX6_init_0 : decode cX6_init 0 = .ok (.aload_n 0, 1) := by decide +kernel
theorem dX6_init_1 : decode cX6_init 1 = .ok (.invokespecial 3, 3) := by decide +kernel
theorem dX6_init_4 : decode cX6_init 4 = .ok (.aload_n 0, 1) := by decide +kernel
theorem dX6_init_5 : decode cX6_init 5 = .ok (.sipush 200, 3) := by decide +kernel
theorem dX6_init_8 : decode cX6_init 8 = .ok (.newarray .int, 2) := by decide +kernel
theorem dX6_init_10 : decode cX6_init 10 = .ok (.putfield 9, 3) := by decide +kernel
theorem dX6_init_13 : decode cX6_init 13 = .ok (.return_, 1) := by decide +kernel
theorem dX6_size_0 : decode cX6_size 0 = .ok (.aload_n 0, 1) := by decide +kernel
theorem dX6_size_1 : decode cX6_size 1 = .ok (.getfield 15, 3) := by decide +kernel
theorem dX6_size_4 : decode cX6_size 4 = .ok (.ireturn, 1) := by decide +kernel
theorem dX6_at_0 : decode cX6_at 0 = .ok (.aload_n 0, 1) := by decide +kernel
theorem dX6_at_1 : decode cX6_at 1 = .ok (.getfield 9, 3) := by decide +kernel
theorem dX6_at_4 : decode cX6_at 4 = .ok (.iload_n 1, 1) := by decide +kernel
theorem dX6_at_5 : decode cX6_at 5 = .ok (.invokestatic 19, 3) := by decide +kernel
theorem dX6_at_8 : decode cX6_at 8 = .ok (.ireturn, 1) := by decide +kernel
theorem dX6_passed_0 : decode cX6_passed 0 = .ok (.aload_n 0, 1) := by decide +kernel
theorem dX6_passed_1 : decode cX6_passed 1 = .ok (.getfield 23, 3) := by decide +kernel
theorem dX6_passed_4 : decode cX6_passed 4 = .ok (.ireturn, 1) := by decide +kernel
theorem dX6_sift_0 : decode cX6_sift 0 = .ok (.aload_n 0, 1) := by decide +kernel
theorem dX6_sift_1 : decode cX6_sift 1 = .ok (.iconst 0, 1) := by decide +kernel
theorem dX6_sift_2 : decode cX6_sift 2 = .ok (.putfield 23, 3) := by decide +kernel
theorem dX6_sift_5 : decode cX6_sift 5 = .ok (.aload_n 0, 1) := by decide +kernel
theorem dX6_sift_6 : decode cX6_sift 6 = .ok (.aload_n 1, 1) := by decide +kernel
theorem dX6_sift_7 : decode cX6_sift 7 = .ok (.invokevirtual 26, 3) := by decide +kernel
theorem dX6_sift_10 : decode cX6_sift 10 = .ok (.putfield 15, 3) := by decide +kernel
theorem dX6_sift_13 : decode cX6_sift 13 = .ok (.iconst 0, 1) := by decide +kernel
theorem dX6_sift_14 : decode cX6_sift 14 = .ok (.istore 4, 2) := by decide +kernel
theorem dX6_sift_16 : decode cX6_sift 16 = .ok (.iload 4, 2) := by decide +kernel
theorem dX6_sift_18 : decode cX6_sift 18 = .ok (.aload_n 0, 1) := by decide +kernel
theorem dX6_sift_19 : decode cX6_sift 19 = .ok (.getfield 15, 3) := by decide +kernel
theorem dX6_sift_22 : decode cX6_sift 22 = .ok (.if_icmp .ge 20, 3) := by decide +kernel
theorem dX6_sift_25 : decode cX6_sift 25 = .ok (.aload_n 0, 1) := by decide +kernel
theorem dX6_sift_26 : decode cX6_sift 26 = .ok (.getfield 9, 3) := by decide +kernel
theorem dX6_sift_29 : decode cX6_sift 29 = .ok (.iload 4, 2) := by decide +kernel
theorem dX6_sift_31 : decode cX6_sift 31 = .ok (.iload 4, 2) := by decide +kernel
theorem dX6_sift_33 : decode cX6_sift 33 = .ok (.invokestatic 31, 3) := by decide +kernel
theorem dX6_sift_36 : decode cX6_sift 36 = .ok (.iinc 4 1, 3) := by decide +kernel
theorem dX6_sift_39 : decode cX6_sift 39 = .ok (.goto (-23), 3) := by decide +kernel
theorem dX6_sift_42 : decode cX6_sift 42 = .ok (.iconst 0, 1) := by decide +kernel
theorem dX6_sift_43 : decode cX6_sift 43 = .ok (.istore 4, 2) := by decide +kernel
theorem dX6_sift_45 : decode cX6_sift 45 = .ok (.iload 4, 2) := by decide +kernel
theorem dX6_sift_47 : decode cX6_sift 47 = .ok (.aload_n 2, 1) := by decide +kernel
theorem dX6_sift_48 : decode cX6_sift 48 = .ok (.invokevirtual 35, 3) := by decide +kernel
theorem dX6_sift_51 : decode cX6_sift 51 = .ok (.if_icmp .ge 30, 3) := by decide +kernel
theorem dX6_sift_54 : decode cX6_sift 54 = .ok (.aload_n 2, 1) := by decide +kernel
theorem dX6_sift_55 : decode cX6_sift 55 = .ok (.iload 4, 2) := by decide +kernel
theorem dX6_sift_57 : decode cX6_sift 57 = .ok (.invokevirtual 38, 3) := by decide +kernel
theorem dX6_sift_60 : decode cX6_sift 60 = .ok (.iload_n 3, 1) := by decide +kernel
theorem dX6_sift_61 : decode cX6_sift 61 = .ok (.if_icmp .eq 14, 3) := by decide +kernel
theorem dX6_sift_64 : decode cX6_sift 64 = .ok (.aload_n 0, 1) := by decide +kernel
theorem dX6_sift_65 : decode cX6_sift 65 = .ok (.aload_n 1, 1) := by decide +kernel
theorem dX6_sift_66 : decode cX6_sift 66 = .ok (.aload_n 2, 1) := by decide +kernel
theorem dX6_sift_67 : decode cX6_sift 67 = .ok (.iload 4, 2) := by decide +kernel
theorem dX6_sift_69 : decode cX6_sift 69 = .ok (.invokevirtual 38, 3) := by decide +kernel
theorem dX6_sift_72 : decode cX6_sift 72 = .ok (.invokevirtual 42, 3) := by decide +kernel
theorem dX6_sift_75 : decode cX6_sift 75 = .ok (.iinc 4 1, 3) := by decide +kernel
theorem dX6_sift_78 : decode cX6_sift 78 = .ok (.goto (-33), 3) := by decide +kernel
theorem dX6_sift_81 : decode cX6_sift 81 = .ok (.return_, 1) := by decide +kernel
theorem dX6_keepMet_0 : decode cX6_keepMet 0 = .ok (.iconst 0, 1) := by decide +kernel
theorem dX6_keepMet_1 : decode cX6_keepMet 1 = .ok (.istore_n 3, 1) := by decide +kernel
theorem dX6_keepMet_2 : decode cX6_keepMet 2 = .ok (.iconst 0, 1) := by decide +kernel
theorem dX6_keepMet_3 : decode cX6_keepMet 3 = .ok (.istore 4, 2) := by decide +kernel
theorem dX6_keepMet_5 : decode cX6_keepMet 5 = .ok (.iload 4, 2) := by decide +kernel
theorem dX6_keepMet_7 : decode cX6_keepMet 7 = .ok (.aload_n 0, 1) := by decide +kernel
theorem dX6_keepMet_8 : decode cX6_keepMet 8 = .ok (.getfield 15, 3) := by decide +kernel
theorem dX6_keepMet_11 : decode cX6_keepMet 11 = .ok (.if_icmp .ge 40, 3) := by decide +kernel
theorem dX6_keepMet_14 : decode cX6_keepMet 14 = .ok (.aload_n 1, 1) := by decide +kernel
theorem dX6_keepMet_15 : decode cX6_keepMet 15 = .ok (.aload_n 0, 1) := by decide +kernel
theorem dX6_keepMet_16 : decode cX6_keepMet 16 = .ok (.iload 4, 2) := by decide +kernel
theorem dX6_keepMet_18 : decode cX6_keepMet 18 = .ok (.invokevirtual 46, 3) := by decide +kernel
theorem dX6_keepMet_21 : decode cX6_keepMet 21 = .ok (.iload_n 2, 1) := by decide +kernel
theorem dX6_keepMet_22 : decode cX6_keepMet 22 = .ok (.invokevirtual 47, 3) := by decide +kernel
theorem dX6_keepMet_25 : decode cX6_keepMet 25 = .ok (.ifCond .eq 20, 3) := by decide +kernel
theorem dX6_keepMet_28 : decode cX6_keepMet 28 = .ok (.aload_n 0, 1) := by decide +kernel
theorem dX6_keepMet_29 : decode cX6_keepMet 29 = .ok (.getfield 9, 3) := by decide +kernel
theorem dX6_keepMet_32 : decode cX6_keepMet 32 = .ok (.iload_n 3, 1) := by decide +kernel
theorem dX6_keepMet_33 : decode cX6_keepMet 33 = .ok (.aload_n 0, 1) := by decide +kernel
theorem dX6_keepMet_34 : decode cX6_keepMet 34 = .ok (.iload 4, 2) := by decide +kernel
theorem dX6_keepMet_36 : decode cX6_keepMet 36 = .ok (.invokevirtual 46, 3) := by decide +kernel
theorem dX6_keepMet_39 : decode cX6_keepMet 39 = .ok (.invokestatic 31, 3) := by decide +kernel
theorem dX6_keepMet_42 : decode cX6_keepMet 42 = .ok (.iinc 3 1, 3) := by decide +kernel
theorem dX6_keepMet_45 : decode cX6_keepMet 45 = .ok (.iinc 4 1, 3) := by decide +kernel
theorem dX6_keepMet_48 : decode cX6_keepMet 48 = .ok (.goto (-43), 3) := by decide +kernel
theorem dX6_keepMet_51 : decode cX6_keepMet 51 = .ok (.iload_n 3, 1) := by decide +kernel
theorem dX6_keepMet_52 : decode cX6_keepMet 52 = .ok (.ifCond .ne 16, 3) := by decide +kernel
theorem dX6_keepMet_55 : decode cX6_keepMet 55 = .ok (.aload_n 0, 1) := by decide +kernel
theorem dX6_keepMet_56 : decode cX6_keepMet 56 = .ok (.dup, 1) := by decide +kernel
theorem dX6_keepMet_57 : decode cX6_keepMet 57 = .ok (.getfield 23, 3) := by decide +kernel
theorem dX6_keepMet_60 : decode cX6_keepMet 60 = .ok (.iconst 1, 1) := by decide +kernel
theorem dX6_keepMet_61 : decode cX6_keepMet 61 = .ok (.iadd, 1) := by decide +kernel
theorem dX6_keepMet_62 : decode cX6_keepMet 62 = .ok (.putfield 23, 3) := by decide +kernel
theorem dX6_keepMet_65 : decode cX6_keepMet 65 = .ok (.goto 8, 3) := by decide +kernel
theorem dX6_keepMet_68 : decode cX6_keepMet 68 = .ok (.aload_n 0, 1) := by decide +kernel
theorem dX6_keepMet_69 : decode cX6_keepMet 69 = .ok (.iload_n 3, 1) := by decide +kernel
theorem dX6_keepMet_70 : decode cX6_keepMet 70 = .ok (.putfield 15, 3) := by decide +kernel
theorem dX6_keepMet_73 : decode cX6_keepMet 73 = .ok (.return_, 1) := by decide +kernel
theorem dX6_keepsAs_0 : decode cX6_keepsAs 0 = .ok (.iconst 0, 1) := by decide +kernel
theorem dX6_keepsAs_1 : decode cX6_keepsAs 1 = .ok (.istore_n 2, 1) := by decide +kernel
theorem dX6_keepsAs_2 : decode cX6_keepsAs 2 = .ok (.iload_n 2, 1) := by decide +kernel
theorem dX6_keepsAs_3 : decode cX6_keepsAs 3 = .ok (.aload_n 0, 1) := by decide +kernel
theorem dX6_keepsAs_4 : decode cX6_keepsAs 4 = .ok (.getfield 15, 3) := by decide +kernel
theorem dX6_keepsAs_7 : decode cX6_keepsAs 7 = .ok (.if_icmp .ge 24, 3) := by decide +kernel
theorem dX6_keepsAs_10 : decode cX6_keepsAs 10 = .ok (.aload_n 0, 1) := by decide +kernel
theorem dX6_keepsAs_11 : decode cX6_keepsAs 11 = .ok (.iload_n 2, 1) := by decide +kernel
theorem dX6_keepsAs_12 : decode cX6_keepsAs 12 = .ok (.invokevirtual 46, 3) := by decide +kernel
theorem dX6_keepsAs_15 : decode cX6_keepsAs 15 = .ok (.aload_n 1, 1) := by decide +kernel
theorem dX6_keepsAs_16 : decode cX6_keepsAs 16 = .ok (.iload_n 2, 1) := by decide +kernel
theorem dX6_keepsAs_17 : decode cX6_keepsAs 17 = .ok (.invokevirtual 46, 3) := by decide +kernel
theorem dX6_keepsAs_20 : decode cX6_keepsAs 20 = .ok (.if_icmp .eq 5, 3) := by decide +kernel
theorem dX6_keepsAs_23 : decode cX6_keepsAs 23 = .ok (.iconst 0, 1) := by decide +kernel
theorem dX6_keepsAs_24 : decode cX6_keepsAs 24 = .ok (.ireturn, 1) := by decide +kernel
theorem dX6_keepsAs_25 : decode cX6_keepsAs 25 = .ok (.iinc 2 1, 3) := by decide +kernel
theorem dX6_keepsAs_28 : decode cX6_keepsAs 28 = .ok (.goto (-26), 3) := by decide +kernel
theorem dX6_keepsAs_31 : decode cX6_keepsAs 31 = .ok (.aload_n 0, 1) := by decide +kernel
theorem dX6_keepsAs_32 : decode cX6_keepsAs 32 = .ok (.getfield 15, 3) := by decide +kernel
theorem dX6_keepsAs_35 : decode cX6_keepsAs 35 = .ok (.aload_n 1, 1) := by decide +kernel
theorem dX6_keepsAs_36 : decode cX6_keepsAs 36 = .ok (.getfield 15, 3) := by decide +kernel
theorem dX6_keepsAs_39 : decode cX6_keepsAs 39 = .ok (.if_icmp .ne 7, 3) := by decide +kernel
theorem dX6_keepsAs_42 : decode cX6_keepsAs 42 = .ok (.iconst 1, 1) := by decide +kernel
theorem dX6_keepsAs_43 : decode cX6_keepsAs 43 = .ok (.goto 4, 3) := by decide +kernel
theorem dX6_keepsAs_46 : decode cX6_keepsAs 46 = .ok (.iconst 0, 1) := by decide +kernel
theorem dX6_keepsAs_47 : decode cX6_keepsAs 47 = .ok (.ireturn, 1) := by decide +kernel
theorem dX7_init_0 : decode cX7_init 0 = .ok (.aload_n 0, 1) := by decide +kernel
theorem dX7_init_1 : decode cX7_init 1 = .ok (.invokespecial 3, 3) := by decide +kernel
theorem dX7_init_4 : decode cX7_init 4 = .ok (.aload_n 0, 1) := by decide +kernel
theorem dX7_init_5 : decode cX7_init 5 = .ok (.bipush 21, 2) := by decide +kernel
theorem dX7_init_7 : decode cX7_init 7 = .ok (.newarray .int, 2) := by decide +kernel
theorem dX7_init_9 : decode cX7_init 9 = .ok (.putfield 9, 3) := by decide +kernel
theorem dX7_init_12 : decode cX7_init 12 = .ok (.aload_n 0, 1) := by decide +kernel
theorem dX7_init_13 : decode cX7_init 13 = .ok (.bipush 21, 2) := by decide +kernel
theorem dX7_init_15 : decode cX7_init 15 = .ok (.newarray .int, 2) := by decide +kernel
theorem dX7_init_17 : decode cX7_init 17 = .ok (.putfield 15, 3) := by decide +kernel
theorem dX7_init_20 : decode cX7_init 20 = .ok (.aload_n 0, 1) := by decide +kernel
theorem dX7_init_21 : decode cX7_init 21 = .ok (.bipush 21, 2) := by decide +kernel
theorem dX7_init_23 : decode cX7_init 23 = .ok (.newarray .int, 2) := by decide +kernel
theorem dX7_init_25 : decode cX7_init 25 = .ok (.putfield 18, 3) := by decide +kernel
theorem dX7_init_28 : decode cX7_init 28 = .ok (.aload_n 0, 1) := by decide +kernel
theorem dX7_init_29 : decode cX7_init 29 = .ok (.bipush 21, 2) := by decide +kernel
theorem dX7_init_31 : decode cX7_init 31 = .ok (.newarray .int, 2) := by decide +kernel
theorem dX7_init_33 : decode cX7_init 33 = .ok (.putfield 21, 3) := by decide +kernel
theorem dX7_init_36 : decode cX7_init 36 = .ok (.aload_n 0, 1) := by decide +kernel
theorem dX7_init_37 : decode cX7_init 37 = .ok (.bipush 21, 2) := by decide +kernel
theorem dX7_init_39 : decode cX7_init 39 = .ok (.newarray .int, 2) := by decide +kernel
theorem dX7_init_41 : decode cX7_init 41 = .ok (.putfield 24, 3) := by decide +kernel
theorem dX7_init_44 : decode cX7_init 44 = .ok (.aload_n 0, 1) := by decide +kernel
theorem dX7_init_45 : decode cX7_init 45 = .ok (.bipush 21, 2) := by decide +kernel
theorem dX7_init_47 : decode cX7_init 47 = .ok (.newarray .int, 2) := by decide +kernel
theorem dX7_init_49 : decode cX7_init 49 = .ok (.putfield 27, 3) := by decide +kernel
theorem dX7_init_52 : decode cX7_init 52 = .ok (.aload_n 0, 1) := by decide +kernel
theorem dX7_init_53 : decode cX7_init 53 = .ok (.bipush 21, 2) := by decide +kernel
theorem dX7_init_55 : decode cX7_init 55 = .ok (.newarray .long, 2) := by decide +kernel
theorem dX7_init_57 : decode cX7_init 57 = .ok (.putfield 30, 3) := by decide +kernel
theorem dX7_init_60 : decode cX7_init 60 = .ok (.aload_n 0, 1) := by decide +kernel
theorem dX7_init_61 : decode cX7_init 61 = .ok (.bipush 21, 2) := by decide +kernel
theorem dX7_init_63 : decode cX7_init 63 = .ok (.newarray .int, 2) := by decide +kernel
theorem dX7_init_65 : decode cX7_init 65 = .ok (.putfield 34, 3) := by decide +kernel
theorem dX7_init_68 : decode cX7_init 68 = .ok (.return_, 1) := by decide +kernel
theorem dX7_size_0 : decode cX7_size 0 = .ok (.aload_n 0, 1) := by decide +kernel
theorem dX7_size_1 : decode cX7_size 1 = .ok (.getfield 37, 3) := by decide +kernel
theorem dX7_size_4 : decode cX7_size 4 = .ok (.ireturn, 1) := by decide +kernel
theorem dX7_kind_0 : decode cX7_kind 0 = .ok (.aload_n 0, 1) := by decide +kernel
theorem dX7_kind_1 : decode cX7_kind 1 = .ok (.getfield 9, 3) := by decide +kernel
theorem dX7_kind_4 : decode cX7_kind 4 = .ok (.iload_n 1, 1) := by decide +kernel
theorem dX7_kind_5 : decode cX7_kind 5 = .ok (.invokestatic 41, 3) := by decide +kernel
theorem dX7_kind_8 : decode cX7_kind 8 = .ok (.ireturn, 1) := by decide +kernel
theorem dX7_from_0 : decode cX7_from 0 = .ok (.aload_n 0, 1) := by decide +kernel
theorem dX7_from_1 : decode cX7_from 1 = .ok (.getfield 15, 3) := by decide +kernel
theorem dX7_from_4 : decode cX7_from 4 = .ok (.iload_n 1, 1) := by decide +kernel
theorem dX7_from_5 : decode cX7_from 5 = .ok (.invokestatic 41, 3) := by decide +kernel
theorem dX7_from_8 : decode cX7_from 8 = .ok (.ireturn, 1) := by decide +kernel
theorem dX7_end_0 : decode cX7_end 0 = .ok (.aload_n 0, 1) := by decide +kernel
theorem dX7_end_1 : decode cX7_end 1 = .ok (.getfield 18, 3) := by decide +kernel
theorem dX7_end_4 : decode cX7_end 4 = .ok (.iload_n 1, 1) := by decide +kernel
theorem dX7_end_5 : decode cX7_end 5 = .ok (.invokestatic 41, 3) := by decide +kernel
theorem dX7_end_8 : decode cX7_end 8 = .ok (.ireturn, 1) := by decide +kernel
theorem dX7_inner_0 : decode cX7_inner 0 = .ok (.iload_n 1, 1) := by decide +kernel
theorem dX7_inner_1 : decode cX7_inner 1 = .ok (.iconst 1, 1) := by decide +kernel
theorem dX7_inner_2 : decode cX7_inner 2 = .ok (.iadd, 1) := by decide +kernel
theorem dX7_inner_3 : decode cX7_inner 3 = .ok (.ireturn, 1) := by decide +kernel
theorem dX7_behind_0 : decode cX7_behind 0 = .ok (.aload_n 0, 1) := by decide +kernel
theorem dX7_behind_1 : decode cX7_behind 1 = .ok (.getfield 21, 3) := by decide +kernel
theorem dX7_behind_4 : decode cX7_behind 4 = .ok (.iload_n 1, 1) := by decide +kernel
theorem dX7_behind_5 : decode cX7_behind 5 = .ok (.invokestatic 41, 3) := by decide +kernel
theorem dX7_behind_8 : decode cX7_behind 8 = .ok (.ireturn, 1) := by decide +kernel
theorem dX7_grow_0 : decode cX7_grow 0 = .ok (.aload_n 0, 1) := by decide +kernel
theorem dX7_grow_1 : decode cX7_grow 1 = .ok (.iconst 0, 1) := by decide +kernel
theorem dX7_grow_2 : decode cX7_grow 2 = .ok (.putfield 37, 3) := by decide +kernel
theorem dX7_grow_5 : decode cX7_grow 5 = .ok (.aload_n 0, 1) := by decide +kernel
theorem dX7_grow_6 : decode cX7_grow 6 = .ok (.iconst 0, 1) := by decide +kernel
theorem dX7_grow_7 : decode cX7_grow 7 = .ok (.putfield 45, 3) := by decide +kernel
theorem dX7_grow_10 : decode cX7_grow 10 = .ok (.aload_n 0, 1) := by decide +kernel
theorem dX7_grow_11 : decode cX7_grow 11 = .ok (.iconst 0, 1) := by decide +kernel
theorem dX7_grow_12 : decode cX7_grow 12 = .ok (.aload_n 1, 1) := by decide +kernel
theorem dX7_grow_13 : decode cX7_grow 13 = .ok (.invokevirtual 48, 3) := by decide +kernel
theorem dX7_grow_16 : decode cX7_grow 16 = .ok (.lload_n 3, 1) := by decide +kernel
theorem dX7_grow_17 : decode cX7_grow 17 = .ok (.bipush (-9), 2) := by decide +kernel
theorem dX7_grow_19 : decode cX7_grow 19 = .ok (.invokevirtual 53, 3) := by decide +kernel
theorem dX7_grow_22 : decode cX7_grow 22 = .ok (.iconst 0, 1) := by decide +kernel
theorem dX7_grow_23 : decode cX7_grow 23 = .ok (.istore 5, 2) := by decide +kernel
theorem dX7_grow_25 : decode cX7_grow 25 = .ok (.iload 5, 2) := by decide +kernel
theorem dX7_grow_27 : decode cX7_grow 27 = .ok (.bipush 21, 2) := by decide +kernel
theorem dX7_grow_29 : decode cX7_grow 29 = .ok (.if_icmp .ge 134, 3) := by decide +kernel
theorem dX7_grow_32 : decode cX7_grow 32 = .ok (.aload_n 0, 1) := by decide +kernel
theorem dX7_grow_33 : decode cX7_grow 33 = .ok (.getfield 45, 3) := by decide +kernel
theorem dX7_grow_36 : decode cX7_grow 36 = .ok (.ifCond .le 127, 3) := by decide +kernel
theorem dX7_grow_39 : decode cX7_grow 39 = .ok (.aload_n 0, 1) := by decide +kernel
theorem dX7_grow_40 : decode cX7_grow 40 = .ok (.dup, 1) := by decide +kernel
theorem dX7_grow_41 : decode cX7_grow 41 = .ok (.getfield 45, 3) := by decide +kernel
theorem dX7_grow_44 : decode cX7_grow 44 = .ok (.iconst 1, 1) := by decide +kernel
theorem dX7_grow_45 : decode cX7_grow 45 = .ok (.isub, 1) := by decide +kernel
theorem dX7_grow_46 : decode cX7_grow 46 = .ok (.putfield 45, 3) := by decide +kernel
theorem dX7_grow_49 : decode cX7_grow 49 = .ok (.aload_n 0, 1) := by decide +kernel
theorem dX7_grow_50 : decode cX7_grow 50 = .ok (.getfield 24, 3) := by decide +kernel
theorem dX7_grow_53 : decode cX7_grow 53 = .ok (.aload_n 0, 1) := by decide +kernel
theorem dX7_grow_54 : decode cX7_grow 54 = .ok (.getfield 45, 3) := by decide +kernel
theorem dX7_grow_57 : decode cX7_grow 57 = .ok (.invokestatic 41, 3) := by decide +kernel
theorem dX7_grow_60 : decode cX7_grow 60 = .ok (.istore 6, 2) := by decide +kernel
theorem dX7_grow_62 : decode cX7_grow 62 = .ok (.aload_n 0, 1) := by decide +kernel
theorem dX7_grow_63 : decode cX7_grow 63 = .ok (.getfield 27, 3) := by decide +kernel
theorem dX7_grow_66 : decode cX7_grow 66 = .ok (.aload_n 0, 1) := by decide +kernel
theorem dX7_grow_67 : decode cX7_grow 67 = .ok (.getfield 45, 3) := by decide +kernel
theorem dX7_grow_70 : decode cX7_grow 70 = .ok (.invokestatic 41, 3) := by decide +kernel
theorem dX7_grow_73 : decode cX7_grow 73 = .ok (.istore 7, 2) := by decide +kernel
theorem dX7_grow_75 : decode cX7_grow 75 = .ok (.aload_n 0, 1) := by decide +kernel
theorem dX7_grow_76 : decode cX7_grow 76 = .ok (.getfield 30, 3) := by decide +kernel
theorem dX7_grow_79 : decode cX7_grow 79 = .ok (.aload_n 0, 1) := by decide +kernel
theorem dX7_grow_80 : decode cX7_grow 80 = .ok (.getfield 45, 3) := by decide +kernel
theorem dX7_grow_83 : decode cX7_grow 83 = .ok (.invokestatic 57, 3) := by decide +kernel
theorem dX7_grow_86 : decode cX7_grow 86 = .ok (.lstore 8, 2) := by decide +kernel
theorem dX7_grow_88 : decode cX7_grow 88 = .ok (.aload_n 2, 1) := by decide +kernel
theorem dX7_grow_89 : decode cX7_grow 89 = .ok (.iload 6, 2) := by decide +kernel
theorem dX7_grow_91 : decode cX7_grow 91 = .ok (.iload 7, 2) := by decide +kernel
theorem dX7_grow_93 : decode cX7_grow 93 = .ok (.invokevirtual 60, 3) := by decide +kernel
theorem dX7_grow_96 : decode cX7_grow 96 = .ok (.lstore 10, 2) := by decide +kernel
theorem dX7_grow_98 : decode cX7_grow 98 = .ok (.aload_n 0, 1) := by decide +kernel
theorem dX7_grow_99 : decode cX7_grow 99 = .ok (.getfield 21, 3) := by decide +kernel
theorem dX7_grow_102 : decode cX7_grow 102 = .ok (.aload_n 0, 1) := by decide +kernel
theorem dX7_grow_103 : decode cX7_grow 103 = .ok (.getfield 34, 3) := by decide +kernel
theorem dX7_grow_106 : decode cX7_grow 106 = .ok (.aload_n 0, 1) := by decide +kernel
theorem dX7_grow_107 : decode cX7_grow 107 = .ok (.getfield 45, 3) := by decide +kernel
theorem dX7_grow_110 : decode cX7_grow 110 = .ok (.invokestatic 41, 3) := by decide +kernel
theorem dX7_grow_113 : decode cX7_grow 113 = .ok (.aload_n 0, 1) := by decide +kernel
theorem dX7_grow_114 : decode cX7_grow 114 = .ok (.getfield 37, 3) := by decide +kernel
theorem dX7_grow_117 : decode cX7_grow 117 = .ok (.invokestatic 66, 3) := by decide +kernel
theorem dX7_grow_120 : decode cX7_grow 120 = .ok (.lload 8, 2) := by decide +kernel
theorem dX7_grow_122 : decode cX7_grow 122 = .ok (.lload 10, 2) := by decide +kernel
theorem dX7_grow_124 : decode cX7_grow 124 = .ok (.lcmp, 1) := by decide +kernel
theorem dX7_grow_125 : decode cX7_grow 125 = .ok (.ifCond .ge 17, 3) := by decide +kernel
theorem dX7_grow_128 : decode cX7_grow 128 = .ok (.aload_n 0, 1) := by decide +kernel
theorem dX7_grow_129 : decode cX7_grow 129 = .ok (.aload_n 1, 1) := by decide +kernel
theorem dX7_grow_130 : decode cX7_grow 130 = .ok (.iload 6, 2) := by decide +kernel
theorem dX7_grow_132 : decode cX7_grow 132 = .ok (.iload 7, 2) := by decide +kernel
theorem dX7_grow_134 : decode cX7_grow 134 = .ok (.lload 8, 2) := by decide +kernel
theorem dX7_grow_136 : decode cX7_grow 136 = .ok (.invokevirtual 70, 3) := by decide +kernel
theorem dX7_grow_139 : decode cX7_grow 139 = .ok (.goto 18, 3) := by decide +kernel
theorem dX7_grow_142 : decode cX7_grow 142 = .ok (.aload_n 0, 1) := by decide +kernel
theorem dX7_grow_143 : decode cX7_grow 143 = .ok (.aload_n 1, 1) := by decide +kernel
theorem dX7_grow_144 : decode cX7_grow 144 = .ok (.aload_n 2, 1) := by decide +kernel
theorem dX7_grow_145 : decode cX7_grow 145 = .ok (.iload 6, 2) := by decide +kernel
theorem dX7_grow_147 : decode cX7_grow 147 = .ok (.iload 7, 2) := by decide +kernel
theorem dX7_grow_149 : decode cX7_grow 149 = .ok (.lload 8, 2) := by decide +kernel
theorem dX7_grow_151 : decode cX7_grow 151 = .ok (.lload 10, 2) := by decide +kernel
theorem dX7_grow_153 : decode cX7_grow 153 = .ok (.lsub, 1) := by decide +kernel
theorem dX7_grow_154 : decode cX7_grow 154 = .ok (.invokevirtual 74, 3) := by decide +kernel
theorem dX7_grow_157 : decode cX7_grow 157 = .ok (.iinc 5 1, 3) := by decide +kernel
theorem dX7_grow_160 : decode cX7_grow 160 = .ok (.goto (-135), 3) := by decide +kernel
theorem dX7_grow_163 : decode cX7_grow 163 = .ok (.return_, 1) := by decide +kernel
theorem dX7_await_0 : decode cX7_await 0 = .ok (.aload_n 0, 1) := by decide +kernel
theorem dX7_await_1 : decode cX7_await 1 = .ok (.getfield 24, 3) := by decide +kernel
theorem dX7_await_4 : decode cX7_await 4 = .ok (.aload_n 0, 1) := by decide +kernel
theorem dX7_await_5 : decode cX7_await 5 = .ok (.getfield 45, 3) := by decide +kernel
theorem dX7_await_8 : decode cX7_await 8 = .ok (.iload_n 1, 1) := by decide +kernel
theorem dX7_await_9 : decode cX7_await 9 = .ok (.invokestatic 66, 3) := by decide +kernel
theorem dX7_await_12 : decode cX7_await 12 = .ok (.aload_n 0, 1) := by decide +kernel
theorem dX7_await_13 : decode cX7_await 13 = .ok (.getfield 27, 3) := by decide +kernel
theorem dX7_await_16 : decode cX7_await 16 = .ok (.aload_n 0, 1) := by decide +kernel
theorem dX7_await_17 : decode cX7_await 17 = .ok (.getfield 45, 3) := by decide +kernel
theorem dX7_await_20 : decode cX7_await 20 = .ok (.iload_n 2, 1) := by decide +kernel
theorem dX7_await_21 : decode cX7_await 21 = .ok (.invokestatic 66, 3) := by decide +kernel
theorem dX7_await_24 : decode cX7_await 24 = .ok (.aload_n 0, 1) := by decide +kernel
theorem dX7_await_25 : decode cX7_await 25 = .ok (.getfield 30, 3) := by decide +kernel
theorem dX7_await_28 : decode cX7_await 28 = .ok (.aload_n 0, 1) := by decide +kernel
theorem dX7_await_29 : decode cX7_await 29 = .ok (.getfield 45, 3) := by decide +kernel
theorem dX7_await_32 : decode cX7_await 32 = .ok (.lload_n 3, 1) := by decide +kernel
theorem dX7_await_33 : decode cX7_await 33 = .ok (.invokestatic 78, 3) := by decide +kernel
theorem dX7_await_36 : decode cX7_await 36 = .ok (.aload_n 0, 1) := by decide +kernel
theorem dX7_await_37 : decode cX7_await 37 = .ok (.getfield 34, 3) := by decide +kernel
theorem dX7_await_40 : decode cX7_await 40 = .ok (.aload_n 0, 1) := by decide +kernel
theorem dX7_await_41 : decode cX7_await 41 = .ok (.getfield 45, 3) := by decide +kernel
theorem dX7_await_44 : decode cX7_await 44 = .ok (.iload 5, 2) := by decide +kernel
theorem dX7_await_46 : decode cX7_await 46 = .ok (.invokestatic 66, 3) := by decide +kernel
theorem dX7_await_49 : decode cX7_await 49 = .ok (.aload_n 0, 1) := by decide +kernel
theorem dX7_await_50 : decode cX7_await 50 = .ok (.dup, 1) := by decide +kernel
theorem dX7_await_51 : decode cX7_await 51 = .ok (.getfield 45, 3) := by decide +kernel
theorem dX7_await_54 : decode cX7_await 54 = .ok (.iconst 1, 1) := by decide +kernel
theorem dX7_await_55 : decode cX7_await 55 = .ok (.iadd, 1) := by decide +kernel
theorem dX7_await_56 : decode cX7_await 56 = .ok (.putfield 45, 3) := by decide +kernel
theorem dX7_await_59 : decode cX7_await 59 = .ok (.return_, 1) := by decide +kernel
theorem dX7_growFront_0 : decode cX7_growFront 0 = .ok (.aload_n 1, 1) := by decide +kernel
theorem dX7_growFront_1 : decode cX7_growFront 1 = .ok (.iload_n 2, 1) := by decide +kernel
theorem dX7_growFront_2 : decode cX7_growFront 2 = .ok (.invokevirtual 81, 3) := by decide +kernel
theorem dX7_growFront_5 : decode cX7_growFront 5 = .ok (.invokestatic 85, 3) := by decide +kernel
theorem dX7_growFront_8 : decode cX7_growFront 8 = .ok (.istore 6, 2) := by decide +kernel
theorem dX7_growFront_10 : decode cX7_growFront 10 = .ok (.aload_n 0, 1) := by decide +kernel
theorem dX7_growFront_11 : decode cX7_growFront 11 = .ok (.iload 6, 2) := by decide +kernel
theorem dX7_growFront_13 : decode cX7_growFront 13 = .ok (.iload_n 2, 1) := by decide +kernel
theorem dX7_growFront_14 : decode cX7_growFront 14 = .ok (.iload_n 3, 1) := by decide +kernel
theorem dX7_growFront_15 : decode cX7_growFront 15 = .ok (.invokevirtual 88, 3) := by decide +kernel
theorem dX7_growFront_18 : decode cX7_growFront 18 = .ok (.iload 6, 2) := by decide +kernel
theorem dX7_growFront_20 : decode cX7_growFront 20 = .ok (.iconst 1, 1) := by decide +kernel
theorem dX7_growFront_21 : decode cX7_growFront 21 = .ok (.if_icmp .ne 18, 3) := by decide +kernel
theorem dX7_growFront_24 : decode cX7_growFront 24 = .ok (.aload_n 0, 1) := by decide +kernel
theorem dX7_growFront_25 : decode cX7_growFront 25 = .ok (.iload_n 2, 1) := by decide +kernel
theorem dX7_growFront_26 : decode cX7_growFront 26 = .ok (.iconst 1, 1) := by decide +kernel
theorem dX7_growFront_27 : decode cX7_growFront 27 = .ok (.iadd, 1) := by decide +kernel
theorem dX7_growFront_28 : decode cX7_growFront 28 = .ok (.iload_n 3, 1) := by decide +kernel
theorem dX7_growFront_29 : decode cX7_growFront 29 = .ok (.lload 4, 2) := by decide +kernel
theorem dX7_growFront_31 : decode cX7_growFront 31 = .ok (.bipush (-9), 2) := by decide +kernel
theorem dX7_growFront_33 : decode cX7_growFront 33 = .ok (.invokevirtual 53, 3) := by decide +kernel
theorem dX7_growFront_36 : decode cX7_growFront 36 = .ok (.goto 23, 3) := by decide +kernel
theorem dX7_growFront_39 : decode cX7_growFront 39 = .ok (.iload 6, 2) := by decide +kernel
theorem dX7_growFront_41 : decode cX7_growFront 41 = .ok (.iconst 2, 1) := by decide +kernel
theorem dX7_growFront_42 : decode cX7_growFront 42 = .ok (.if_icmp .ne 17, 3) := by decide +kernel
theorem dX7_growFront_45 : decode cX7_growFront 45 = .ok (.aload_n 0, 1) := by decide +kernel
theorem dX7_growFront_46 : decode cX7_growFront 46 = .ok (.iload_n 2, 1) := by decide +kernel
theorem dX7_growFront_47 : decode cX7_growFront 47 = .ok (.iconst 1, 1) := by decide +kernel
theorem dX7_growFront_48 : decode cX7_growFront 48 = .ok (.iadd, 1) := by decide +kernel
theorem dX7_growFront_49 : decode cX7_growFront 49 = .ok (.iload_n 3, 1) := by decide +kernel
theorem dX7_growFront_50 : decode cX7_growFront 50 = .ok (.iconst 1, 1) := by decide +kernel
theorem dX7_growFront_51 : decode cX7_growFront 51 = .ok (.isub, 1) := by decide +kernel
theorem dX7_growFront_52 : decode cX7_growFront 52 = .ok (.lload 4, 2) := by decide +kernel
theorem dX7_growFront_54 : decode cX7_growFront 54 = .ok (.bipush (-9), 2) := by decide +kernel
theorem dX7_growFront_56 : decode cX7_growFront 56 = .ok (.invokevirtual 53, 3) := by decide +kernel
theorem dX7_growFront_59 : decode cX7_growFront 59 = .ok (.return_, 1) := by decide +kernel
theorem dX7_growJoin_0 : decode cX7_growJoin 0 = .ok (.lload 5, 2) := by decide +kernel
theorem dX7_growJoin_2 : decode cX7_growJoin 2 = .ok (.lstore 7, 2) := by decide +kernel
theorem dX7_growJoin_4 : decode cX7_growJoin 4 = .ok (.iload_n 3, 1) := by decide +kernel
theorem dX7_growJoin_5 : decode cX7_growJoin 5 = .ok (.iconst 1, 1) := by decide +kernel
theorem dX7_growJoin_6 : decode cX7_growJoin 6 = .ok (.iadd, 1) := by decide +kernel
theorem dX7_growJoin_7 : decode cX7_growJoin 7 = .ok (.istore 9, 2) := by decide +kernel
theorem dX7_growJoin_9 : decode cX7_growJoin 9 = .ok (.iload 9, 2) := by decide +kernel
theorem dX7_growJoin_11 : decode cX7_growJoin 11 = .ok (.iload 4, 2) := by decide +kernel
theorem dX7_growJoin_13 : decode cX7_growJoin 13 = .ok (.iconst 1, 1) := by decide +kernel
theorem dX7_growJoin_14 : decode cX7_growJoin 14 = .ok (.isub, 1) := by decide +kernel
theorem dX7_growJoin_15 : decode cX7_growJoin 15 = .ok (.if_icmp .ge 120, 3) := by decide +kernel
theorem dX7_growJoin_18 : decode cX7_growJoin 18 = .ok (.aload_n 1, 1) := by decide +kernel
theorem dX7_growJoin_19 : decode cX7_growJoin 19 = .ok (.iload 9, 2) := by decide +kernel
theorem dX7_growJoin_21 : decode cX7_growJoin 21 = .ok (.invokevirtual 81, 3) := by decide +kernel
theorem dX7_growJoin_24 : decode cX7_growJoin 24 = .ok (.invokestatic 85, 3) := by decide +kernel
theorem dX7_growJoin_27 : decode cX7_growJoin 27 = .ok (.istore 10, 2) := by decide +kernel
theorem dX7_growJoin_29 : decode cX7_growJoin 29 = .ok (.iload 10, 2) := by decide +kernel
theorem dX7_growJoin_31 : decode cX7_growJoin 31 = .ok (.invokestatic 92, 3) := by decide +kernel
theorem dX7_growJoin_34 : decode cX7_growJoin 34 = .ok (.ifCond .ne 6, 3) := by decide +kernel
theorem dX7_growJoin_37 : decode cX7_growJoin 37 = .ok (.goto 92, 3) := by decide +kernel
theorem dX7_growJoin_40 : decode cX7_growJoin 40 = .ok (.aload_n 2, 1) := by decide +kernel
theorem dX7_growJoin_41 : decode cX7_growJoin 41 = .ok (.iload 9, 2) := by decide +kernel
theorem dX7_growJoin_43 : decode cX7_growJoin 43 = .ok (.iconst 1, 1) := by decide +kernel
theorem dX7_growJoin_44 : decode cX7_growJoin 44 = .ok (.iadd, 1) := by decide +kernel
theorem dX7_growJoin_45 : decode cX7_growJoin 45 = .ok (.iload 4, 2) := by decide +kernel
theorem dX7_growJoin_47 : decode cX7_growJoin 47 = .ok (.invokevirtual 96, 3) := by decide +kernel
theorem dX7_growJoin_50 : decode cX7_growJoin 50 = .ok (.lstore 11, 2) := by decide +kernel
theorem dX7_growJoin_52 : decode cX7_growJoin 52 = .ok (.aload_n 2, 1) := by decide +kernel
theorem dX7_growJoin_53 : decode cX7_growJoin 53 = .ok (.iload_n 3, 1) := by decide +kernel
theorem dX7_growJoin_54 : decode cX7_growJoin 54 = .ok (.iload 9, 2) := by decide +kernel
theorem dX7_growJoin_56 : decode cX7_growJoin 56 = .ok (.invokevirtual 96, 3) := by decide +kernel
theorem dX7_growJoin_59 : decode cX7_growJoin 59 = .ok (.lload 11, 2) := by decide +kernel
theorem dX7_growJoin_61 : decode cX7_growJoin 61 = .ok (.lmul, 1) := by decide +kernel
theorem dX7_growJoin_62 : decode cX7_growJoin 62 = .ok (.lstore 13, 2) := by decide +kernel
theorem dX7_growJoin_64 : decode cX7_growJoin 64 = .ok (.lload 7, 2) := by decide +kernel
theorem dX7_growJoin_66 : decode cX7_growJoin 66 = .ok (.lload 13, 2) := by decide +kernel
theorem dX7_growJoin_68 : decode cX7_growJoin 68 = .ok (.lcmp, 1) := by decide +kernel
theorem dX7_growJoin_69 : decode cX7_growJoin 69 = .ok (.ifCond .ge 53, 3) := by decide +kernel
theorem dX7_growJoin_72 : decode cX7_growJoin 72 = .ok (.lload 11, 2) := by decide +kernel
theorem dX7_growJoin_74 : decode cX7_growJoin 74 = .ok (.lconst 0, 1) := by decide +kernel
theorem dX7_growJoin_75 : decode cX7_growJoin 75 = .ok (.lcmp, 1) := by decide +kernel
theorem dX7_growJoin_76 : decode cX7_growJoin 76 = .ok (.ifCond .le 46, 3) := by decide +kernel
theorem dX7_growJoin_79 : decode cX7_growJoin 79 = .ok (.aload_n 0, 1) := by decide +kernel
theorem dX7_growJoin_80 : decode cX7_growJoin 80 = .ok (.iload 9, 2) := by decide +kernel
theorem dX7_growJoin_82 : decode cX7_growJoin 82 = .ok (.iconst 1, 1) := by decide +kernel
theorem dX7_growJoin_83 : decode cX7_growJoin 83 = .ok (.iadd, 1) := by decide +kernel
theorem dX7_growJoin_84 : decode cX7_growJoin 84 = .ok (.iload 4, 2) := by decide +kernel
theorem dX7_growJoin_86 : decode cX7_growJoin 86 = .ok (.lload 7, 2) := by decide +kernel
theorem dX7_growJoin_88 : decode cX7_growJoin 88 = .ok (.lload 11, 2) := by decide +kernel
theorem dX7_growJoin_90 : decode cX7_growJoin 90 = .ok (.lrem, 1) := by decide +kernel
theorem dX7_growJoin_91 : decode cX7_growJoin 91 = .ok (.aload_n 0, 1) := by decide +kernel
theorem dX7_growJoin_92 : decode cX7_growJoin 92 = .ok (.getfield 37, 3) := by decide +kernel
theorem dX7_growJoin_95 : decode cX7_growJoin 95 = .ok (.invokevirtual 53, 3) := by decide +kernel
theorem dX7_growJoin_98 : decode cX7_growJoin 98 = .ok (.aload_n 0, 1) := by decide +kernel
theorem dX7_growJoin_99 : decode cX7_growJoin 99 = .ok (.iload_n 3, 1) := by decide +kernel
theorem dX7_growJoin_100 : decode cX7_growJoin 100 = .ok (.iload 9, 2) := by decide +kernel
theorem dX7_growJoin_102 : decode cX7_growJoin 102 = .ok (.lload 7, 2) := by decide +kernel
theorem dX7_growJoin_104 : decode cX7_growJoin 104 = .ok (.lload 11, 2) := by decide +kernel
theorem dX7_growJoin_106 : decode cX7_growJoin 106 = .ok (.ldiv, 1) := by decide +kernel
theorem dX7_growJoin_107 : decode cX7_growJoin 107 = .ok (.bipush (-9), 2) := by decide +kernel
theorem dX7_growJoin_109 : decode cX7_growJoin 109 = .ok (.invokevirtual 53, 3) := by decide +kernel
theorem dX7_growJoin_112 : decode cX7_growJoin 112 = .ok (.aload_n 0, 1) := by decide +kernel
theorem dX7_growJoin_113 : decode cX7_growJoin 113 = .ok (.iload 10, 2) := by decide +kernel
theorem dX7_growJoin_115 : decode cX7_growJoin 115 = .ok (.iload_n 3, 1) := by decide +kernel
theorem dX7_growJoin_116 : decode cX7_growJoin 116 = .ok (.iload 4, 2) := by decide +kernel
theorem dX7_growJoin_118 : decode cX7_growJoin 118 = .ok (.invokevirtual 88, 3) := by decide +kernel
theorem dX7_growJoin_121 : decode cX7_growJoin 121 = .ok (.return_, 1) := by decide +kernel
theorem dX7_growJoin_122 : decode cX7_growJoin 122 = .ok (.lload 7, 2) := by decide +kernel
theorem dX7_growJoin_124 : decode cX7_growJoin 124 = .ok (.lload 13, 2) := by decide +kernel
theorem dX7_growJoin_126 : decode cX7_growJoin 126 = .ok (.lsub, 1) := by decide +kernel
theorem dX7_growJoin_127 : decode cX7_growJoin 127 = .ok (.lstore 7, 2) := by decide +kernel
theorem dX7_growJoin_129 : decode cX7_growJoin 129 = .ok (.iinc 9 1, 3) := by decide +kernel
theorem dX7_growJoin_132 : decode cX7_growJoin 132 = .ok (.goto (-123), 3) := by decide +kernel
theorem dX7_growJoin_135 : decode cX7_growJoin 135 = .ok (.return_, 1) := by decide +kernel
theorem dX7_addNode_0 : decode cX7_addNode 0 = .ok (.aload_n 0, 1) := by decide +kernel
theorem dX7_addNode_1 : decode cX7_addNode 1 = .ok (.getfield 9, 3) := by decide +kernel
theorem dX7_addNode_4 : decode cX7_addNode 4 = .ok (.aload_n 0, 1) := by decide +kernel
theorem dX7_addNode_5 : decode cX7_addNode 5 = .ok (.getfield 37, 3) := by decide +kernel
theorem dX7_addNode_8 : decode cX7_addNode 8 = .ok (.iload_n 1, 1) := by decide +kernel
theorem dX7_addNode_9 : decode cX7_addNode 9 = .ok (.invokestatic 66, 3) := by decide +kernel
theorem dX7_addNode_12 : decode cX7_addNode 12 = .ok (.aload_n 0, 1) := by decide +kernel
theorem dX7_addNode_13 : decode cX7_addNode 13 = .ok (.getfield 15, 3) := by decide +kernel
theorem dX7_addNode_16 : decode cX7_addNode 16 = .ok (.aload_n 0, 1) := by decide +kernel
theorem dX7_addNode_17 : decode cX7_addNode 17 = .ok (.getfield 37, 3) := by decide +kernel
theorem dX7_addNode_20 : decode cX7_addNode 20 = .ok (.iload_n 2, 1) := by decide +kernel
theorem dX7_addNode_21 : decode cX7_addNode 21 = .ok (.invokestatic 66, 3) := by decide +kernel
theorem dX7_addNode_24 : decode cX7_addNode 24 = .ok (.aload_n 0, 1) := by decide +kernel
theorem dX7_addNode_25 : decode cX7_addNode 25 = .ok (.getfield 18, 3) := by decide +kernel
theorem dX7_addNode_28 : decode cX7_addNode 28 = .ok (.aload_n 0, 1) := by decide +kernel
theorem dX7_addNode_29 : decode cX7_addNode 29 = .ok (.getfield 37, 3) := by decide +kernel
theorem dX7_addNode_32 : decode cX7_addNode 32 = .ok (.iload_n 3, 1) := by decide +kernel
theorem dX7_addNode_33 : decode cX7_addNode 33 = .ok (.invokestatic 66, 3) := by decide +kernel
theorem dX7_addNode_36 : decode cX7_addNode 36 = .ok (.aload_n 0, 1) := by decide +kernel
theorem dX7_addNode_37 : decode cX7_addNode 37 = .ok (.dup, 1) := by decide +kernel
theorem dX7_addNode_38 : decode cX7_addNode 38 = .ok (.getfield 37, 3) := by decide +kernel
theorem dX7_addNode_41 : decode cX7_addNode 41 = .ok (.iconst 1, 1) := by decide +kernel
theorem dX7_addNode_42 : decode cX7_addNode 42 = .ok (.iadd, 1) := by decide +kernel
theorem dX7_addNode_43 : decode cX7_addNode 43 = .ok (.putfield 37, 3) := by decide +kernel
theorem dX7_addNode_46 : decode cX7_addNode 46 = .ok (.return_, 1) := by decide +kernel
theorem dX8_init_0 : decode cX8_init 0 = .ok (.aload_n 0, 1) := by decide +kernel
theorem dX8_init_1 : decode cX8_init 1 = .ok (.invokespecial 3, 3) := by decide +kernel
theorem dX8_init_4 : decode cX8_init 4 = .ok (.aload_n 0, 1) := by decide +kernel
theorem dX8_init_5 : decode cX8_init 5 = .ok (.sipush 200, 3) := by decide +kernel
theorem dX8_init_8 : decode cX8_init 8 = .ok (.newarray .long, 2) := by decide +kernel
theorem dX8_init_10 : decode cX8_init 10 = .ok (.putfield 9, 3) := by decide +kernel
theorem dX8_init_13 : decode cX8_init 13 = .ok (.return_, 1) := by decide +kernel
theorem dX8_size_0 : decode cX8_size 0 = .ok (.aload_n 0, 1) := by decide +kernel
theorem dX8_size_1 : decode cX8_size 1 = .ok (.getfield 15, 3) := by decide +kernel
theorem dX8_size_4 : decode cX8_size 4 = .ok (.ireturn, 1) := by decide +kernel
theorem dX8_gather_0 : decode cX8_gather 0 = .ok (.aload_n 0, 1) := by decide +kernel
theorem dX8_gather_1 : decode cX8_gather 1 = .ok (.iconst 0, 1) := by decide +kernel
theorem dX8_gather_2 : decode cX8_gather 2 = .ok (.putfield 15, 3) := by decide +kernel
theorem dX8_gather_5 : decode cX8_gather 5 = .ok (.iconst 0, 1) := by decide +kernel
theorem dX8_gather_6 : decode cX8_gather 6 = .ok (.istore_n 2, 1) := by decide +kernel
theorem dX8_gather_7 : decode cX8_gather 7 = .ok (.iload_n 2, 1) := by decide +kernel
theorem dX8_gather_8 : decode cX8_gather 8 = .ok (.aload_n 1, 1) := by decide +kernel
theorem dX8_gather_9 : decode cX8_gather 9 = .ok (.invokevirtual 19, 3) := by decide +kernel
theorem dX8_gather_12 : decode cX8_gather 12 = .ok (.if_icmp .ge 47, 3) := by decide +kernel
theorem dX8_gather_15 : decode cX8_gather 15 = .ok (.aload_n 0, 1) := by decide +kernel
theorem dX8_gather_16 : decode cX8_gather 16 = .ok (.aload_n 1, 1) := by decide +kernel
theorem dX8_gather_17 : decode cX8_gather 17 = .ok (.iload_n 2, 1) := by decide +kernel
theorem dX8_gather_18 : decode cX8_gather 18 = .ok (.invokevirtual 24, 3) := by decide +kernel
theorem dX8_gather_21 : decode cX8_gather 21 = .ok (.invokevirtual 28, 3) := by decide +kernel
theorem dX8_gather_24 : decode cX8_gather 24 = .ok (.ifCond .ne 29, 3) := by decide +kernel
theorem dX8_gather_27 : decode cX8_gather 27 = .ok (.aload_n 0, 1) := by decide +kernel
theorem dX8_gather_28 : decode cX8_gather 28 = .ok (.getfield 9, 3) := by decide +kernel
theorem dX8_gather_31 : decode cX8_gather 31 = .ok (.aload_n 0, 1) := by decide +kernel
theorem dX8_gather_32 : decode cX8_gather 32 = .ok (.getfield 15, 3) := by decide +kernel
theorem dX8_gather_35 : decode cX8_gather 35 = .ok (.aload_n 1, 1) := by decide +kernel
theorem dX8_gather_36 : decode cX8_gather 36 = .ok (.iload_n 2, 1) := by decide +kernel
theorem dX8_gather_37 : decode cX8_gather 37 = .ok (.invokevirtual 24, 3) := by decide +kernel
theorem dX8_gather_40 : decode cX8_gather 40 = .ok (.invokestatic 32, 3) := by decide +kernel
theorem dX8_gather_43 : decode cX8_gather 43 = .ok (.aload_n 0, 1) := by decide +kernel
theorem dX8_gather_44 : decode cX8_gather 44 = .ok (.dup, 1) := by decide +kernel
theorem dX8_gather_45 : decode cX8_gather 45 = .ok (.getfield 15, 3) := by decide +kernel
theorem dX8_gather_48 : decode cX8_gather 48 = .ok (.iconst 1, 1) := by decide +kernel
theorem dX8_gather_49 : decode cX8_gather 49 = .ok (.iadd, 1) := by decide +kernel
theorem dX8_gather_50 : decode cX8_gather 50 = .ok (.putfield 15, 3) := by decide +kernel
theorem dX8_gather_53 : decode cX8_gather 53 = .ok (.iinc 2 1, 3) := by decide +kernel
theorem dX8_gather_56 : decode cX8_gather 56 = .ok (.goto (-49), 3) := by decide +kernel
theorem dX8_gather_59 : decode cX8_gather 59 = .ok (.return_, 1) := by decide +kernel
theorem dX8_has_0 : decode cX8_has 0 = .ok (.iconst 0, 1) := by decide +kernel
theorem dX8_has_1 : decode cX8_has 1 = .ok (.istore_n 3, 1) := by decide +kernel
theorem dX8_has_2 : decode cX8_has 2 = .ok (.iload_n 3, 1) := by decide +kernel
theorem dX8_has_3 : decode cX8_has 3 = .ok (.aload_n 0, 1) := by decide +kernel
theorem dX8_has_4 : decode cX8_has 4 = .ok (.getfield 15, 3) := by decide +kernel
theorem dX8_has_7 : decode cX8_has 7 = .ok (.if_icmp .ge 24, 3) := by decide +kernel
theorem dX8_has_10 : decode cX8_has 10 = .ok (.aload_n 0, 1) := by decide +kernel
theorem dX8_has_11 : decode cX8_has 11 = .ok (.getfield 9, 3) := by decide +kernel
theorem dX8_has_14 : decode cX8_has 14 = .ok (.iload_n 3, 1) := by decide +kernel
theorem dX8_has_15 : decode cX8_has 15 = .ok (.invokestatic 36, 3) := by decide +kernel
theorem dX8_has_18 : decode cX8_has 18 = .ok (.lload_n 1, 1) := by decide +kernel
theorem dX8_has_19 : decode cX8_has 19 = .ok (.lcmp, 1) := by decide +kernel
theorem dX8_has_20 : decode cX8_has 20 = .ok (.ifCond .ne 5, 3) := by decide +kernel
theorem dX8_has_23 : decode cX8_has 23 = .ok (.iconst 1, 1) := by decide +kernel
theorem dX8_has_24 : decode cX8_has 24 = .ok (.ireturn, 1) := by decide +kernel
theorem dX8_has_25 : decode cX8_has 25 = .ok (.iinc 3 1, 3) := by decide +kernel
theorem dX8_has_28 : decode cX8_has 28 = .ok (.goto (-26), 3) := by decide +kernel
theorem dX8_has_31 : decode cX8_has 31 = .ok (.iconst 0, 1) := by decide +kernel
theorem dX8_has_32 : decode cX8_has 32 = .ok (.ireturn, 1) := by decide +kernel
theorem dX8_fewestCases_0 : decode cX8_fewestCases 0 = .ok (.aload_n 0, 1) := by decide +kernel
theorem dX8_fewestCases_1 : decode cX8_fewestCases 1 = .ok (.getfield 15, 3) := by decide +kernel
theorem dX8_fewestCases_4 : decode cX8_fewestCases 4 = .ok (.iconst 1, 1) := by decide +kernel
theorem dX8_fewestCases_5 : decode cX8_fewestCases 5 = .ok (.if_icmp .gt 5, 3) := by decide +kernel
theorem dX8_fewestCases_8 : decode cX8_fewestCases 8 = .ok (.iconst 0, 1) := by decide +kernel
theorem dX8_fewestCases_9 : decode cX8_fewestCases 9 = .ok (.ireturn, 1) := by decide +kernel
theorem dX8_fewestCases_10 : decode cX8_fewestCases 10 = .ok (.aload_n 0, 1) := by decide +kernel
theorem dX8_fewestCases_11 : decode cX8_fewestCases 11 = .ok (.getfield 15, 3) := by decide +kernel
theorem dX8_fewestCases_14 : decode cX8_fewestCases 14 = .ok (.bipush 8, 2) := by decide +kernel
theorem dX8_fewestCases_16 : decode cX8_fewestCases 16 = .ok (.if_icmp .le 6, 3) := by decide +kernel
theorem dX8_fewestCases_19 : decode cX8_fewestCases 19 = .ok (.bipush (-9), 2) := by decide +kernel
theorem dX8_fewestCases_21 : decode cX8_fewestCases 21 = .ok (.ireturn, 1) := by decide +kernel
theorem dX8_fewestCases_22 : decode cX8_fewestCases 22 = .ok (.bipush (-9), 2) := by decide +kernel
theorem dX8_fewestCases_24 : decode cX8_fewestCases 24 = .ok (.istore_n 1, 1) := by decide +kernel
theorem dX8_fewestCases_25 : decode cX8_fewestCases 25 = .ok (.iconst 0, 1) := by decide +kernel
theorem dX8_fewestCases_26 : decode cX8_fewestCases 26 = .ok (.istore_n 2, 1) := by decide +kernel
theorem dX8_fewestCases_27 : decode cX8_fewestCases 27 = .ok (.iload_n 2, 1) := by decide +kernel
theorem dX8_fewestCases_28 : decode cX8_fewestCases 28 = .ok (.bipush 32, 2) := by decide +kernel
theorem dX8_fewestCases_30 : decode cX8_fewestCases 30 = .ok (.if_icmp .ge 74, 3) := by decide +kernel
theorem dX8_fewestCases_33 : decode cX8_fewestCases 33 = .ok (.aload_n 0, 1) := by decide +kernel
theorem dX8_fewestCases_34 : decode cX8_fewestCases 34 = .ok (.iload_n 2, 1) := by decide +kernel
theorem dX8_fewestCases_35 : decode cX8_fewestCases 35 = .ok (.iload_n 2, 1) := by decide +kernel
theorem dX8_fewestCases_36 : decode cX8_fewestCases 36 = .ok (.iload_n 2, 1) := by decide +kernel
theorem dX8_fewestCases_37 : decode cX8_fewestCases 37 = .ok (.invokevirtual 40, 3) := by decide +kernel
theorem dX8_fewestCases_40 : decode cX8_fewestCases 40 = .ok (.ifCond .eq 5, 3) := by decide +kernel
theorem dX8_fewestCases_43 : decode cX8_fewestCases 43 = .ok (.iconst 1, 1) := by decide +kernel
theorem dX8_fewestCases_44 : decode cX8_fewestCases 44 = .ok (.ireturn, 1) := by decide +kernel
theorem dX8_fewestCases_45 : decode cX8_fewestCases 45 = .ok (.iload_n 2, 1) := by decide +kernel
theorem dX8_fewestCases_46 : decode cX8_fewestCases 46 = .ok (.iconst 1, 1) := by decide +kernel
theorem dX8_fewestCases_47 : decode cX8_fewestCases 47 = .ok (.iadd, 1) := by decide +kernel
theorem dX8_fewestCases_48 : decode cX8_fewestCases 48 = .ok (.istore_n 3, 1) := by decide +kernel
theorem dX8_fewestCases_49 : decode cX8_fewestCases 49 = .ok (.iload_n 3, 1) := by decide +kernel
theorem dX8_fewestCases_50 : decode cX8_fewestCases 50 = .ok (.bipush 32, 2) := by decide +kernel
theorem dX8_fewestCases_52 : decode cX8_fewestCases 52 = .ok (.if_icmp .ge 46, 3) := by decide +kernel
theorem dX8_fewestCases_55 : decode cX8_fewestCases 55 = .ok (.iload_n 1, 1) := by decide +kernel
theorem dX8_fewestCases_56 : decode cX8_fewestCases 56 = .ok (.iconst 2, 1) := by decide +kernel
theorem dX8_fewestCases_57 : decode cX8_fewestCases 57 = .ok (.if_icmp .eq 41, 3) := by decide +kernel
theorem dX8_fewestCases_60 : decode cX8_fewestCases 60 = .ok (.aload_n 0, 1) := by decide +kernel
theorem dX8_fewestCases_61 : decode cX8_fewestCases 61 = .ok (.iload_n 2, 1) := by decide +kernel
theorem dX8_fewestCases_62 : decode cX8_fewestCases 62 = .ok (.iload_n 3, 1) := by decide +kernel
theorem dX8_fewestCases_63 : decode cX8_fewestCases 63 = .ok (.iload_n 3, 1) := by decide +kernel
theorem dX8_fewestCases_64 : decode cX8_fewestCases 64 = .ok (.invokevirtual 40, 3) := by decide +kernel
theorem dX8_fewestCases_67 : decode cX8_fewestCases 67 = .ok (.ifCond .eq 8, 3) := by decide +kernel
theorem dX8_fewestCases_70 : decode cX8_fewestCases 70 = .ok (.iconst 2, 1) := by decide +kernel
theorem dX8_fewestCases_71 : decode cX8_fewestCases 71 = .ok (.istore_n 1, 1) := by decide +kernel
theorem dX8_fewestCases_72 : decode cX8_fewestCases 72 = .ok (.goto 20, 3) := by decide +kernel
theorem dX8_fewestCases_75 : decode cX8_fewestCases 75 = .ok (.iload_n 1, 1) := by decide +kernel
theorem dX8_fewestCases_76 : decode cX8_fewestCases 76 = .ok (.bipush (-9), 2) := by decide +kernel
theorem dX8_fewestCases_78 : decode cX8_fewestCases 78 = .ok (.if_icmp .ne 14, 3) := by decide +kernel
theorem dX8_fewestCases_81 : decode cX8_fewestCases 81 = .ok (.aload_n 0, 1) := by decide +kernel
theorem dX8_fewestCases_82 : decode cX8_fewestCases 82 = .ok (.iload_n 2, 1) := by decide +kernel
theorem dX8_fewestCases_83 : decode cX8_fewestCases 83 = .ok (.iload_n 3, 1) := by decide +kernel
theorem dX8_fewestCases_84 : decode cX8_fewestCases 84 = .ok (.invokevirtual 44, 3) := by decide +kernel
theorem dX8_fewestCases_87 : decode cX8_fewestCases 87 = .ok (.ifCond .eq 5, 3) := by decide +kernel
theorem dX8_fewestCases_90 : decode cX8_fewestCases 90 = .ok (.iconst 3, 1) := by decide +kernel
theorem dX8_fewestCases_91 : decode cX8_fewestCases 91 = .ok (.istore_n 1, 1) := by decide +kernel
theorem dX8_fewestCases_92 : decode cX8_fewestCases 92 = .ok (.iinc 3 1, 3) := by decide +kernel
theorem dX8_fewestCases_95 : decode cX8_fewestCases 95 = .ok (.goto (-46), 3) := by decide +kernel
theorem dX8_fewestCases_98 : decode cX8_fewestCases 98 = .ok (.iinc 2 1, 3) := by decide +kernel
theorem dX8_fewestCases_101 : decode cX8_fewestCases 101 = .ok (.goto (-74), 3) := by decide +kernel
theorem dX8_fewestCases_104 : decode cX8_fewestCases 104 = .ok (.iload_n 1, 1) := by decide +kernel
theorem dX8_fewestCases_105 : decode cX8_fewestCases 105 = .ok (.ireturn, 1) := by decide +kernel
theorem dX8_isThirdFor_0 : decode cX8_isThirdFor 0 = .ok (.iload_n 2, 1) := by decide +kernel
theorem dX8_isThirdFor_1 : decode cX8_isThirdFor 1 = .ok (.iconst 1, 1) := by decide +kernel
theorem dX8_isThirdFor_2 : decode cX8_isThirdFor 2 = .ok (.iadd, 1) := by decide +kernel
theorem dX8_isThirdFor_3 : decode cX8_isThirdFor 3 = .ok (.istore_n 3, 1) := by decide +kernel
theorem dX8_isThirdFor_4 : decode cX8_isThirdFor 4 = .ok (.iload_n 3, 1) := by decide +kernel
theorem dX8_isThirdFor_5 : decode cX8_isThirdFor 5 = .ok (.bipush 32, 2) := by decide +kernel
theorem dX8_isThirdFor_7 : decode cX8_isThirdFor 7 = .ok (.if_icmp .ge 21, 3) := by decide +kernel
theorem dX8_isThirdFor_10 : decode cX8_isThirdFor 10 = .ok (.aload_n 0, 1) := by decide +kernel
theorem dX8_isThirdFor_11 : decode cX8_isThirdFor 11 = .ok (.iload_n 1, 1) := by decide +kernel
theorem dX8_isThirdFor_12 : decode cX8_isThirdFor 12 = .ok (.iload_n 2, 1) := by decide +kernel
theorem dX8_isThirdFor_13 : decode cX8_isThirdFor 13 = .ok (.iload_n 3, 1) := by decide +kernel
theorem dX8_isThirdFor_14 : decode cX8_isThirdFor 14 = .ok (.invokevirtual 40, 3) := by decide +kernel
theorem dX8_isThirdFor_17 : decode cX8_isThirdFor 17 = .ok (.ifCond .eq 5, 3) := by decide +kernel
theorem dX8_isThirdFor_20 : decode cX8_isThirdFor 20 = .ok (.iconst 1, 1) := by decide +kernel
theorem dX8_isThirdFor_21 : decode cX8_isThirdFor 21 = .ok (.ireturn, 1) := by decide +kernel
theorem dX8_isThirdFor_22 : decode cX8_isThirdFor 22 = .ok (.iinc 3 1, 3) := by decide +kernel
theorem dX8_isThirdFor_25 : decode cX8_isThirdFor 25 = .ok (.goto (-21), 3) := by decide +kernel
theorem dX8_isThirdFor_28 : decode cX8_isThirdFor 28 = .ok (.iconst 0, 1) := by decide +kernel
theorem dX8_isThirdFor_29 : decode cX8_isThirdFor 29 = .ok (.ireturn, 1) := by decide +kernel
theorem dX8_arePartedBy_0 : decode cX8_arePartedBy 0 = .ok (.iconst 0, 1) := by decide +kernel
theorem dX8_arePartedBy_1 : decode cX8_arePartedBy 1 = .ok (.istore 4, 2) := by decide +kernel
theorem dX8_arePartedBy_3 : decode cX8_arePartedBy 3 = .ok (.iconst 0, 1) := by decide +kernel
theorem dX8_arePartedBy_4 : decode cX8_arePartedBy 4 = .ok (.istore 5, 2) := by decide +kernel
theorem dX8_arePartedBy_6 : decode cX8_arePartedBy 6 = .ok (.iload 5, 2) := by decide +kernel
theorem dX8_arePartedBy_8 : decode cX8_arePartedBy 8 = .ok (.aload_n 0, 1) := by decide +kernel
theorem dX8_arePartedBy_9 : decode cX8_arePartedBy 9 = .ok (.getfield 15, 3) := by decide +kernel
theorem dX8_arePartedBy_12 : decode cX8_arePartedBy 12 = .ok (.if_icmp .ge 65, 3) := by decide +kernel
theorem dX8_arePartedBy_15 : decode cX8_arePartedBy 15 = .ok (.aload_n 0, 1) := by decide +kernel
theorem dX8_arePartedBy_16 : decode cX8_arePartedBy 16 = .ok (.getfield 9, 3) := by decide +kernel
theorem dX8_arePartedBy_19 : decode cX8_arePartedBy 19 = .ok (.iload 5, 2) := by decide +kernel
theorem dX8_arePartedBy_21 : decode cX8_arePartedBy 21 = .ok (.invokestatic 36, 3) := by decide +kernel
theorem dX8_arePartedBy_24 : decode cX8_arePartedBy 24 = .ok (.lstore 6, 2) := by decide +kernel
theorem dX8_arePartedBy_26 : decode cX8_arePartedBy 26 = .ok (.iconst 1, 1) := by decide +kernel
theorem dX8_arePartedBy_27 : decode cX8_arePartedBy 27 = .ok (.lload 6, 2) := by decide +kernel
theorem dX8_arePartedBy_29 : decode cX8_arePartedBy 29 = .ok (.iload_n 1, 1) := by decide +kernel
theorem dX8_arePartedBy_30 : decode cX8_arePartedBy 30 = .ok (.invokestatic 48, 3) := by decide +kernel
theorem dX8_arePartedBy_33 : decode cX8_arePartedBy 33 = .ok (.iconst 2, 1) := by decide +kernel
theorem dX8_arePartedBy_34 : decode cX8_arePartedBy 34 = .ok (.lload 6, 2) := by decide +kernel
theorem dX8_arePartedBy_36 : decode cX8_arePartedBy 36 = .ok (.iload_n 2, 1) := by decide +kernel
theorem dX8_arePartedBy_37 : decode cX8_arePartedBy 37 = .ok (.invokestatic 48, 3) := by decide +kernel
theorem dX8_arePartedBy_40 : decode cX8_arePartedBy 40 = .ok (.imul, 1) := by decide +kernel
theorem dX8_arePartedBy_41 : decode cX8_arePartedBy 41 = .ok (.iadd, 1) := by decide +kernel
theorem dX8_arePartedBy_42 : decode cX8_arePartedBy 42 = .ok (.iconst 4, 1) := by decide +kernel
theorem dX8_arePartedBy_43 : decode cX8_arePartedBy 43 = .ok (.lload 6, 2) := by decide +kernel
theorem dX8_arePartedBy_45 : decode cX8_arePartedBy 45 = .ok (.iload_n 3, 1) := by decide +kernel
theorem dX8_arePartedBy_46 : decode cX8_arePartedBy 46 = .ok (.invokestatic 48, 3) := by decide +kernel
theorem dX8_arePartedBy_49 : decode cX8_arePartedBy 49 = .ok (.imul, 1) := by decide +kernel
theorem dX8_arePartedBy_50 : decode cX8_arePartedBy 50 = .ok (.iadd, 1) := by decide +kernel
theorem dX8_arePartedBy_51 : decode cX8_arePartedBy 51 = .ok (.ishl, 1) := by decide +kernel
theorem dX8_arePartedBy_52 : decode cX8_arePartedBy 52 = .ok (.istore 8, 2) := by decide +kernel
theorem dX8_arePartedBy_54 : decode cX8_arePartedBy 54 = .ok (.iload 4, 2) := by decide +kernel
theorem dX8_arePartedBy_56 : decode cX8_arePartedBy 56 = .ok (.iload 8, 2) := by decide +kernel
theorem dX8_arePartedBy_58 : decode cX8_arePartedBy 58 = .ok (.iand, 1) := by decide +kernel
theorem dX8_arePartedBy_59 : decode cX8_arePartedBy 59 = .ok (.ifCond .eq 5, 3) := by decide +kernel
theorem dX8_arePartedBy_62 : decode cX8_arePartedBy 62 = .ok (.iconst 0, 1) := by decide +kernel
theorem dX8_arePartedBy_63 : decode cX8_arePartedBy 63 = .ok (.ireturn, 1) := by decide +kernel
theorem dX8_arePartedBy_64 : decode cX8_arePartedBy 64 = .ok (.iload 4, 2) := by decide +kernel
theorem dX8_arePartedBy_66 : decode cX8_arePartedBy 66 = .ok (.iload 8, 2) := by decide +kernel
theorem dX8_arePartedBy_68 : decode cX8_arePartedBy 68 = .ok (.ior, 1) := by decide +kernel
theorem dX8_arePartedBy_69 : decode cX8_arePartedBy 69 = .ok (.istore 4, 2) := by decide +kernel
theorem dX8_arePartedBy_71 : decode cX8_arePartedBy 71 = .ok (.iinc 5 1, 3) := by decide +kernel
theorem dX8_arePartedBy_74 : decode cX8_arePartedBy 74 = .ok (.goto (-68), 3) := by decide +kernel
theorem dX8_arePartedBy_77 : decode cX8_arePartedBy 77 = .ok (.iconst 1, 1) := by decide +kernel
theorem dX8_arePartedBy_78 : decode cX8_arePartedBy 78 = .ok (.ireturn, 1) := by decide +kernel
theorem dX9_init_0 : decode cX9_init 0 = .ok (.aload_n 0, 1) := by decide +kernel
theorem dX9_init_1 : decode cX9_init 1 = .ok (.invokespecial 3, 3) := by decide +kernel
theorem dX9_init_4 : decode cX9_init 4 = .ok (.aload_n 0, 1) := by decide +kernel
theorem dX9_init_5 : decode cX9_init 5 = .ok (.sipush 484, 3) := by decide +kernel
theorem dX9_init_8 : decode cX9_init 8 = .ok (.newarray .long, 2) := by decide +kernel
theorem dX9_init_10 : decode cX9_init 10 = .ok (.putfield 11, 3) := by decide +kernel
theorem dX9_init_13 : decode cX9_init 13 = .ok (.aload_n 0, 1) := by decide +kernel
theorem dX9_init_14 : decode cX9_init 14 = .ok (.sipush 484, 3) := by decide +kernel
theorem dX9_init_17 : decode cX9_init 17 = .ok (.newarray .long, 2) := by decide +kernel
theorem dX9_init_19 : decode cX9_init 19 = .ok (.putfield 15, 3) := by decide +kernel
theorem dX9_init_22 : decode cX9_init 22 = .ok (.return_, 1) := by decide +kernel
theorem dX9_number_0 : decode cX9_number 0 = .ok (.aload_n 0, 1) := by decide +kernel
theorem dX9_number_1 : decode cX9_number 1 = .ok (.getfield 11, 3) := by decide +kernel
theorem dX9_number_4 : decode cX9_number 4 = .ok (.iload_n 1, 1) := by decide +kernel
theorem dX9_number_5 : decode cX9_number 5 = .ok (.bipush 22, 2) := by decide +kernel
theorem dX9_number_7 : decode cX9_number 7 = .ok (.imul, 1) := by decide +kernel
theorem dX9_number_8 : decode cX9_number 8 = .ok (.iload_n 2, 1) := by decide +kernel
theorem dX9_number_9 : decode cX9_number 9 = .ok (.iadd, 1) := by decide +kernel
theorem dX9_number_10 : decode cX9_number 10 = .ok (.invokestatic 18, 3) := by decide +kernel
theorem dX9_number_13 : decode cX9_number 13 = .ok (.lreturn, 1) := by decide +kernel
theorem dX9_frontNumber_0 : decode cX9_frontNumber 0 = .ok (.aload_n 0, 1) := by decide +kernel
theorem dX9_frontNumber_1 : decode cX9_frontNumber 1 = .ok (.getfield 15, 3) := by decide +kernel
theorem dX9_frontNumber_4 : decode cX9_frontNumber 4 = .ok (.iload_n 1, 1) := by decide +kernel
theorem dX9_frontNumber_5 : decode cX9_frontNumber 5 = .ok (.bipush 22, 2) := by decide +kernel
theorem dX9_frontNumber_7 : decode cX9_frontNumber 7 = .ok (.imul, 1) := by decide +kernel
theorem dX9_frontNumber_8 : decode cX9_frontNumber 8 = .ok (.iload_n 2, 1) := by decide +kernel
theorem dX9_frontNumber_9 : decode cX9_frontNumber 9 = .ok (.iadd, 1) := by decide +kernel
theorem dX9_frontNumber_10 : decode cX9_frontNumber 10 = .ok (.invokestatic 18, 3) := by decide +kernel
theorem dX9_frontNumber_13 : decode cX9_frontNumber 13 = .ok (.lreturn, 1) := by decide +kernel
theorem dX9_reckon_0 : decode cX9_reckon 0 = .ok (.aload_n 1, 1) := by decide +kernel
theorem dX9_reckon_1 : decode cX9_reckon 1 = .ok (.invokevirtual 22, 3) := by decide +kernel
theorem dX9_reckon_4 : decode cX9_reckon 4 = .ok (.iconst 1, 1) := by decide +kernel
theorem dX9_reckon_5 : decode cX9_reckon 5 = .ok (.isub, 1) := by decide +kernel
theorem dX9_reckon_6 : decode cX9_reckon 6 = .ok (.istore_n 2, 1) := by decide +kernel
theorem dX9_reckon_7 : decode cX9_reckon 7 = .ok (.iload_n 2, 1) := by decide +kernel
theorem dX9_reckon_8 : decode cX9_reckon 8 = .ok (.ifCond .lt 96, 3) := by decide +kernel
theorem dX9_reckon_11 : decode cX9_reckon 11 = .ok (.aload_n 1, 1) := by decide +kernel
theorem dX9_reckon_12 : decode cX9_reckon 12 = .ok (.iload_n 2, 1) := by decide +kernel
theorem dX9_reckon_13 : decode cX9_reckon 13 = .ok (.iconst 1, 1) := by decide +kernel
theorem dX9_reckon_14 : decode cX9_reckon 14 = .ok (.iadd, 1) := by decide +kernel
theorem dX9_reckon_15 : decode cX9_reckon 15 = .ok (.invokevirtual 28, 3) := by decide +kernel
theorem dX9_reckon_18 : decode cX9_reckon 18 = .ok (.istore_n 3, 1) := by decide +kernel
theorem dX9_reckon_19 : decode cX9_reckon 19 = .ok (.iload_n 2, 1) := by decide +kernel
theorem dX9_reckon_20 : decode cX9_reckon 20 = .ok (.iconst 1, 1) := by decide +kernel
theorem dX9_reckon_21 : decode cX9_reckon 21 = .ok (.iadd, 1) := by decide +kernel
theorem dX9_reckon_22 : decode cX9_reckon 22 = .ok (.istore 4, 2) := by decide +kernel
theorem dX9_reckon_24 : decode cX9_reckon 24 = .ok (.iload 4, 2) := by decide +kernel
theorem dX9_reckon_26 : decode cX9_reckon 26 = .ok (.aload_n 1, 1) := by decide +kernel
theorem dX9_reckon_27 : decode cX9_reckon 27 = .ok (.invokevirtual 22, 3) := by decide +kernel
theorem dX9_reckon_30 : decode cX9_reckon 30 = .ok (.if_icmp .gt 68, 3) := by decide +kernel
theorem dX9_reckon_33 : decode cX9_reckon 33 = .ok (.aload_n 0, 1) := by decide +kernel
theorem dX9_reckon_34 : decode cX9_reckon 34 = .ok (.aload_n 1, 1) := by decide +kernel
theorem dX9_reckon_35 : decode cX9_reckon 35 = .ok (.iload_n 2, 1) := by decide +kernel
theorem dX9_reckon_36 : decode cX9_reckon 36 = .ok (.invokevirtual 32, 3) := by decide +kernel
theorem dX9_reckon_39 : decode cX9_reckon 39 = .ok (.invokestatic 35, 3) := by decide +kernel
theorem dX9_reckon_42 : decode cX9_reckon 42 = .ok (.iload_n 2, 1) := by decide +kernel
theorem dX9_reckon_43 : decode cX9_reckon 43 = .ok (.iload 4, 2) := by decide +kernel
theorem dX9_reckon_45 : decode cX9_reckon 45 = .ok (.iload_n 3, 1) := by decide +kernel
theorem dX9_reckon_46 : decode cX9_reckon 46 = .ok (.invokevirtual 38, 3) := by decide +kernel
theorem dX9_reckon_49 : decode cX9_reckon 49 = .ok (.lstore 5, 2) := by decide +kernel
theorem dX9_reckon_51 : decode cX9_reckon 51 = .ok (.aload_n 0, 1) := by decide +kernel
theorem dX9_reckon_52 : decode cX9_reckon 52 = .ok (.getfield 15, 3) := by decide +kernel
theorem dX9_reckon_55 : decode cX9_reckon 55 = .ok (.iload_n 2, 1) := by decide +kernel
theorem dX9_reckon_56 : decode cX9_reckon 56 = .ok (.bipush 22, 2) := by decide +kernel
theorem dX9_reckon_58 : decode cX9_reckon 58 = .ok (.imul, 1) := by decide +kernel
theorem dX9_reckon_59 : decode cX9_reckon 59 = .ok (.iload 4, 2) := by decide +kernel
theorem dX9_reckon_61 : decode cX9_reckon 61 = .ok (.iadd, 1) := by decide +kernel
theorem dX9_reckon_62 : decode cX9_reckon 62 = .ok (.lload 5, 2) := by decide +kernel
theorem dX9_reckon_64 : decode cX9_reckon 64 = .ok (.invokestatic 42, 3) := by decide +kernel
theorem dX9_reckon_67 : decode cX9_reckon 67 = .ok (.aload_n 0, 1) := by decide +kernel
theorem dX9_reckon_68 : decode cX9_reckon 68 = .ok (.getfield 11, 3) := by decide +kernel
theorem dX9_reckon_71 : decode cX9_reckon 71 = .ok (.iload_n 2, 1) := by decide +kernel
theorem dX9_reckon_72 : decode cX9_reckon 72 = .ok (.bipush 22, 2) := by decide +kernel
theorem dX9_reckon_74 : decode cX9_reckon 74 = .ok (.imul, 1) := by decide +kernel
theorem dX9_reckon_75 : decode cX9_reckon 75 = .ok (.iload 4, 2) := by decide +kernel
theorem dX9_reckon_77 : decode cX9_reckon 77 = .ok (.iadd, 1) := by decide +kernel
theorem dX9_reckon_78 : decode cX9_reckon 78 = .ok (.lload 5, 2) := by decide +kernel
theorem dX9_reckon_80 : decode cX9_reckon 80 = .ok (.aload_n 0, 1) := by decide +kernel
theorem dX9_reckon_81 : decode cX9_reckon 81 = .ok (.aload_n 1, 1) := by decide +kernel
theorem dX9_reckon_82 : decode cX9_reckon 82 = .ok (.iload_n 2, 1) := by decide +kernel
theorem dX9_reckon_83 : decode cX9_reckon 83 = .ok (.iload 4, 2) := by decide +kernel
theorem dX9_reckon_85 : decode cX9_reckon 85 = .ok (.invokevirtual 46, 3) := by decide +kernel
theorem dX9_reckon_88 : decode cX9_reckon 88 = .ok (.ladd, 1) := by decide +kernel
theorem dX9_reckon_89 : decode cX9_reckon 89 = .ok (.invokestatic 42, 3) := by decide +kernel
theorem dX9_reckon_92 : decode cX9_reckon 92 = .ok (.iinc 4 1, 3) := by decide +kernel
theorem dX9_reckon_95 : decode cX9_reckon 95 = .ok (.goto (-71), 3) := by decide +kernel
theorem dX9_reckon_98 : decode cX9_reckon 98 = .ok (.iinc 2 (-1), 3) := by decide +kernel
theorem dX9_reckon_101 : decode cX9_reckon 101 = .ok (.goto (-94), 3) := by decide +kernel
theorem dX9_reckon_104 : decode cX9_reckon 104 = .ok (.return_, 1) := by decide +kernel
theorem dX9_fronted_0 : decode cX9_fronted 0 = .ok (.iload_n 1, 1) := by decide +kernel
theorem dX9_fronted_1 : decode cX9_fronted 1 = .ok (.ifCond .ne 16, 3) := by decide +kernel
theorem dX9_fronted_4 : decode cX9_fronted 4 = .ok (.iload_n 3, 1) := by decide +kernel
theorem dX9_fronted_5 : decode cX9_fronted 5 = .ok (.iload_n 2, 1) := by decide +kernel
theorem dX9_fronted_6 : decode cX9_fronted 6 = .ok (.iconst 1, 1) := by decide +kernel
theorem dX9_fronted_7 : decode cX9_fronted 7 = .ok (.iadd, 1) := by decide +kernel
theorem dX9_fronted_8 : decode cX9_fronted 8 = .ok (.if_icmp .ne 7, 3) := by decide +kernel
theorem dX9_fronted_11 : decode cX9_fronted 11 = .ok (.lconst 1, 1) := by decide +kernel
theorem dX9_fronted_12 : decode cX9_fronted 12 = .ok (.goto 4, 3) := by decide +kernel
theorem dX9_fronted_15 : decode cX9_fronted 15 = .ok (.lconst 0, 1) := by decide +kernel
theorem dX9_fronted_16 : decode cX9_fronted 16 = .ok (.lreturn, 1) := by decide +kernel
theorem dX9_fronted_17 : decode cX9_fronted 17 = .ok (.iload_n 1, 1) := by decide +kernel
theorem dX9_fronted_18 : decode cX9_fronted 18 = .ok (.iconst 1, 1) := by decide +kernel
theorem dX9_fronted_19 : decode cX9_fronted 19 = .ok (.if_icmp .ne 12, 3) := by decide +kernel
theorem dX9_fronted_22 : decode cX9_fronted 22 = .ok (.aload_n 0, 1) := by decide +kernel
theorem dX9_fronted_23 : decode cX9_fronted 23 = .ok (.iload_n 2, 1) := by decide +kernel
theorem dX9_fronted_24 : decode cX9_fronted 24 = .ok (.iconst 1, 1) := by decide +kernel
theorem dX9_fronted_25 : decode cX9_fronted 25 = .ok (.iadd, 1) := by decide +kernel
theorem dX9_fronted_26 : decode cX9_fronted 26 = .ok (.iload_n 3, 1) := by decide +kernel
theorem dX9_fronted_27 : decode cX9_fronted 27 = .ok (.invokevirtual 50, 3) := by decide +kernel
theorem dX9_fronted_30 : decode cX9_fronted 30 = .ok (.lreturn, 1) := by decide +kernel
theorem dX9_fronted_31 : decode cX9_fronted 31 = .ok (.iload_n 1, 1) := by decide +kernel
theorem dX9_fronted_32 : decode cX9_fronted 32 = .ok (.iconst 2, 1) := by decide +kernel
theorem dX9_fronted_33 : decode cX9_fronted 33 = .ok (.if_icmp .ne 23, 3) := by decide +kernel
theorem dX9_fronted_36 : decode cX9_fronted 36 = .ok (.iload 4, 2) := by decide +kernel
theorem dX9_fronted_38 : decode cX9_fronted 38 = .ok (.iload_n 3, 1) := by decide +kernel
theorem dX9_fronted_39 : decode cX9_fronted 39 = .ok (.iconst 1, 1) := by decide +kernel
theorem dX9_fronted_40 : decode cX9_fronted 40 = .ok (.isub, 1) := by decide +kernel
theorem dX9_fronted_41 : decode cX9_fronted 41 = .ok (.if_icmp .ne 15, 3) := by decide +kernel
theorem dX9_fronted_44 : decode cX9_fronted 44 = .ok (.aload_n 0, 1) := by decide +kernel
theorem dX9_fronted_45 : decode cX9_fronted 45 = .ok (.iload_n 2, 1) := by decide +kernel
theorem dX9_fronted_46 : decode cX9_fronted 46 = .ok (.iconst 1, 1) := by decide +kernel
theorem dX9_fronted_47 : decode cX9_fronted 47 = .ok (.iadd, 1) := by decide +kernel
theorem dX9_fronted_48 : decode cX9_fronted 48 = .ok (.iload 4, 2) := by decide +kernel
theorem dX9_fronted_50 : decode cX9_fronted 50 = .ok (.invokevirtual 50, 3) := by decide +kernel
theorem dX9_fronted_53 : decode cX9_fronted 53 = .ok (.goto 4, 3) := by decide +kernel
theorem dX9_fronted_56 : decode cX9_fronted 56 = .ok (.lconst 0, 1) := by decide +kernel
theorem dX9_fronted_57 : decode cX9_fronted 57 = .ok (.lreturn, 1) := by decide +kernel
theorem dX9_parted_0 : decode cX9_parted 0 = .ok (.lconst 0, 1) := by decide +kernel
theorem dX9_parted_1 : decode cX9_parted 1 = .ok (.lstore 4, 2) := by decide +kernel
theorem dX9_parted_3 : decode cX9_parted 3 = .ok (.iload_n 2, 1) := by decide +kernel
theorem dX9_parted_4 : decode cX9_parted 4 = .ok (.iconst 1, 1) := by decide +kernel
theorem dX9_parted_5 : decode cX9_parted 5 = .ok (.iadd, 1) := by decide +kernel
theorem dX9_parted_6 : decode cX9_parted 6 = .ok (.istore 6, 2) := by decide +kernel
theorem dX9_parted_8 : decode cX9_parted 8 = .ok (.iload 6, 2) := by decide +kernel
theorem dX9_parted_10 : decode cX9_parted 10 = .ok (.iload_n 3, 1) := by decide +kernel
theorem dX9_parted_11 : decode cX9_parted 11 = .ok (.iconst 1, 1) := by decide +kernel
theorem dX9_parted_12 : decode cX9_parted 12 = .ok (.isub, 1) := by decide +kernel
theorem dX9_parted_13 : decode cX9_parted 13 = .ok (.if_icmp .ge 46, 3) := by decide +kernel
theorem dX9_parted_16 : decode cX9_parted 16 = .ok (.aload_n 1, 1) := by decide +kernel
theorem dX9_parted_17 : decode cX9_parted 17 = .ok (.iload 6, 2) := by decide +kernel
theorem dX9_parted_19 : decode cX9_parted 19 = .ok (.invokevirtual 32, 3) := by decide +kernel
theorem dX9_parted_22 : decode cX9_parted 22 = .ok (.invokestatic 35, 3) := by decide +kernel
theorem dX9_parted_25 : decode cX9_parted 25 = .ok (.invokestatic 54, 3) := by decide +kernel
theorem dX9_parted_28 : decode cX9_parted 28 = .ok (.ifCond .eq 25, 3) := by decide +kernel
theorem dX9_parted_31 : decode cX9_parted 31 = .ok (.lload 4, 2) := by decide +kernel
theorem dX9_parted_33 : decode cX9_parted 33 = .ok (.aload_n 0, 1) := by decide +kernel
theorem dX9_parted_34 : decode cX9_parted 34 = .ok (.iload_n 2, 1) := by decide +kernel
theorem dX9_parted_35 : decode cX9_parted 35 = .ok (.iload 6, 2) := by decide +kernel
theorem dX9_parted_37 : decode cX9_parted 37 = .ok (.invokevirtual 50, 3) := by decide +kernel
theorem dX9_parted_40 : decode cX9_parted 40 = .ok (.aload_n 0, 1) := by decide +kernel
theorem dX9_parted_41 : decode cX9_parted 41 = .ok (.iload 6, 2) := by decide +kernel
theorem dX9_parted_43 : decode cX9_parted 43 = .ok (.iconst 1, 1) := by decide +kernel
theorem dX9_parted_44 : decode cX9_parted 44 = .ok (.iadd, 1) := by decide +kernel
theorem dX9_parted_45 : decode cX9_parted 45 = .ok (.iload_n 3, 1) := by decide +kernel
theorem dX9_parted_46 : decode cX9_parted 46 = .ok (.invokevirtual 50, 3) := by decide +kernel
theorem dX9_parted_49 : decode cX9_parted 49 = .ok (.lmul, 1) := by decide +kernel
theorem dX9_parted_50 : decode cX9_parted 50 = .ok (.ladd, 1) := by decide +kernel
theorem dX9_parted_51 : decode cX9_parted 51 = .ok (.lstore 4, 2) := by decide +kernel
theorem dX9_parted_53 : decode cX9_parted 53 = .ok (.iinc 6 1, 3) := by decide +kernel
theorem dX9_parted_56 : decode cX9_parted 56 = .ok (.goto (-48), 3) := by decide +kernel
theorem dX9_parted_59 : decode cX9_parted 59 = .ok (.lload 4, 2) := by decide +kernel
theorem dX9_parted_61 : decode cX9_parted 61 = .ok (.lreturn, 1) := by decide +kernel
theorem dX10_init_0 : decode cX10_init 0 = .ok (.aload_n 0, 1) := by decide +kernel
theorem dX10_init_1 : decode cX10_init 1 = .ok (.invokespecial 3, 3) := by decide +kernel
theorem dX10_init_4 : decode cX10_init 4 = .ok (.aload_n 0, 1) := by decide +kernel
theorem dX10_init_5 : decode cX10_init 5 = .ok (.bipush 21, 2) := by decide +kernel
theorem dX10_init_7 : decode cX10_init 7 = .ok (.newarray .int, 2) := by decide +kernel
theorem dX10_init_9 : decode cX10_init 9 = .ok (.putfield 9, 3) := by decide +kernel
theorem dX10_init_12 : decode cX10_init 12 = .ok (.return_, 1) := by decide +kernel
theorem dX10_size_0 : decode cX10_size 0 = .ok (.aload_n 0, 1) := by decide +kernel
theorem dX10_size_1 : decode cX10_size 1 = .ok (.getfield 15, 3) := by decide +kernel
theorem dX10_size_4 : decode cX10_size 4 = .ok (.ireturn, 1) := by decide +kernel
theorem dX10_at_0 : decode cX10_at 0 = .ok (.aload_n 0, 1) := by decide +kernel
theorem dX10_at_1 : decode cX10_at 1 = .ok (.getfield 9, 3) := by decide +kernel
theorem dX10_at_4 : decode cX10_at 4 = .ok (.iload_n 1, 1) := by decide +kernel
theorem dX10_at_5 : decode cX10_at 5 = .ok (.invokestatic 19, 3) := by decide +kernel
theorem dX10_at_8 : decode cX10_at 8 = .ok (.ireturn, 1) := by decide +kernel
theorem dX10_clear_0 : decode cX10_clear 0 = .ok (.aload_n 0, 1) := by decide +kernel
theorem dX10_clear_1 : decode cX10_clear 1 = .ok (.iconst 0, 1) := by decide +kernel
theorem dX10_clear_2 : decode cX10_clear 2 = .ok (.putfield 15, 3) := by decide +kernel
end
section
theorem dX10_clear_5 : decode cX10_clear 5 = .ok (.return_, 1) := by decide +kernel
theorem dX10_add_0 : decode cX10_add 0 = .ok (.aload_n 0, 1) := by decide +kernel
theorem dX10_add_1 : decode cX10_add 1 = .ok (.getfield 15, 3) := by decide +kernel
theorem dX10_add_4 : decode cX10_add 4 = .ok (.bipush 21, 2) := by decide +kernel
theorem dX10_add_6 : decode cX10_add 6 = .ok (.if_icmp .ge 25, 3) := by decide +kernel
theorem dX10_add_9 : decode cX10_add 9 = .ok (.aload_n 0, 1) := by decide +kernel
theorem dX10_add_10 : decode cX10_add 10 = .ok (.getfield 9, 3) := by decide +kernel
theorem dX10_add_13 : decode cX10_add 13 = .ok (.aload_n 0, 1) := by decide +kernel
theorem dX10_add_14 : decode cX10_add 14 = .ok (.getfield 15, 3) := by decide +kernel
theorem dX10_add_17 : decode cX10_add 17 = .ok (.iload_n 1, 1) := by decide +kernel
theorem dX10_add_18 : decode cX10_add 18 = .ok (.invokestatic 23, 3) := by decide +kernel
theorem dX10_add_21 : decode cX10_add 21 = .ok (.aload_n 0, 1) := by decide +kernel
theorem dX10_add_22 : decode cX10_add 22 = .ok (.dup, 1) := by decide +kernel
theorem dX10_add_23 : decode cX10_add 23 = .ok (.getfield 15, 3) := by decide +kernel
theorem dX10_add_26 : decode cX10_add 26 = .ok (.iconst 1, 1) := by decide +kernel
theorem dX10_add_27 : decode cX10_add 27 = .ok (.iadd, 1) := by decide +kernel
theorem dX10_add_28 : decode cX10_add 28 = .ok (.putfield 15, 3) := by decide +kernel
theorem dX10_add_31 : decode cX10_add 31 = .ok (.return_, 1) := by decide +kernel
theorem dX10_become_0 : decode cX10_become 0 = .ok (.aload_n 0, 1) := by decide +kernel
theorem dX10_become_1 : decode cX10_become 1 = .ok (.invokevirtual 27, 3) := by decide +kernel
theorem dX10_become_4 : decode cX10_become 4 = .ok (.iconst 0, 1) := by decide +kernel
theorem dX10_become_5 : decode cX10_become 5 = .ok (.istore_n 2, 1) := by decide +kernel
theorem dX10_become_6 : decode cX10_become 6 = .ok (.iload_n 2, 1) := by decide +kernel
theorem dX10_become_7 : decode cX10_become 7 = .ok (.aload_n 1, 1) := by decide +kernel
theorem dX10_become_8 : decode cX10_become 8 = .ok (.getfield 15, 3) := by decide +kernel
theorem dX10_become_11 : decode cX10_become 11 = .ok (.if_icmp .ge 18, 3) := by decide +kernel
theorem dX10_become_14 : decode cX10_become 14 = .ok (.aload_n 0, 1) := by decide +kernel
theorem dX10_become_15 : decode cX10_become 15 = .ok (.aload_n 1, 1) := by decide +kernel
theorem dX10_become_16 : decode cX10_become 16 = .ok (.iload_n 2, 1) := by decide +kernel
theorem dX10_become_17 : decode cX10_become 17 = .ok (.invokevirtual 30, 3) := by decide +kernel
theorem dX10_become_20 : decode cX10_become 20 = .ok (.invokevirtual 34, 3) := by decide +kernel
theorem dX10_become_23 : decode cX10_become 23 = .ok (.iinc 2 1, 3) := by decide +kernel
theorem dX10_become_26 : decode cX10_become 26 = .ok (.goto (-20), 3) := by decide +kernel
theorem dX10_become_29 : decode cX10_become 29 = .ok (.return_, 1) := by decide +kernel
theorem dX10_bracketed_0 : decode cX10_bracketed 0 = .ok (.aload_n 0, 1) := by decide +kernel
theorem dX10_bracketed_1 : decode cX10_bracketed 1 = .ok (.invokevirtual 27, 3) := by decide +kernel
theorem dX10_bracketed_4 : decode cX10_bracketed 4 = .ok (.iconst 0, 1) := by decide +kernel
theorem dX10_bracketed_5 : decode cX10_bracketed 5 = .ok (.istore 4, 2) := by decide +kernel
theorem dX10_bracketed_7 : decode cX10_bracketed 7 = .ok (.iload 4, 2) := by decide +kernel
theorem dX10_bracketed_9 : decode cX10_bracketed 9 = .ok (.aload_n 1, 1) := by decide +kernel
theorem dX10_bracketed_10 : decode cX10_bracketed 10 = .ok (.getfield 15, 3) := by decide +kernel
theorem dX10_bracketed_13 : decode cX10_bracketed 13 = .ok (.if_icmp .ge 43, 3) := by decide +kernel
theorem dX10_bracketed_16 : decode cX10_bracketed 16 = .ok (.iload 4, 2) := by decide +kernel
theorem dX10_bracketed_18 : decode cX10_bracketed 18 = .ok (.iload_n 2, 1) := by decide +kernel
theorem dX10_bracketed_19 : decode cX10_bracketed 19 = .ok (.if_icmp .ne 9, 3) := by decide +kernel
theorem dX10_bracketed_22 : decode cX10_bracketed 22 = .ok (.aload_n 0, 1) := by decide +kernel
theorem dX10_bracketed_23 : decode cX10_bracketed 23 = .ok (.bipush 40, 2) := by decide +kernel
theorem dX10_bracketed_25 : decode cX10_bracketed 25 = .ok (.invokevirtual 34, 3) := by decide +kernel
theorem dX10_bracketed_28 : decode cX10_bracketed 28 = .ok (.aload_n 0, 1) := by decide +kernel
theorem dX10_bracketed_29 : decode cX10_bracketed 29 = .ok (.aload_n 1, 1) := by decide +kernel
theorem dX10_bracketed_30 : decode cX10_bracketed 30 = .ok (.iload 4, 2) := by decide +kernel
theorem dX10_bracketed_32 : decode cX10_bracketed 32 = .ok (.invokevirtual 30, 3) := by decide +kernel
theorem dX10_bracketed_35 : decode cX10_bracketed 35 = .ok (.invokevirtual 34, 3) := by decide +kernel
theorem dX10_bracketed_38 : decode cX10_bracketed 38 = .ok (.iload 4, 2) := by decide +kernel
theorem dX10_bracketed_40 : decode cX10_bracketed 40 = .ok (.iload_n 3, 1) := by decide +kernel
theorem dX10_bracketed_41 : decode cX10_bracketed 41 = .ok (.if_icmp .ne 9, 3) := by decide +kernel
theorem dX10_bracketed_44 : decode cX10_bracketed 44 = .ok (.aload_n 0, 1) := by decide +kernel
theorem dX10_bracketed_45 : decode cX10_bracketed 45 = .ok (.bipush 41, 2) := by decide +kernel
theorem dX10_bracketed_47 : decode cX10_bracketed 47 = .ok (.invokevirtual 34, 3) := by decide +kernel
theorem dX10_bracketed_50 : decode cX10_bracketed 50 = .ok (.iinc 4 1, 3) := by decide +kernel
theorem dX10_bracketed_53 : decode cX10_bracketed 53 = .ok (.goto (-46), 3) := by decide +kernel
theorem dX10_bracketed_56 : decode cX10_bracketed 56 = .ok (.return_, 1) := by decide +kernel
theorem dX10_letters_0 : decode cX10_letters 0 = .ok (.iconst 0, 1) := by decide +kernel
theorem dX10_letters_1 : decode cX10_letters 1 = .ok (.istore_n 1, 1) := by decide +kernel
theorem dX10_letters_2 : decode cX10_letters 2 = .ok (.iconst 0, 1) := by decide +kernel
theorem dX10_letters_3 : decode cX10_letters 3 = .ok (.istore_n 2, 1) := by decide +kernel
theorem dX10_letters_4 : decode cX10_letters 4 = .ok (.iload_n 2, 1) := by decide +kernel
theorem dX10_letters_5 : decode cX10_letters 5 = .ok (.aload_n 0, 1) := by decide +kernel
theorem dX10_letters_6 : decode cX10_letters 6 = .ok (.getfield 15, 3) := by decide +kernel
theorem dX10_letters_9 : decode cX10_letters 9 = .ok (.if_icmp .ge 23, 3) := by decide +kernel
theorem dX10_letters_12 : decode cX10_letters 12 = .ok (.aload_n 0, 1) := by decide +kernel
theorem dX10_letters_13 : decode cX10_letters 13 = .ok (.iload_n 2, 1) := by decide +kernel
theorem dX10_letters_14 : decode cX10_letters 14 = .ok (.invokevirtual 30, 3) := by decide +kernel
theorem dX10_letters_17 : decode cX10_letters 17 = .ok (.invokestatic 38, 3) := by decide +kernel
theorem dX10_letters_20 : decode cX10_letters 20 = .ok (.ifCond .ne 6, 3) := by decide +kernel
theorem dX10_letters_23 : decode cX10_letters 23 = .ok (.iinc 1 1, 3) := by decide +kernel
theorem dX10_letters_26 : decode cX10_letters 26 = .ok (.iinc 2 1, 3) := by decide +kernel
theorem dX10_letters_29 : decode cX10_letters 29 = .ok (.goto (-25), 3) := by decide +kernel
theorem dX10_letters_32 : decode cX10_letters 32 = .ok (.iload_n 1, 1) := by decide +kernel
theorem dX10_letters_33 : decode cX10_letters 33 = .ok (.ireturn, 1) := by decide +kernel
theorem dX10_mostOpen_0 : decode cX10_mostOpen 0 = .ok (.iconst 0, 1) := by decide +kernel
theorem dX10_mostOpen_1 : decode cX10_mostOpen 1 = .ok (.istore_n 1, 1) := by decide +kernel
theorem dX10_mostOpen_2 : decode cX10_mostOpen 2 = .ok (.iconst 0, 1) := by decide +kernel
theorem dX10_mostOpen_3 : decode cX10_mostOpen 3 = .ok (.istore_n 2, 1) := by decide +kernel
theorem dX10_mostOpen_4 : decode cX10_mostOpen 4 = .ok (.iconst 0, 1) := by decide +kernel
theorem dX10_mostOpen_5 : decode cX10_mostOpen 5 = .ok (.istore_n 3, 1) := by decide +kernel
theorem dX10_mostOpen_6 : decode cX10_mostOpen 6 = .ok (.iload_n 3, 1) := by decide +kernel
theorem dX10_mostOpen_7 : decode cX10_mostOpen 7 = .ok (.aload_n 0, 1) := by decide +kernel
theorem dX10_mostOpen_8 : decode cX10_mostOpen 8 = .ok (.getfield 15, 3) := by decide +kernel
theorem dX10_mostOpen_11 : decode cX10_mostOpen 11 = .ok (.if_icmp .ge 44, 3) := by decide +kernel
theorem dX10_mostOpen_14 : decode cX10_mostOpen 14 = .ok (.aload_n 0, 1) := by decide +kernel
theorem dX10_mostOpen_15 : decode cX10_mostOpen 15 = .ok (.iload_n 3, 1) := by decide +kernel
theorem dX10_mostOpen_16 : decode cX10_mostOpen 16 = .ok (.invokevirtual 30, 3) := by decide +kernel
theorem dX10_mostOpen_19 : decode cX10_mostOpen 19 = .ok (.bipush 40, 2) := by decide +kernel
theorem dX10_mostOpen_21 : decode cX10_mostOpen 21 = .ok (.if_icmp .ne 9, 3) := by decide +kernel
theorem dX10_mostOpen_24 : decode cX10_mostOpen 24 = .ok (.iinc 1 1, 3) := by decide +kernel
theorem dX10_mostOpen_27 : decode cX10_mostOpen 27 = .ok (.goto 16, 3) := by decide +kernel
theorem dX10_mostOpen_30 : decode cX10_mostOpen 30 = .ok (.aload_n 0, 1) := by decide +kernel
theorem dX10_mostOpen_31 : decode cX10_mostOpen 31 = .ok (.iload_n 3, 1) := by decide +kernel
theorem dX10_mostOpen_32 : decode cX10_mostOpen 32 = .ok (.invokevirtual 30, 3) := by decide +kernel
theorem dX10_mostOpen_35 : decode cX10_mostOpen 35 = .ok (.bipush 41, 2) := by decide +kernel
theorem dX10_mostOpen_37 : decode cX10_mostOpen 37 = .ok (.if_icmp .ne 6, 3) := by decide +kernel
theorem dX10_mostOpen_40 : decode cX10_mostOpen 40 = .ok (.iinc 1 (-1), 3) := by decide +kernel
theorem dX10_mostOpen_43 : decode cX10_mostOpen 43 = .ok (.iload_n 2, 1) := by decide +kernel
theorem dX10_mostOpen_44 : decode cX10_mostOpen 44 = .ok (.iload_n 1, 1) := by decide +kernel
theorem dX10_mostOpen_45 : decode cX10_mostOpen 45 = .ok (.invokestatic 41, 3) := by decide +kernel
theorem dX10_mostOpen_48 : decode cX10_mostOpen 48 = .ok (.istore_n 2, 1) := by decide +kernel
theorem dX10_mostOpen_49 : decode cX10_mostOpen 49 = .ok (.iinc 3 1, 3) := by decide +kernel
theorem dX10_mostOpen_52 : decode cX10_mostOpen 52 = .ok (.goto (-46), 3) := by decide +kernel
theorem dX10_mostOpen_55 : decode cX10_mostOpen 55 = .ok (.iload_n 2, 1) := by decide +kernel
theorem dX10_mostOpen_56 : decode cX10_mostOpen 56 = .ok (.ireturn, 1) := by decide +kernel
theorem dX10_closeAfter_0 : decode cX10_closeAfter 0 = .ok (.iconst 0, 1) := by decide +kernel
theorem dX10_closeAfter_1 : decode cX10_closeAfter 1 = .ok (.istore_n 2, 1) := by decide +kernel
theorem dX10_closeAfter_2 : decode cX10_closeAfter 2 = .ok (.iload_n 1, 1) := by decide +kernel
theorem dX10_closeAfter_3 : decode cX10_closeAfter 3 = .ok (.istore_n 3, 1) := by decide +kernel
theorem dX10_closeAfter_4 : decode cX10_closeAfter 4 = .ok (.iload_n 3, 1) := by decide +kernel
theorem dX10_closeAfter_5 : decode cX10_closeAfter 5 = .ok (.aload_n 0, 1) := by decide +kernel
theorem dX10_closeAfter_6 : decode cX10_closeAfter 6 = .ok (.getfield 15, 3) := by decide +kernel
theorem dX10_closeAfter_9 : decode cX10_closeAfter 9 = .ok (.if_icmp .ge 48, 3) := by decide +kernel
theorem dX10_closeAfter_12 : decode cX10_closeAfter 12 = .ok (.aload_n 0, 1) := by decide +kernel
theorem dX10_closeAfter_13 : decode cX10_closeAfter 13 = .ok (.getfield 9, 3) := by decide +kernel
theorem dX10_closeAfter_16 : decode cX10_closeAfter 16 = .ok (.iload_n 3, 1) := by decide +kernel
theorem dX10_closeAfter_17 : decode cX10_closeAfter 17 = .ok (.invokestatic 19, 3) := by decide +kernel
theorem dX10_closeAfter_20 : decode cX10_closeAfter 20 = .ok (.istore 4, 2) := by decide +kernel
theorem dX10_closeAfter_22 : decode cX10_closeAfter 22 = .ok (.iload 4, 2) := by decide +kernel
theorem dX10_closeAfter_24 : decode cX10_closeAfter 24 = .ok (.bipush 40, 2) := by decide +kernel
theorem dX10_closeAfter_26 : decode cX10_closeAfter 26 = .ok (.if_icmp .ne 9, 3) := by decide +kernel
theorem dX10_closeAfter_29 : decode cX10_closeAfter 29 = .ok (.iinc 2 1, 3) := by decide +kernel
theorem dX10_closeAfter_32 : decode cX10_closeAfter 32 = .ok (.goto 13, 3) := by decide +kernel
theorem dX10_closeAfter_35 : decode cX10_closeAfter 35 = .ok (.iload 4, 2) := by decide +kernel
theorem dX10_closeAfter_37 : decode cX10_closeAfter 37 = .ok (.bipush 41, 2) := by decide +kernel
theorem dX10_closeAfter_39 : decode cX10_closeAfter 39 = .ok (.if_icmp .ne 6, 3) := by decide +kernel
theorem dX10_closeAfter_42 : decode cX10_closeAfter 42 = .ok (.iinc 2 (-1), 3) := by decide +kernel
theorem dX10_closeAfter_45 : decode cX10_closeAfter 45 = .ok (.iload_n 2, 1) := by decide +kernel
theorem dX10_closeAfter_46 : decode cX10_closeAfter 46 = .ok (.ifCond .ge 5, 3) := by decide +kernel
theorem dX10_closeAfter_49 : decode cX10_closeAfter 49 = .ok (.iload_n 3, 1) := by decide +kernel
theorem dX10_closeAfter_50 : decode cX10_closeAfter 50 = .ok (.ireturn, 1) := by decide +kernel
theorem dX10_closeAfter_51 : decode cX10_closeAfter 51 = .ok (.iinc 3 1, 3) := by decide +kernel
theorem dX10_closeAfter_54 : decode cX10_closeAfter 54 = .ok (.goto (-50), 3) := by decide +kernel
theorem dX10_closeAfter_57 : decode cX10_closeAfter 57 = .ok (.aload_n 0, 1) := by decide +kernel
theorem dX10_closeAfter_58 : decode cX10_closeAfter 58 = .ok (.getfield 15, 3) := by decide +kernel
theorem dX10_closeAfter_61 : decode cX10_closeAfter 61 = .ok (.ireturn, 1) := by decide +kernel
theorem dX10_fault_0 : decode cX10_fault 0 = .ok (.iconst 1, 1) := by decide +kernel
theorem dX10_fault_1 : decode cX10_fault 1 = .ok (.istore_n 1, 1) := by decide +kernel
theorem dX10_fault_2 : decode cX10_fault 2 = .ok (.iconst 0, 1) := by decide +kernel
theorem dX10_fault_3 : decode cX10_fault 3 = .ok (.istore_n 2, 1) := by decide +kernel
theorem dX10_fault_4 : decode cX10_fault 4 = .ok (.iconst 0, 1) := by decide +kernel
theorem dX10_fault_5 : decode cX10_fault 5 = .ok (.istore_n 3, 1) := by decide +kernel
theorem dX10_fault_6 : decode cX10_fault 6 = .ok (.iload_n 3, 1) := by decide +kernel
theorem dX10_fault_7 : decode cX10_fault 7 = .ok (.aload_n 0, 1) := by decide +kernel
theorem dX10_fault_8 : decode cX10_fault 8 = .ok (.getfield 15, 3) := by decide +kernel
theorem dX10_fault_11 : decode cX10_fault 11 = .ok (.if_icmp .ge 109, 3) := by decide +kernel
theorem dX10_fault_14 : decode cX10_fault 14 = .ok (.aload_n 0, 1) := by decide +kernel
theorem dX10_fault_15 : decode cX10_fault 15 = .ok (.iload_n 3, 1) := by decide +kernel
theorem dX10_fault_16 : decode cX10_fault 16 = .ok (.invokevirtual 30, 3) := by decide +kernel
theorem dX10_fault_19 : decode cX10_fault 19 = .ok (.istore 4, 2) := by decide +kernel
theorem dX10_fault_21 : decode cX10_fault 21 = .ok (.iload_n 1, 1) := by decide +kernel
theorem dX10_fault_22 : decode cX10_fault 22 = .ok (.ifCond .eq 21, 3) := by decide +kernel
theorem dX10_fault_25 : decode cX10_fault 25 = .ok (.iload 4, 2) := by decide +kernel
theorem dX10_fault_27 : decode cX10_fault 27 = .ok (.bipush 40, 2) := by decide +kernel
theorem dX10_fault_29 : decode cX10_fault 29 = .ok (.if_icmp .ne 14, 3) := by decide +kernel
theorem dX10_fault_32 : decode cX10_fault 32 = .ok (.iload_n 2, 1) := by decide +kernel
theorem dX10_fault_33 : decode cX10_fault 33 = .ok (.iconst 4, 1) := by decide +kernel
theorem dX10_fault_34 : decode cX10_fault 34 = .ok (.if_icmp .ge 9, 3) := by decide +kernel
theorem dX10_fault_37 : decode cX10_fault 37 = .ok (.iinc 2 1, 3) := by decide +kernel
theorem dX10_fault_40 : decode cX10_fault 40 = .ok (.goto 74, 3) := by decide +kernel
theorem dX10_fault_43 : decode cX10_fault 43 = .ok (.iload_n 1, 1) := by decide +kernel
theorem dX10_fault_44 : decode cX10_fault 44 = .ok (.ifCond .eq 16, 3) := by decide +kernel
theorem dX10_fault_47 : decode cX10_fault 47 = .ok (.iload 4, 2) := by decide +kernel
theorem dX10_fault_49 : decode cX10_fault 49 = .ok (.invokestatic 38, 3) := by decide +kernel
theorem dX10_fault_52 : decode cX10_fault 52 = .ok (.ifCond .ne 8, 3) := by decide +kernel
theorem dX10_fault_55 : decode cX10_fault 55 = .ok (.iconst 0, 1) := by decide +kernel
theorem dX10_fault_56 : decode cX10_fault 56 = .ok (.istore_n 1, 1) := by decide +kernel
theorem dX10_fault_57 : decode cX10_fault 57 = .ok (.goto 57, 3) := by decide +kernel
theorem dX10_fault_60 : decode cX10_fault 60 = .ok (.iload_n 1, 1) := by decide +kernel
theorem dX10_fault_61 : decode cX10_fault 61 = .ok (.ifCond .ne 20, 3) := by decide +kernel
theorem dX10_fault_64 : decode cX10_fault 64 = .ok (.iload 4, 2) := by decide +kernel
theorem dX10_fault_66 : decode cX10_fault 66 = .ok (.bipush 41, 2) := by decide +kernel
theorem dX10_fault_68 : decode cX10_fault 68 = .ok (.if_icmp .ne 13, 3) := by decide +kernel
theorem dX10_fault_71 : decode cX10_fault 71 = .ok (.iload_n 2, 1) := by decide +kernel
theorem dX10_fault_72 : decode cX10_fault 72 = .ok (.ifCond .le 9, 3) := by decide +kernel
theorem dX10_fault_75 : decode cX10_fault 75 = .ok (.iinc 2 (-1), 3) := by decide +kernel
theorem dX10_fault_78 : decode cX10_fault 78 = .ok (.goto 36, 3) := by decide +kernel
theorem dX10_fault_81 : decode cX10_fault 81 = .ok (.iload_n 1, 1) := by decide +kernel
theorem dX10_fault_82 : decode cX10_fault 82 = .ok (.ifCond .ne 19, 3) := by decide +kernel
theorem dX10_fault_85 : decode cX10_fault 85 = .ok (.iload 4, 2) := by decide +kernel
theorem dX10_fault_87 : decode cX10_fault 87 = .ok (.invokestatic 38, 3) := by decide +kernel
theorem dX10_fault_90 : decode cX10_fault 90 = .ok (.invokestatic 47, 3) := by decide +kernel
theorem dX10_fault_93 : decode cX10_fault 93 = .ok (.ifCond .eq 8, 3) := by decide +kernel
theorem dX10_fault_96 : decode cX10_fault 96 = .ok (.iconst 1, 1) := by decide +kernel
theorem dX10_fault_97 : decode cX10_fault 97 = .ok (.istore_n 1, 1) := by decide +kernel
theorem dX10_fault_98 : decode cX10_fault 98 = .ok (.goto 16, 3) := by decide +kernel
theorem dX10_fault_101 : decode cX10_fault 101 = .ok (.iload_n 1, 1) := by decide +kernel
theorem dX10_fault_102 : decode cX10_fault 102 = .ok (.ifCond .eq 10, 3) := by decide +kernel
theorem dX10_fault_105 : decode cX10_fault 105 = .ok (.iload 4, 2) := by decide +kernel
theorem dX10_fault_107 : decode cX10_fault 107 = .ok (.bipush 33, 2) := by decide +kernel
theorem dX10_fault_109 : decode cX10_fault 109 = .ok (.if_icmp .eq 5, 3) := by decide +kernel
theorem dX10_fault_112 : decode cX10_fault 112 = .ok (.iload_n 3, 1) := by decide +kernel
theorem dX10_fault_113 : decode cX10_fault 113 = .ok (.ireturn, 1) := by decide +kernel
theorem dX10_fault_114 : decode cX10_fault 114 = .ok (.iinc 3 1, 3) := by decide +kernel
theorem dX10_fault_117 : decode cX10_fault 117 = .ok (.goto (-111), 3) := by decide +kernel
theorem dX10_fault_120 : decode cX10_fault 120 = .ok (.iload_n 1, 1) := by decide +kernel
theorem dX10_fault_121 : decode cX10_fault 121 = .ok (.ifCond .ne 7, 3) := by decide +kernel
theorem dX10_fault_124 : decode cX10_fault 124 = .ok (.iload_n 2, 1) := by decide +kernel
theorem dX10_fault_125 : decode cX10_fault 125 = .ok (.ifCond .le 10, 3) := by decide +kernel
theorem dX10_fault_128 : decode cX10_fault 128 = .ok (.aload_n 0, 1) := by decide +kernel
theorem dX10_fault_129 : decode cX10_fault 129 = .ok (.getfield 15, 3) := by decide +kernel
theorem dX10_fault_132 : decode cX10_fault 132 = .ok (.goto 4, 3) := by decide +kernel
theorem dX10_fault_135 : decode cX10_fault 135 = .ok (.iconst (-1), 1) := by decide +kernel
theorem dX10_fault_136 : decode cX10_fault 136 = .ok (.ireturn, 1) := by decide +kernel
theorem dX11_init_0 : decode cX11_init 0 = .ok (.aload_n 0, 1) := by decide +kernel
theorem dX11_init_1 : decode cX11_init 1 = .ok (.invokespecial 1, 3) := by decide +kernel
theorem dX11_init_4 : decode cX11_init 4 = .ok (.aload_n 0, 1) := by decide +kernel
theorem dX11_init_5 : decode cX11_init 5 = .ok (.new 7, 3) := by decide +kernel
theorem dX11_init_8 : decode cX11_init 8 = .ok (.dup, 1) := by decide +kernel
theorem dX11_init_9 : decode cX11_init 9 = .ok (.invokespecial 9, 3) := by decide +kernel
theorem dX11_init_12 : decode cX11_init 12 = .ok (.putfield 10, 3) := by decide +kernel
theorem dX11_init_15 : decode cX11_init 15 = .ok (.aload_n 0, 1) := by decide +kernel
theorem dX11_init_16 : decode cX11_init 16 = .ok (.new 7, 3) := by decide +kernel
theorem dX11_init_19 : decode cX11_init 19 = .ok (.dup, 1) := by decide +kernel
theorem dX11_init_20 : decode cX11_init 20 = .ok (.invokespecial 9, 3) := by decide +kernel
theorem dX11_init_23 : decode cX11_init 23 = .ok (.putfield 16, 3) := by decide +kernel
theorem dX11_init_26 : decode cX11_init 26 = .ok (.aload_n 0, 1) := by decide +kernel
theorem dX11_init_27 : decode cX11_init 27 = .ok (.new 7, 3) := by decide +kernel
theorem dX11_init_30 : decode cX11_init 30 = .ok (.dup, 1) := by decide +kernel
theorem dX11_init_31 : decode cX11_init 31 = .ok (.invokespecial 9, 3) := by decide +kernel
theorem dX11_init_34 : decode cX11_init 34 = .ok (.putfield 19, 3) := by decide +kernel
theorem dX11_init_37 : decode cX11_init 37 = .ok (.aload_n 0, 1) := by decide +kernel
theorem dX11_init_38 : decode cX11_init 38 = .ok (.new 22, 3) := by decide +kernel
theorem dX11_init_41 : decode cX11_init 41 = .ok (.dup, 1) := by decide +kernel
theorem dX11_init_42 : decode cX11_init 42 = .ok (.invokespecial 24, 3) := by decide +kernel
theorem dX11_init_45 : decode cX11_init 45 = .ok (.putfield 25, 3) := by decide +kernel
theorem dX11_init_48 : decode cX11_init 48 = .ok (.aload_n 0, 1) := by decide +kernel
theorem dX11_init_49 : decode cX11_init 49 = .ok (.new 29, 3) := by decide +kernel
theorem dX11_init_52 : decode cX11_init 52 = .ok (.dup, 1) := by decide +kernel
theorem dX11_init_53 : decode cX11_init 53 = .ok (.invokespecial 31, 3) := by decide +kernel
theorem dX11_init_56 : decode cX11_init 56 = .ok (.putfield 32, 3) := by decide +kernel
theorem dX11_init_59 : decode cX11_init 59 = .ok (.aload_n 0, 1) := by decide +kernel
theorem dX11_init_60 : decode cX11_init 60 = .ok (.new 36, 3) := by decide +kernel
theorem dX11_init_63 : decode cX11_init 63 = .ok (.dup, 1) := by decide +kernel
theorem dX11_init_64 : decode cX11_init 64 = .ok (.invokespecial 38, 3) := by decide +kernel
theorem dX11_init_67 : decode cX11_init 67 = .ok (.putfield 39, 3) := by decide +kernel
theorem dX11_init_70 : decode cX11_init 70 = .ok (.aload_n 0, 1) := by decide +kernel
theorem dX11_init_71 : decode cX11_init 71 = .ok (.new 43, 3) := by decide +kernel
theorem dX11_init_74 : decode cX11_init 74 = .ok (.dup, 1) := by decide +kernel
theorem dX11_init_75 : decode cX11_init 75 = .ok (.invokespecial 45, 3) := by decide +kernel
theorem dX11_init_78 : decode cX11_init 78 = .ok (.putfield 46, 3) := by decide +kernel
theorem dX11_init_81 : decode cX11_init 81 = .ok (.aload_n 0, 1) := by decide +kernel
theorem dX11_init_82 : decode cX11_init 82 = .ok (.new 50, 3) := by decide +kernel
theorem dX11_init_85 : decode cX11_init 85 = .ok (.dup, 1) := by decide +kernel
theorem dX11_init_86 : decode cX11_init 86 = .ok (.invokespecial 52, 3) := by decide +kernel
theorem dX11_init_89 : decode cX11_init 89 = .ok (.putfield 53, 3) := by decide +kernel
theorem dX11_init_92 : decode cX11_init 92 = .ok (.aload_n 0, 1) := by decide +kernel
theorem dX11_init_93 : decode cX11_init 93 = .ok (.new 57, 3) := by decide +kernel
theorem dX11_init_96 : decode cX11_init 96 = .ok (.dup, 1) := by decide +kernel
theorem dX11_init_97 : decode cX11_init 97 = .ok (.invokespecial 59, 3) := by decide +kernel
theorem dX11_init_100 : decode cX11_init 100 = .ok (.putfield 60, 3) := by decide +kernel
theorem dX11_init_103 : decode cX11_init 103 = .ok (.aload_n 0, 1) := by decide +kernel
theorem dX11_init_104 : decode cX11_init 104 = .ok (.new 57, 3) := by decide +kernel
theorem dX11_init_107 : decode cX11_init 107 = .ok (.dup, 1) := by decide +kernel
theorem dX11_init_108 : decode cX11_init 108 = .ok (.invokespecial 59, 3) := by decide +kernel
theorem dX11_init_111 : decode cX11_init 111 = .ok (.putfield 64, 3) := by decide +kernel
theorem dX11_init_114 : decode cX11_init 114 = .ok (.aload_n 0, 1) := by decide +kernel
theorem dX11_init_115 : decode cX11_init 115 = .ok (.new 67, 3) := by decide +kernel
theorem dX11_init_118 : decode cX11_init 118 = .ok (.dup, 1) := by decide +kernel
theorem dX11_init_119 : decode cX11_init 119 = .ok (.invokespecial 69, 3) := by decide +kernel
theorem dX11_init_122 : decode cX11_init 122 = .ok (.putfield 70, 3) := by decide +kernel
theorem dX11_init_125 : decode cX11_init 125 = .ok (.aload_n 0, 1) := by decide +kernel
theorem dX11_init_126 : decode cX11_init 126 = .ok (.new 74, 3) := by decide +kernel
theorem dX11_init_129 : decode cX11_init 129 = .ok (.dup, 1) := by decide +kernel
theorem dX11_init_130 : decode cX11_init 130 = .ok (.invokespecial 76, 3) := by decide +kernel
theorem dX11_init_133 : decode cX11_init 133 = .ok (.putfield 77, 3) := by decide +kernel
theorem dX11_init_136 : decode cX11_init 136 = .ok (.aload_n 0, 1) := by decide +kernel
theorem dX11_init_137 : decode cX11_init 137 = .ok (.new 81, 3) := by decide +kernel
theorem dX11_init_140 : decode cX11_init 140 = .ok (.dup, 1) := by decide +kernel
theorem dX11_init_141 : decode cX11_init 141 = .ok (.invokespecial 83, 3) := by decide +kernel
theorem dX11_init_144 : decode cX11_init 144 = .ok (.putfield 84, 3) := by decide +kernel
theorem dX11_init_147 : decode cX11_init 147 = .ok (.aload_n 0, 1) := by decide +kernel
theorem dX11_init_148 : decode cX11_init 148 = .ok (.bipush 7, 2) := by decide +kernel
theorem dX11_init_150 : decode cX11_init 150 = .ok (.newarray .int, 2) := by decide +kernel
theorem dX11_init_152 : decode cX11_init 152 = .ok (.putfield 88, 3) := by decide +kernel
theorem dX11_init_155 : decode cX11_init 155 = .ok (.aload_n 0, 1) := by decide +kernel
theorem dX11_init_156 : decode cX11_init 156 = .ok (.getfield 16, 3) := by decide +kernel
theorem dX11_init_159 : decode cX11_init 159 = .ok (.bipush 97, 2) := by decide +kernel
theorem dX11_init_161 : decode cX11_init 161 = .ok (.invokevirtual 92, 3) := by decide +kernel
theorem dX11_init_164 : decode cX11_init 164 = .ok (.aload_n 0, 1) := by decide +kernel
theorem dX11_init_165 : decode cX11_init 165 = .ok (.getfield 25, 3) := by decide +kernel
theorem dX11_init_168 : decode cX11_init 168 = .ok (.aload_n 0, 1) := by decide +kernel
theorem dX11_init_169 : decode cX11_init 169 = .ok (.getfield 16, 3) := by decide +kernel
theorem dX11_init_172 : decode cX11_init 172 = .ok (.invokevirtual 96, 3) := by decide +kernel
theorem dX11_init_175 : decode cX11_init 175 = .ok (.return_, 1) := by decide +kernel
theorem dX11_feed_0 : decode cX11_feed 0 = .ok (.iload_n 1, 1) := by decide +kernel
theorem dX11_feed_1 : decode cX11_feed 1 = .ok (.iconst 1, 1) := by decide +kernel
theorem dX11_feed_2 : decode cX11_feed 2 = .ok (.if_icmp .ge 10, 3) := by decide +kernel
theorem dX11_feed_5 : decode cX11_feed 5 = .ok (.aload_n 0, 1) := by decide +kernel
theorem dX11_feed_6 : decode cX11_feed 6 = .ok (.bipush (-4), 2) := by decide +kernel
theorem dX11_feed_8 : decode cX11_feed 8 = .ok (.invokevirtual 100, 3) := by decide +kernel
theorem dX11_feed_11 : decode cX11_feed 11 = .ok (.ireturn, 1) := by decide +kernel
theorem dX11_feed_12 : decode cX11_feed 12 = .ok (.iload_n 1, 1) := by decide +kernel
theorem dX11_feed_13 : decode cX11_feed 13 = .ok (.bipush 8, 2) := by decide +kernel
theorem dX11_feed_15 : decode cX11_feed 15 = .ok (.if_icmp .gt 17, 3) := by decide +kernel
theorem dX11_feed_18 : decode cX11_feed 18 = .ok (.aload_n 0, 1) := by decide +kernel
theorem dX11_feed_19 : decode cX11_feed 19 = .ok (.getfield 10, 3) := by decide +kernel
theorem dX11_feed_22 : decode cX11_feed 22 = .ok (.invokevirtual 104, 3) := by decide +kernel
theorem dX11_feed_25 : decode cX11_feed 25 = .ok (.iload_n 1, 1) := by decide +kernel
theorem dX11_feed_26 : decode cX11_feed 26 = .ok (.iadd, 1) := by decide +kernel
theorem dX11_feed_27 : decode cX11_feed 27 = .ok (.bipush 21, 2) := by decide +kernel
theorem dX11_feed_29 : decode cX11_feed 29 = .ok (.if_icmp .le 10, 3) := by decide +kernel
theorem dX11_feed_32 : decode cX11_feed 32 = .ok (.aload_n 0, 1) := by decide +kernel
theorem dX11_feed_33 : decode cX11_feed 33 = .ok (.bipush (-6), 2) := by decide +kernel
theorem dX11_feed_35 : decode cX11_feed 35 = .ok (.invokevirtual 100, 3) := by decide +kernel
theorem dX11_feed_38 : decode cX11_feed 38 = .ok (.ireturn, 1) := by decide +kernel
theorem dX11_feed_39 : decode cX11_feed 39 = .ok (.iconst 0, 1) := by decide +kernel
theorem dX11_feed_40 : decode cX11_feed 40 = .ok (.istore 4, 2) := by decide +kernel
theorem dX11_feed_42 : decode cX11_feed 42 = .ok (.iload 4, 2) := by decide +kernel
theorem dX11_feed_44 : decode cX11_feed 44 = .ok (.iload_n 1, 1) := by decide +kernel
theorem dX11_feed_45 : decode cX11_feed 45 = .ok (.if_icmp .ge 28, 3) := by decide +kernel
theorem dX11_feed_48 : decode cX11_feed 48 = .ok (.aload_n 0, 1) := by decide +kernel
theorem dX11_feed_49 : decode cX11_feed 49 = .ok (.getfield 10, 3) := by decide +kernel
theorem dX11_feed_52 : decode cX11_feed 52 = .ok (.lload_n 2, 1) := by decide +kernel
theorem dX11_feed_53 : decode cX11_feed 53 = .ok (.bipush 8, 2) := by decide +kernel
theorem dX11_feed_55 : decode cX11_feed 55 = .ok (.iload 4, 2) := by decide +kernel
theorem dX11_feed_57 : decode cX11_feed 57 = .ok (.imul, 1) := by decide +kernel
theorem dX11_feed_58 : decode cX11_feed 58 = .ok (.lushr, 1) := by decide +kernel
theorem dX11_feed_59 : decode cX11_feed 59 = .ok (.ldc2_w 108, 3) := by decide +kernel
theorem dX11_feed_62 : decode cX11_feed 62 = .ok (.land, 1) := by decide +kernel
theorem dX11_feed_63 : decode cX11_feed 63 = .ok (.l2i, 1) := by decide +kernel
theorem dX11_feed_64 : decode cX11_feed 64 = .ok (.invokevirtual 92, 3) := by decide +kernel
theorem dX11_feed_67 : decode cX11_feed 67 = .ok (.iinc 4 1, 3) := by decide +kernel
theorem dX11_feed_70 : decode cX11_feed 70 = .ok (.goto (-28), 3) := by decide +kernel
theorem dX11_feed_73 : decode cX11_feed 73 = .ok (.aload_n 0, 1) := by decide +kernel
theorem dX11_feed_74 : decode cX11_feed 74 = .ok (.getfield 10, 3) := by decide +kernel
theorem dX11_feed_77 : decode cX11_feed 77 = .ok (.invokevirtual 104, 3) := by decide +kernel
theorem dX11_feed_80 : decode cX11_feed 80 = .ok (.ireturn, 1) := by decide +kernel
theorem dX11_read_0 : decode cX11_read 0 = .ok (.aload_n 0, 1) := by decide +kernel
theorem dX11_read_1 : decode cX11_read 1 = .ok (.getfield 10, 3) := by decide +kernel
theorem dX11_read_4 : decode cX11_read 4 = .ok (.invokevirtual 110, 3) := by decide +kernel
theorem dX11_read_7 : decode cX11_read 7 = .ok (.istore_n 1, 1) := by decide +kernel
theorem dX11_read_8 : decode cX11_read 8 = .ok (.iload_n 1, 1) := by decide +kernel
theorem dX11_read_9 : decode cX11_read 9 = .ok (.iconst (-1), 1) := by decide +kernel
theorem dX11_read_10 : decode cX11_read 10 = .ok (.if_icmp .ne 11, 3) := by decide +kernel
theorem dX11_read_13 : decode cX11_read 13 = .ok (.aload_n 0, 1) := by decide +kernel
theorem dX11_read_14 : decode cX11_read 14 = .ok (.aload_n 0, 1) := by decide +kernel
theorem dX11_read_15 : decode cX11_read 15 = .ok (.getfield 10, 3) := by decide +kernel
theorem dX11_read_18 : decode cX11_read 18 = .ok (.invokevirtual 113, 3) := by decide +kernel
theorem dX11_read_21 : decode cX11_read 21 = .ok (.aload_n 0, 1) := by decide +kernel
theorem dX11_read_22 : decode cX11_read 22 = .ok (.getfield 10, 3) := by decide +kernel
theorem dX11_read_25 : decode cX11_read 25 = .ok (.invokevirtual 116, 3) := by decide +kernel
theorem dX11_read_28 : decode cX11_read 28 = .ok (.iload_n 1, 1) := by decide +kernel
theorem dX11_read_29 : decode cX11_read 29 = .ok (.iconst (-1), 1) := by decide +kernel
theorem dX11_read_30 : decode cX11_read 30 = .ok (.if_icmp .ne 13, 3) := by decide +kernel
theorem dX11_read_33 : decode cX11_read 33 = .ok (.aload_n 0, 1) := by decide +kernel
theorem dX11_read_34 : decode cX11_read 34 = .ok (.getfield 16, 3) := by decide +kernel
theorem dX11_read_37 : decode cX11_read 37 = .ok (.invokevirtual 104, 3) := by decide +kernel
theorem dX11_read_40 : decode cX11_read 40 = .ok (.goto 7, 3) := by decide +kernel
theorem dX11_read_43 : decode cX11_read 43 = .ok (.bipush (-20), 2) := by decide +kernel
theorem dX11_read_45 : decode cX11_read 45 = .ok (.iload_n 1, 1) := by decide +kernel
theorem dX11_read_46 : decode cX11_read 46 = .ok (.isub, 1) := by decide +kernel
theorem dX11_read_47 : decode cX11_read 47 = .ok (.ireturn, 1) := by decide +kernel
theorem dX11_wordAt_0 : decode cX11_wordAt 0 = .ok (.iload_n 1, 1) := by decide +kernel
theorem dX11_wordAt_1 : decode cX11_wordAt 1 = .ok (.ifCond .lt 25, 3) := by decide +kernel
theorem dX11_wordAt_4 : decode cX11_wordAt 4 = .ok (.iload_n 1, 1) := by decide +kernel
theorem dX11_wordAt_5 : decode cX11_wordAt 5 = .ok (.aload_n 0, 1) := by decide +kernel
theorem dX11_wordAt_6 : decode cX11_wordAt 6 = .ok (.getfield 16, 3) := by decide +kernel
theorem dX11_wordAt_9 : decode cX11_wordAt 9 = .ok (.invokevirtual 104, 3) := by decide +kernel
theorem dX11_wordAt_12 : decode cX11_wordAt 12 = .ok (.if_icmp .ge 14, 3) := by decide +kernel
theorem dX11_wordAt_15 : decode cX11_wordAt 15 = .ok (.aload_n 0, 1) := by decide +kernel
theorem dX11_wordAt_16 : decode cX11_wordAt 16 = .ok (.getfield 16, 3) := by decide +kernel
theorem dX11_wordAt_19 : decode cX11_wordAt 19 = .ok (.iload_n 1, 1) := by decide +kernel
theorem dX11_wordAt_20 : decode cX11_wordAt 20 = .ok (.invokevirtual 119, 3) := by decide +kernel
theorem dX11_wordAt_23 : decode cX11_wordAt 23 = .ok (.goto 5, 3) := by decide +kernel
theorem dX11_wordAt_26 : decode cX11_wordAt 26 = .ok (.bipush (-9), 2) := by decide +kernel
theorem dX11_wordAt_28 : decode cX11_wordAt 28 = .ok (.ireturn, 1) := by decide +kernel
theorem dX11_readings_0 : decode cX11_readings 0 = .ok (.aload_n 0, 1) := by decide +kernel
theorem dX11_readings_1 : decode cX11_readings 1 = .ok (.getfield 25, 3) := by decide +kernel
theorem dX11_readings_4 : decode cX11_readings 4 = .ok (.iconst 0, 1) := by decide +kernel
theorem dX11_readings_5 : decode cX11_readings 5 = .ok (.aload_n 0, 1) := by decide +kernel
theorem dX11_readings_6 : decode cX11_readings 6 = .ok (.getfield 16, 3) := by decide +kernel
theorem dX11_readings_9 : decode cX11_readings 9 = .ok (.invokevirtual 104, 3) := by decide +kernel
theorem dX11_readings_12 : decode cX11_readings 12 = .ok (.invokevirtual 122, 3) := by decide +kernel
theorem dX11_readings_15 : decode cX11_readings 15 = .ok (.lreturn, 1) := by decide +kernel
theorem dX11_nodes_0 : decode cX11_nodes 0 = .ok (.aload_n 0, 1) := by decide +kernel
theorem dX11_nodes_1 : decode cX11_nodes 1 = .ok (.invokevirtual 126, 3) := by decide +kernel
theorem dX11_nodes_4 : decode cX11_nodes 4 = .ok (.ifCond .eq 10, 3) := by decide +kernel
theorem dX11_nodes_7 : decode cX11_nodes 7 = .ok (.aload_n 0, 1) := by decide +kernel
theorem dX11_nodes_8 : decode cX11_nodes 8 = .ok (.bipush (-5), 2) := by decide +kernel
theorem dX11_nodes_10 : decode cX11_nodes 10 = .ok (.invokevirtual 100, 3) := by decide +kernel
theorem dX11_nodes_13 : decode cX11_nodes 13 = .ok (.ireturn, 1) := by decide +kernel
theorem dX11_nodes_14 : decode cX11_nodes 14 = .ok (.aload_n 0, 1) := by decide +kernel
theorem dX11_nodes_15 : decode cX11_nodes 15 = .ok (.iload_n 1, 1) := by decide +kernel
theorem dX11_nodes_16 : decode cX11_nodes 16 = .ok (.invokevirtual 130, 3) := by decide +kernel
theorem dX11_nodes_19 : decode cX11_nodes 19 = .ok (.ifCond .eq 9, 3) := by decide +kernel
theorem dX11_nodes_22 : decode cX11_nodes 22 = .ok (.aload_n 0, 1) := by decide +kernel
theorem dX11_nodes_23 : decode cX11_nodes 23 = .ok (.iconst (-1), 1) := by decide +kernel
theorem dX11_nodes_24 : decode cX11_nodes 24 = .ok (.invokevirtual 100, 3) := by decide +kernel
theorem dX11_nodes_27 : decode cX11_nodes 27 = .ok (.ireturn, 1) := by decide +kernel
theorem dX11_nodes_28 : decode cX11_nodes 28 = .ok (.aload_n 0, 1) := by decide +kernel
theorem dX11_nodes_29 : decode cX11_nodes 29 = .ok (.getfield 32, 3) := by decide +kernel
theorem dX11_nodes_32 : decode cX11_nodes 32 = .ok (.aload_n 0, 1) := by decide +kernel
theorem dX11_nodes_33 : decode cX11_nodes 33 = .ok (.getfield 16, 3) := by decide +kernel
theorem dX11_nodes_36 : decode cX11_nodes 36 = .ok (.aload_n 0, 1) := by decide +kernel
theorem dX11_nodes_37 : decode cX11_nodes 37 = .ok (.getfield 25, 3) := by decide +kernel
theorem dX11_nodes_40 : decode cX11_nodes 40 = .ok (.iload_n 1, 1) := by decide +kernel
theorem dX11_nodes_41 : decode cX11_nodes 41 = .ok (.i2l, 1) := by decide +kernel
theorem dX11_nodes_42 : decode cX11_nodes 42 = .ok (.invokevirtual 134, 3) := by decide +kernel
theorem dX11_nodes_45 : decode cX11_nodes 45 = .ok (.aload_n 0, 1) := by decide +kernel
theorem dX11_nodes_46 : decode cX11_nodes 46 = .ok (.getfield 32, 3) := by decide +kernel
theorem dX11_nodes_49 : decode cX11_nodes 49 = .ok (.invokevirtual 138, 3) := by decide +kernel
theorem dX11_nodes_52 : decode cX11_nodes 52 = .ok (.ireturn, 1) := by decide +kernel
theorem dX11_node_0 : decode cX11_node 0 = .ok (.aload_n 0, 1) := by decide +kernel
theorem dX11_node_1 : decode cX11_node 1 = .ok (.invokevirtual 126, 3) := by decide +kernel
theorem dX11_node_4 : decode cX11_node 4 = .ok (.ifCond .eq 10, 3) := by decide +kernel
theorem dX11_node_7 : decode cX11_node 7 = .ok (.aload_n 0, 1) := by decide +kernel
theorem dX11_node_8 : decode cX11_node 8 = .ok (.bipush (-5), 2) := by decide +kernel
theorem dX11_node_10 : decode cX11_node 10 = .ok (.invokevirtual 100, 3) := by decide +kernel
theorem dX11_node_13 : decode cX11_node 13 = .ok (.ireturn, 1) := by decide +kernel
theorem dX11_node_14 : decode cX11_node 14 = .ok (.aload_n 0, 1) := by decide +kernel
theorem dX11_node_15 : decode cX11_node 15 = .ok (.iload_n 1, 1) := by decide +kernel
theorem dX11_node_16 : decode cX11_node 16 = .ok (.invokevirtual 130, 3) := by decide +kernel
theorem dX11_node_19 : decode cX11_node 19 = .ok (.ifCond .eq 9, 3) := by decide +kernel
theorem dX11_node_22 : decode cX11_node 22 = .ok (.aload_n 0, 1) := by decide +kernel
theorem dX11_node_23 : decode cX11_node 23 = .ok (.iconst (-1), 1) := by decide +kernel
theorem dX11_node_24 : decode cX11_node 24 = .ok (.invokevirtual 100, 3) := by decide +kernel
theorem dX11_node_27 : decode cX11_node 27 = .ok (.ireturn, 1) := by decide +kernel
theorem dX11_node_28 : decode cX11_node 28 = .ok (.aload_n 0, 1) := by decide +kernel
theorem dX11_node_29 : decode cX11_node 29 = .ok (.getfield 32, 3) := by decide +kernel
theorem dX11_node_32 : decode cX11_node 32 = .ok (.aload_n 0, 1) := by decide +kernel
theorem dX11_node_33 : decode cX11_node 33 = .ok (.getfield 16, 3) := by decide +kernel
theorem dX11_node_36 : decode cX11_node 36 = .ok (.aload_n 0, 1) := by decide +kernel
theorem dX11_node_37 : decode cX11_node 37 = .ok (.getfield 25, 3) := by decide +kernel
theorem dX11_node_40 : decode cX11_node 40 = .ok (.iload_n 1, 1) := by decide +kernel
theorem dX11_node_41 : decode cX11_node 41 = .ok (.i2l, 1) := by decide +kernel
theorem dX11_node_42 : decode cX11_node 42 = .ok (.invokevirtual 134, 3) := by decide +kernel
theorem dX11_node_45 : decode cX11_node 45 = .ok (.iload_n 2, 1) := by decide +kernel
theorem dX11_node_46 : decode cX11_node 46 = .ok (.ifCond .lt 14, 3) := by decide +kernel
theorem dX11_node_49 : decode cX11_node 49 = .ok (.iload_n 2, 1) := by decide +kernel
theorem dX11_node_50 : decode cX11_node 50 = .ok (.aload_n 0, 1) := by decide +kernel
theorem dX11_node_51 : decode cX11_node 51 = .ok (.getfield 32, 3) := by decide +kernel
theorem dX11_node_54 : decode cX11_node 54 = .ok (.invokevirtual 138, 3) := by decide +kernel
theorem dX11_node_57 : decode cX11_node 57 = .ok (.if_icmp .lt 9, 3) := by decide +kernel
theorem dX11_node_60 : decode cX11_node 60 = .ok (.aload_n 0, 1) := by decide +kernel
theorem dX11_node_61 : decode cX11_node 61 = .ok (.iconst (-1), 1) := by decide +kernel
theorem dX11_node_62 : decode cX11_node 62 = .ok (.invokevirtual 100, 3) := by decide +kernel
theorem dX11_node_65 : decode cX11_node 65 = .ok (.ireturn, 1) := by decide +kernel
theorem dX11_node_66 : decode cX11_node 66 = .ok (.iload_n 3, 1) := by decide +kernel
theorem dX11_node_67 : decode cX11_node 67 = .ok (.tableswitch 61 0 2 #[25, 34, 43], 25) := by decide +kernel
theorem dX11_node_92 : decode cX11_node 92 = .ok (.aload_n 0, 1) := by decide +kernel
theorem dX11_node_93 : decode cX11_node 93 = .ok (.getfield 32, 3) := by decide +kernel
theorem dX11_node_96 : decode cX11_node 96 = .ok (.iload_n 2, 1) := by decide +kernel
theorem dX11_node_97 : decode cX11_node 97 = .ok (.invokevirtual 139, 3) := by decide +kernel
theorem dX11_node_100 : decode cX11_node 100 = .ok (.ireturn, 1) := by decide +kernel
theorem dX11_node_101 : decode cX11_node 101 = .ok (.aload_n 0, 1) := by decide +kernel
theorem dX11_node_102 : decode cX11_node 102 = .ok (.getfield 32, 3) := by decide +kernel
theorem dX11_node_105 : decode cX11_node 105 = .ok (.iload_n 2, 1) := by decide +kernel
theorem dX11_node_106 : decode cX11_node 106 = .ok (.invokevirtual 142, 3) := by decide +kernel
theorem dX11_node_109 : decode cX11_node 109 = .ok (.ireturn, 1) := by decide +kernel
theorem dX11_node_110 : decode cX11_node 110 = .ok (.aload_n 0, 1) := by decide +kernel
theorem dX11_node_111 : decode cX11_node 111 = .ok (.getfield 32, 3) := by decide +kernel
theorem dX11_node_114 : decode cX11_node 114 = .ok (.iload_n 2, 1) := by decide +kernel
theorem dX11_node_115 : decode cX11_node 115 = .ok (.invokevirtual 145, 3) := by decide +kernel
theorem dX11_node_118 : decode cX11_node 118 = .ok (.aload_n 0, 1) := by decide +kernel
theorem dX11_node_119 : decode cX11_node 119 = .ok (.getfield 32, 3) := by decide +kernel
theorem dX11_node_122 : decode cX11_node 122 = .ok (.iload_n 2, 1) := by decide +kernel
theorem dX11_node_123 : decode cX11_node 123 = .ok (.invokevirtual 142, 3) := by decide +kernel
theorem dX11_node_126 : decode cX11_node 126 = .ok (.isub, 1) := by decide +kernel
theorem dX11_node_127 : decode cX11_node 127 = .ok (.ireturn, 1) := by decide +kernel
theorem dX11_node_128 : decode cX11_node 128 = .ok (.aload_n 0, 1) := by decide +kernel
theorem dX11_node_129 : decode cX11_node 129 = .ok (.bipush (-2), 2) := by decide +kernel
theorem dX11_node_131 : decode cX11_node 131 = .ok (.invokevirtual 100, 3) := by decide +kernel
theorem dX11_node_134 : decode cX11_node 134 = .ok (.ireturn, 1) := by decide +kernel
theorem dX11_means_0 : decode cX11_means 0 = .ok (.aload_n 0, 1) := by decide +kernel
theorem dX11_means_1 : decode cX11_means 1 = .ok (.invokevirtual 126, 3) := by decide +kernel
theorem dX11_means_4 : decode cX11_means 4 = .ok (.ifCond .eq 11, 3) := by decide +kernel
theorem dX11_means_7 : decode cX11_means 7 = .ok (.aload_n 0, 1) := by decide +kernel
theorem dX11_means_8 : decode cX11_means 8 = .ok (.bipush (-5), 2) := by decide +kernel
theorem dX11_means_10 : decode cX11_means 10 = .ok (.invokevirtual 100, 3) := by decide +kernel
theorem dX11_means_13 : decode cX11_means 13 = .ok (.i2l, 1) := by decide +kernel
theorem dX11_means_14 : decode cX11_means 14 = .ok (.lreturn, 1) := by decide +kernel
theorem dX11_means_15 : decode cX11_means 15 = .ok (.aload_n 0, 1) := by decide +kernel
theorem dX11_means_16 : decode cX11_means 16 = .ok (.iload_n 1, 1) := by decide +kernel
theorem dX11_means_17 : decode cX11_means 17 = .ok (.invokevirtual 130, 3) := by decide +kernel
theorem dX11_means_20 : decode cX11_means 20 = .ok (.ifCond .eq 12, 3) := by decide +kernel
theorem dX11_means_23 : decode cX11_means 23 = .ok (.aload_n 0, 1) := by decide +kernel
theorem dX11_means_24 : decode cX11_means 24 = .ok (.iconst (-1), 1) := by decide +kernel
theorem dX11_means_25 : decode cX11_means 25 = .ok (.invokevirtual 100, 3) := by decide +kernel
theorem dX11_means_28 : decode cX11_means 28 = .ok (.i2l, 1) := by decide +kernel
theorem dX11_means_29 : decode cX11_means 29 = .ok (.goto 11, 3) := by decide +kernel
theorem dX11_means_32 : decode cX11_means 32 = .ok (.aload_n 0, 1) := by decide +kernel
theorem dX11_means_33 : decode cX11_means 33 = .ok (.getfield 39, 3) := by decide +kernel
theorem dX11_means_36 : decode cX11_means 36 = .ok (.iload_n 1, 1) := by decide +kernel
theorem dX11_means_37 : decode cX11_means 37 = .ok (.invokevirtual 148, 3) := by decide +kernel
theorem dX11_means_40 : decode cX11_means 40 = .ok (.lreturn, 1) := by decide +kernel
theorem dX11_lets_0 : decode cX11_lets 0 = .ok (.aload_n 0, 1) := by decide +kernel
theorem dX11_lets_1 : decode cX11_lets 1 = .ok (.invokevirtual 126, 3) := by decide +kernel
theorem dX11_lets_4 : decode cX11_lets 4 = .ok (.ifCond .eq 10, 3) := by decide +kernel
theorem dX11_lets_7 : decode cX11_lets 7 = .ok (.aload_n 0, 1) := by decide +kernel
theorem dX11_lets_8 : decode cX11_lets 8 = .ok (.bipush (-5), 2) := by decide +kernel
theorem dX11_lets_10 : decode cX11_lets 10 = .ok (.invokevirtual 100, 3) := by decide +kernel
theorem dX11_lets_13 : decode cX11_lets 13 = .ok (.ireturn, 1) := by decide +kernel
theorem dX11_lets_14 : decode cX11_lets 14 = .ok (.aload_n 0, 1) := by decide +kernel
theorem dX11_lets_15 : decode cX11_lets 15 = .ok (.iload_n 1, 1) := by decide +kernel
theorem dX11_lets_16 : decode cX11_lets 16 = .ok (.invokevirtual 130, 3) := by decide +kernel
theorem dX11_lets_19 : decode cX11_lets 19 = .ok (.ifCond .ne 10, 3) := by decide +kernel
theorem dX11_lets_22 : decode cX11_lets 22 = .ok (.iload_n 2, 1) := by decide +kernel
theorem dX11_lets_23 : decode cX11_lets 23 = .ok (.invokestatic 152, 3) := by decide +kernel
theorem dX11_lets_26 : decode cX11_lets 26 = .ok (.ifCond .eq 9, 3) := by decide +kernel
theorem dX11_lets_29 : decode cX11_lets 29 = .ok (.aload_n 0, 1) := by decide +kernel
theorem dX11_lets_30 : decode cX11_lets 30 = .ok (.iconst (-1), 1) := by decide +kernel
theorem dX11_lets_31 : decode cX11_lets 31 = .ok (.invokevirtual 100, 3) := by decide +kernel
theorem dX11_lets_34 : decode cX11_lets 34 = .ok (.ireturn, 1) := by decide +kernel
theorem dX11_lets_35 : decode cX11_lets 35 = .ok (.aload_n 0, 1) := by decide +kernel
theorem dX11_lets_36 : decode cX11_lets 36 = .ok (.getfield 39, 3) := by decide +kernel
theorem dX11_lets_39 : decode cX11_lets 39 = .ok (.iload_n 1, 1) := by decide +kernel
theorem dX11_lets_40 : decode cX11_lets 40 = .ok (.invokevirtual 148, 3) := by decide +kernel
theorem dX11_lets_43 : decode cX11_lets 43 = .ok (.iload_n 2, 1) := by decide +kernel
theorem dX11_lets_44 : decode cX11_lets 44 = .ok (.invokestatic 155, 3) := by decide +kernel
theorem dX11_lets_47 : decode cX11_lets 47 = .ok (.ireturn, 1) := by decide +kernel
theorem dX11_map_0 : decode cX11_map 0 = .ok (.aload_n 0, 1) := by decide +kernel
theorem dX11_map_1 : decode cX11_map 1 = .ok (.invokevirtual 126, 3) := by decide +kernel
theorem dX11_map_4 : decode cX11_map 4 = .ok (.ifCond .eq 10, 3) := by decide +kernel
theorem dX11_map_7 : decode cX11_map 7 = .ok (.aload_n 0, 1) := by decide +kernel
theorem dX11_map_8 : decode cX11_map 8 = .ok (.bipush (-5), 2) := by decide +kernel
theorem dX11_map_10 : decode cX11_map 10 = .ok (.invokevirtual 100, 3) := by decide +kernel
theorem dX11_map_13 : decode cX11_map 13 = .ok (.ireturn, 1) := by decide +kernel
theorem dX11_map_14 : decode cX11_map 14 = .ok (.iload_n 1, 1) := by decide +kernel
theorem dX11_map_15 : decode cX11_map 15 = .ok (.invokestatic 152, 3) := by decide +kernel
theorem dX11_map_18 : decode cX11_map 18 = .ok (.ifCond .eq 11, 3) := by decide +kernel
theorem dX11_map_21 : decode cX11_map 21 = .ok (.aload_n 0, 1) := by decide +kernel
theorem dX11_map_22 : decode cX11_map 22 = .ok (.iconst (-1), 1) := by decide +kernel
theorem dX11_map_23 : decode cX11_map 23 = .ok (.invokevirtual 100, 3) := by decide +kernel
theorem dX11_map_26 : decode cX11_map 26 = .ok (.goto 11, 3) := by decide +kernel
theorem dX11_map_29 : decode cX11_map 29 = .ok (.aload_n 0, 1) := by decide +kernel
theorem dX11_map_30 : decode cX11_map 30 = .ok (.getfield 39, 3) := by decide +kernel
theorem dX11_map_33 : decode cX11_map 33 = .ok (.iload_n 1, 1) := by decide +kernel
theorem dX11_map_34 : decode cX11_map 34 = .ok (.invokevirtual 159, 3) := by decide +kernel
theorem dX11_map_37 : decode cX11_map 37 = .ok (.ireturn, 1) := by decide +kernel
theorem dX11_all_0 : decode cX11_all 0 = .ok (.aload_n 0, 1) := by decide +kernel
theorem dX11_all_1 : decode cX11_all 1 = .ok (.invokevirtual 126, 3) := by decide +kernel
theorem dX11_all_4 : decode cX11_all 4 = .ok (.ifCond .eq 11, 3) := by decide +kernel
theorem dX11_all_7 : decode cX11_all 7 = .ok (.aload_n 0, 1) := by decide +kernel
theorem dX11_all_8 : decode cX11_all 8 = .ok (.bipush (-5), 2) := by decide +kernel
theorem dX11_all_10 : decode cX11_all 10 = .ok (.invokevirtual 100, 3) := by decide +kernel
theorem dX11_all_13 : decode cX11_all 13 = .ok (.i2l, 1) := by decide +kernel
theorem dX11_all_14 : decode cX11_all 14 = .ok (.lreturn, 1) := by decide +kernel
theorem dX11_all_15 : decode cX11_all 15 = .ok (.iload_n 1, 1) := by decide +kernel
theorem dX11_all_16 : decode cX11_all 16 = .ok (.ifCond .eq 13, 3) := by decide +kernel
theorem dX11_all_19 : decode cX11_all 19 = .ok (.aload_n 0, 1) := by decide +kernel
theorem dX11_all_20 : decode cX11_all 20 = .ok (.getfield 39, 3) := by decide +kernel
theorem dX11_all_23 : decode cX11_all 23 = .ok (.invokevirtual 162, 3) := by decide +kernel
theorem dX11_all_26 : decode cX11_all 26 = .ok (.goto 10, 3) := by decide +kernel
theorem dX11_all_29 : decode cX11_all 29 = .ok (.aload_n 0, 1) := by decide +kernel
theorem dX11_all_30 : decode cX11_all 30 = .ok (.getfield 39, 3) := by decide +kernel
theorem dX11_all_33 : decode cX11_all 33 = .ok (.invokevirtual 166, 3) := by decide +kernel
theorem dX11_all_36 : decode cX11_all 36 = .ok (.lreturn, 1) := by decide +kernel
theorem dX11_same_0 : decode cX11_same 0 = .ok (.aload_n 0, 1) := by decide +kernel
theorem dX11_same_1 : decode cX11_same 1 = .ok (.invokevirtual 126, 3) := by decide +kernel
theorem dX11_same_4 : decode cX11_same 4 = .ok (.ifCond .eq 10, 3) := by decide +kernel
theorem dX11_same_7 : decode cX11_same 7 = .ok (.aload_n 0, 1) := by decide +kernel
theorem dX11_same_8 : decode cX11_same 8 = .ok (.bipush (-5), 2) := by decide +kernel
theorem dX11_same_10 : decode cX11_same 10 = .ok (.invokevirtual 100, 3) := by decide +kernel
theorem dX11_same_13 : decode cX11_same 13 = .ok (.ireturn, 1) := by decide +kernel
theorem dX11_same_14 : decode cX11_same 14 = .ok (.aload_n 0, 1) := by decide +kernel
theorem dX11_same_15 : decode cX11_same 15 = .ok (.iload_n 1, 1) := by decide +kernel
theorem dX11_same_16 : decode cX11_same 16 = .ok (.invokevirtual 130, 3) := by decide +kernel
theorem dX11_same_19 : decode cX11_same 19 = .ok (.ifCond .ne 11, 3) := by decide +kernel
theorem dX11_same_22 : decode cX11_same 22 = .ok (.aload_n 0, 1) := by decide +kernel
theorem dX11_same_23 : decode cX11_same 23 = .ok (.iload_n 2, 1) := by decide +kernel
theorem dX11_same_24 : decode cX11_same 24 = .ok (.invokevirtual 130, 3) := by decide +kernel
theorem dX11_same_27 : decode cX11_same 27 = .ok (.ifCond .eq 9, 3) := by decide +kernel
theorem dX11_same_30 : decode cX11_same 30 = .ok (.aload_n 0, 1) := by decide +kernel
theorem dX11_same_31 : decode cX11_same 31 = .ok (.iconst (-1), 1) := by decide +kernel
theorem dX11_same_32 : decode cX11_same 32 = .ok (.invokevirtual 100, 3) := by decide +kernel
theorem dX11_same_35 : decode cX11_same 35 = .ok (.ireturn, 1) := by decide +kernel
theorem dX11_same_36 : decode cX11_same 36 = .ok (.aload_n 0, 1) := by decide +kernel
theorem dX11_same_37 : decode cX11_same 37 = .ok (.getfield 39, 3) := by decide +kernel
theorem dX11_same_40 : decode cX11_same 40 = .ok (.iload_n 1, 1) := by decide +kernel
theorem dX11_same_41 : decode cX11_same 41 = .ok (.invokevirtual 148, 3) := by decide +kernel
theorem dX11_same_44 : decode cX11_same 44 = .ok (.aload_n 0, 1) := by decide +kernel
theorem dX11_same_45 : decode cX11_same 45 = .ok (.getfield 39, 3) := by decide +kernel
theorem dX11_same_48 : decode cX11_same 48 = .ok (.iload_n 2, 1) := by decide +kernel
theorem dX11_same_49 : decode cX11_same 49 = .ok (.invokevirtual 148, 3) := by decide +kernel
theorem dX11_same_52 : decode cX11_same 52 = .ok (.lcmp, 1) := by decide +kernel
theorem dX11_same_53 : decode cX11_same 53 = .ok (.ifCond .ne 7, 3) := by decide +kernel
theorem dX11_same_56 : decode cX11_same 56 = .ok (.iconst 1, 1) := by decide +kernel
theorem dX11_same_57 : decode cX11_same 57 = .ok (.goto 4, 3) := by decide +kernel
theorem dX11_same_60 : decode cX11_same 60 = .ok (.iconst 0, 1) := by decide +kernel
theorem dX11_same_61 : decode cX11_same 61 = .ok (.ireturn, 1) := by decide +kernel
theorem dX11_unlike_0 : decode cX11_unlike 0 = .ok (.aload_n 0, 1) := by decide +kernel
theorem dX11_unlike_1 : decode cX11_unlike 1 = .ok (.invokevirtual 126, 3) := by decide +kernel
theorem dX11_unlike_4 : decode cX11_unlike 4 = .ok (.ifCond .eq 10, 3) := by decide +kernel
theorem dX11_unlike_7 : decode cX11_unlike 7 = .ok (.aload_n 0, 1) := by decide +kernel
theorem dX11_unlike_8 : decode cX11_unlike 8 = .ok (.bipush (-5), 2) := by decide +kernel
theorem dX11_unlike_10 : decode cX11_unlike 10 = .ok (.invokevirtual 100, 3) := by decide +kernel
theorem dX11_unlike_13 : decode cX11_unlike 13 = .ok (.ireturn, 1) := by decide +kernel
theorem dX11_unlike_14 : decode cX11_unlike 14 = .ok (.aload_n 0, 1) := by decide +kernel
theorem dX11_unlike_15 : decode cX11_unlike 15 = .ok (.getfield 46, 3) := by decide +kernel
theorem dX11_unlike_18 : decode cX11_unlike 18 = .ok (.aload_n 0, 1) := by decide +kernel
theorem dX11_unlike_19 : decode cX11_unlike 19 = .ok (.getfield 39, 3) := by decide +kernel
theorem dX11_unlike_22 : decode cX11_unlike 22 = .ok (.invokevirtual 169, 3) := by decide +kernel
theorem dX11_unlike_25 : decode cX11_unlike 25 = .ok (.aload_n 0, 1) := by decide +kernel
theorem dX11_unlike_26 : decode cX11_unlike 26 = .ok (.getfield 46, 3) := by decide +kernel
theorem dX11_unlike_29 : decode cX11_unlike 29 = .ok (.invokevirtual 173, 3) := by decide +kernel
theorem dX11_unlike_32 : decode cX11_unlike 32 = .ok (.ireturn, 1) := by decide +kernel
theorem dX11_part_0 : decode cX11_part 0 = .ok (.aload_n 0, 1) := by decide +kernel
theorem dX11_part_1 : decode cX11_part 1 = .ok (.invokevirtual 126, 3) := by decide +kernel
theorem dX11_part_4 : decode cX11_part 4 = .ok (.ifCond .eq 10, 3) := by decide +kernel
theorem dX11_part_7 : decode cX11_part 7 = .ok (.aload_n 0, 1) := by decide +kernel
theorem dX11_part_8 : decode cX11_part 8 = .ok (.bipush (-5), 2) := by decide +kernel
theorem dX11_part_10 : decode cX11_part 10 = .ok (.invokevirtual 100, 3) := by decide +kernel
theorem dX11_part_13 : decode cX11_part 13 = .ok (.ireturn, 1) := by decide +kernel
theorem dX11_part_14 : decode cX11_part 14 = .ok (.aload_n 0, 1) := by decide +kernel
theorem dX11_part_15 : decode cX11_part 15 = .ok (.iload_n 1, 1) := by decide +kernel
theorem dX11_part_16 : decode cX11_part 16 = .ok (.invokevirtual 130, 3) := by decide +kernel
theorem dX11_part_19 : decode cX11_part 19 = .ok (.ifCond .ne 11, 3) := by decide +kernel
theorem dX11_part_22 : decode cX11_part 22 = .ok (.aload_n 0, 1) := by decide +kernel
theorem dX11_part_23 : decode cX11_part 23 = .ok (.iload_n 2, 1) := by decide +kernel
theorem dX11_part_24 : decode cX11_part 24 = .ok (.invokevirtual 130, 3) := by decide +kernel
theorem dX11_part_27 : decode cX11_part 27 = .ok (.ifCond .eq 9, 3) := by decide +kernel
theorem dX11_part_30 : decode cX11_part 30 = .ok (.aload_n 0, 1) := by decide +kernel
theorem dX11_part_31 : decode cX11_part 31 = .ok (.iconst (-1), 1) := by decide +kernel
theorem dX11_part_32 : decode cX11_part 32 = .ok (.invokevirtual 100, 3) := by decide +kernel
theorem dX11_part_35 : decode cX11_part 35 = .ok (.ireturn, 1) := by decide +kernel
theorem dX11_part_36 : decode cX11_part 36 = .ok (.aload_n 0, 1) := by decide +kernel
theorem dX11_part_37 : decode cX11_part 37 = .ok (.getfield 39, 3) := by decide +kernel
theorem dX11_part_40 : decode cX11_part 40 = .ok (.iload_n 1, 1) := by decide +kernel
theorem dX11_part_41 : decode cX11_part 41 = .ok (.invokevirtual 148, 3) := by decide +kernel
theorem dX11_part_44 : decode cX11_part 44 = .ok (.aload_n 0, 1) := by decide +kernel
theorem dX11_part_45 : decode cX11_part 45 = .ok (.getfield 39, 3) := by decide +kernel
theorem dX11_part_48 : decode cX11_part 48 = .ok (.iload_n 2, 1) := by decide +kernel
theorem dX11_part_49 : decode cX11_part 49 = .ok (.invokevirtual 148, 3) := by decide +kernel
theorem dX11_part_52 : decode cX11_part 52 = .ok (.lxor, 1) := by decide +kernel
theorem dX11_part_53 : decode cX11_part 53 = .ok (.invokestatic 174, 3) := by decide +kernel
theorem dX11_part_56 : decode cX11_part 56 = .ok (.ireturn, 1) := by decide +kernel
theorem dX11_idle_0 : decode cX11_idle 0 = .ok (.aload_n 0, 1) := by decide +kernel
theorem dX11_idle_1 : decode cX11_idle 1 = .ok (.invokevirtual 126, 3) := by decide +kernel
theorem dX11_idle_4 : decode cX11_idle 4 = .ok (.ifCond .eq 10, 3) := by decide +kernel
theorem dX11_idle_7 : decode cX11_idle 7 = .ok (.aload_n 0, 1) := by decide +kernel
theorem dX11_idle_8 : decode cX11_idle 8 = .ok (.bipush (-5), 2) := by decide +kernel
theorem dX11_idle_10 : decode cX11_idle 10 = .ok (.invokevirtual 100, 3) := by decide +kernel
theorem dX11_idle_13 : decode cX11_idle 13 = .ok (.ireturn, 1) := by decide +kernel
theorem dX11_idle_14 : decode cX11_idle 14 = .ok (.aload_n 0, 1) := by decide +kernel
theorem dX11_idle_15 : decode cX11_idle 15 = .ok (.iload_n 1, 1) := by decide +kernel
theorem dX11_idle_16 : decode cX11_idle 16 = .ok (.invokevirtual 130, 3) := by decide +kernel
theorem dX11_idle_19 : decode cX11_idle 19 = .ok (.ifCond .eq 11, 3) := by decide +kernel
theorem dX11_idle_22 : decode cX11_idle 22 = .ok (.aload_n 0, 1) := by decide +kernel
theorem dX11_idle_23 : decode cX11_idle 23 = .ok (.iconst (-1), 1) := by decide +kernel
theorem dX11_idle_24 : decode cX11_idle 24 = .ok (.invokevirtual 100, 3) := by decide +kernel
theorem dX11_idle_27 : decode cX11_idle 27 = .ok (.goto 11, 3) := by decide +kernel
theorem dX11_idle_30 : decode cX11_idle 30 = .ok (.aload_n 0, 1) := by decide +kernel
theorem dX11_idle_31 : decode cX11_idle 31 = .ok (.getfield 39, 3) := by decide +kernel
theorem dX11_idle_34 : decode cX11_idle 34 = .ok (.iload_n 1, 1) := by decide +kernel
theorem dX11_idle_35 : decode cX11_idle 35 = .ok (.invokevirtual 178, 3) := by decide +kernel
theorem dX11_idle_38 : decode cX11_idle 38 = .ok (.ireturn, 1) := by decide +kernel
theorem dX11_needless_0 : decode cX11_needless 0 = .ok (.aload_n 0, 1) := by decide +kernel
theorem dX11_needless_1 : decode cX11_needless 1 = .ok (.invokevirtual 126, 3) := by decide +kernel
theorem dX11_needless_4 : decode cX11_needless 4 = .ok (.ifCond .eq 12, 3) := by decide +kernel
theorem dX11_needless_7 : decode cX11_needless 7 = .ok (.aload_n 0, 1) := by decide +kernel
theorem dX11_needless_8 : decode cX11_needless 8 = .ok (.bipush (-5), 2) := by decide +kernel
theorem dX11_needless_10 : decode cX11_needless 10 = .ok (.invokevirtual 100, 3) := by decide +kernel
theorem dX11_needless_13 : decode cX11_needless 13 = .ok (.goto 10, 3) := by decide +kernel
theorem dX11_needless_16 : decode cX11_needless 16 = .ok (.aload_n 0, 1) := by decide +kernel
theorem dX11_needless_17 : decode cX11_needless 17 = .ok (.getfield 39, 3) := by decide +kernel
theorem dX11_needless_20 : decode cX11_needless 20 = .ok (.invokevirtual 181, 3) := by decide +kernel
theorem dX11_needless_23 : decode cX11_needless 23 = .ok (.ireturn, 1) := by decide +kernel
theorem dX11_meets_0 : decode cX11_meets 0 = .ok (.aload_n 0, 1) := by decide +kernel
theorem dX11_meets_1 : decode cX11_meets 1 = .ok (.invokevirtual 126, 3) := by decide +kernel
theorem dX11_meets_4 : decode cX11_meets 4 = .ok (.ifCond .eq 10, 3) := by decide +kernel
theorem dX11_meets_7 : decode cX11_meets 7 = .ok (.aload_n 0, 1) := by decide +kernel
theorem dX11_meets_8 : decode cX11_meets 8 = .ok (.bipush (-5), 2) := by decide +kernel
theorem dX11_meets_10 : decode cX11_meets 10 = .ok (.invokevirtual 100, 3) := by decide +kernel
theorem dX11_meets_13 : decode cX11_meets 13 = .ok (.ireturn, 1) := by decide +kernel
theorem dX11_meets_14 : decode cX11_meets 14 = .ok (.aload_n 0, 1) := by decide +kernel
theorem dX11_meets_15 : decode cX11_meets 15 = .ok (.iload_n 1, 1) := by decide +kernel
theorem dX11_meets_16 : decode cX11_meets 16 = .ok (.invokevirtual 130, 3) := by decide +kernel
theorem dX11_meets_19 : decode cX11_meets 19 = .ok (.ifCond .ne 10, 3) := by decide +kernel
theorem dX11_meets_22 : decode cX11_meets 22 = .ok (.iload_n 2, 1) := by decide +kernel
theorem dX11_meets_23 : decode cX11_meets 23 = .ok (.invokestatic 184, 3) := by decide +kernel
theorem dX11_meets_26 : decode cX11_meets 26 = .ok (.ifCond .eq 9, 3) := by decide +kernel
theorem dX11_meets_29 : decode cX11_meets 29 = .ok (.aload_n 0, 1) := by decide +kernel
theorem dX11_meets_30 : decode cX11_meets 30 = .ok (.iconst (-1), 1) := by decide +kernel
theorem dX11_meets_31 : decode cX11_meets 31 = .ok (.invokevirtual 100, 3) := by decide +kernel
theorem dX11_meets_34 : decode cX11_meets 34 = .ok (.ireturn, 1) := by decide +kernel
theorem dX11_meets_35 : decode cX11_meets 35 = .ok (.aload_n 0, 1) := by decide +kernel
theorem dX11_meets_36 : decode cX11_meets 36 = .ok (.getfield 39, 3) := by decide +kernel
theorem dX11_meets_39 : decode cX11_meets 39 = .ok (.iload_n 1, 1) := by decide +kernel
theorem dX11_meets_40 : decode cX11_meets 40 = .ok (.iload_n 2, 1) := by decide +kernel
theorem dX11_meets_41 : decode cX11_meets 41 = .ok (.invokevirtual 187, 3) := by decide +kernel
theorem dX11_meets_44 : decode cX11_meets 44 = .ok (.ifCond .eq 7, 3) := by decide +kernel
theorem dX11_meets_47 : decode cX11_meets 47 = .ok (.iconst 1, 1) := by decide +kernel
theorem dX11_meets_48 : decode cX11_meets 48 = .ok (.goto 4, 3) := by decide +kernel
theorem dX11_meets_51 : decode cX11_meets 51 = .ok (.iconst 0, 1) := by decide +kernel
theorem dX11_meets_52 : decode cX11_meets 52 = .ok (.ireturn, 1) := by decide +kernel
theorem dX11_choose_0 : decode cX11_choose 0 = .ok (.iload_n 1, 1) := by decide +kernel
theorem dX11_choose_1 : decode cX11_choose 1 = .ok (.invokestatic 184, 3) := by decide +kernel
theorem dX11_choose_4 : decode cX11_choose 4 = .ok (.ifCond .eq 9, 3) := by decide +kernel
theorem dX11_choose_7 : decode cX11_choose 7 = .ok (.aload_n 0, 1) := by decide +kernel
theorem dX11_choose_8 : decode cX11_choose 8 = .ok (.iconst (-1), 1) := by decide +kernel
theorem dX11_choose_9 : decode cX11_choose 9 = .ok (.invokevirtual 100, 3) := by decide +kernel
theorem dX11_choose_12 : decode cX11_choose 12 = .ok (.ireturn, 1) := by decide +kernel
theorem dX11_choose_13 : decode cX11_choose 13 = .ok (.aload_n 0, 1) := by decide +kernel
theorem dX11_choose_14 : decode cX11_choose 14 = .ok (.getfield 53, 3) := by decide +kernel
theorem dX11_choose_17 : decode cX11_choose 17 = .ok (.iload_n 1, 1) := by decide +kernel
theorem dX11_choose_18 : decode cX11_choose 18 = .ok (.invokevirtual 191, 3) := by decide +kernel
theorem dX11_choose_21 : decode cX11_choose 21 = .ok (.ifCond .eq 10, 3) := by decide +kernel
theorem dX11_choose_24 : decode cX11_choose 24 = .ok (.aload_n 0, 1) := by decide +kernel
theorem dX11_choose_25 : decode cX11_choose 25 = .ok (.bipush (-3), 2) := by decide +kernel
theorem dX11_choose_27 : decode cX11_choose 27 = .ok (.invokevirtual 100, 3) := by decide +kernel
theorem dX11_choose_30 : decode cX11_choose 30 = .ok (.ireturn, 1) := by decide +kernel
theorem dX11_choose_31 : decode cX11_choose 31 = .ok (.aload_n 0, 1) := by decide +kernel
theorem dX11_choose_32 : decode cX11_choose 32 = .ok (.getfield 53, 3) := by decide +kernel
theorem dX11_choose_35 : decode cX11_choose 35 = .ok (.iload_n 1, 1) := by decide +kernel
theorem dX11_choose_36 : decode cX11_choose 36 = .ok (.invokevirtual 194, 3) := by decide +kernel
theorem dX11_choose_39 : decode cX11_choose 39 = .ok (.aload_n 0, 1) := by decide +kernel
theorem dX11_choose_40 : decode cX11_choose 40 = .ok (.getfield 53, 3) := by decide +kernel
theorem dX11_choose_43 : decode cX11_choose 43 = .ok (.invokevirtual 195, 3) := by decide +kernel
theorem dX11_choose_46 : decode cX11_choose 46 = .ok (.ireturn, 1) := by decide +kernel
theorem dX11_unchoose_0 : decode cX11_unchoose 0 = .ok (.aload_n 0, 1) := by decide +kernel
theorem dX11_unchoose_1 : decode cX11_unchoose 1 = .ok (.getfield 53, 3) := by decide +kernel
theorem dX11_unchoose_4 : decode cX11_unchoose 4 = .ok (.invokevirtual 195, 3) := by decide +kernel
theorem dX11_unchoose_7 : decode cX11_unchoose 7 = .ok (.istore_n 1, 1) := by decide +kernel
theorem dX11_unchoose_8 : decode cX11_unchoose 8 = .ok (.aload_n 0, 1) := by decide +kernel
theorem dX11_unchoose_9 : decode cX11_unchoose 9 = .ok (.getfield 53, 3) := by decide +kernel
theorem dX11_unchoose_12 : decode cX11_unchoose 12 = .ok (.invokevirtual 196, 3) := by decide +kernel
theorem dX11_unchoose_15 : decode cX11_unchoose 15 = .ok (.iload_n 1, 1) := by decide +kernel
theorem dX11_unchoose_16 : decode cX11_unchoose 16 = .ok (.ireturn, 1) := by decide +kernel
theorem dX11_leftOver_0 : decode cX11_leftOver 0 = .ok (.aload_n 0, 1) := by decide +kernel
theorem dX11_leftOver_1 : decode cX11_leftOver 1 = .ok (.invokevirtual 126, 3) := by decide +kernel
theorem dX11_leftOver_4 : decode cX11_leftOver 4 = .ok (.ifCond .eq 10, 3) := by decide +kernel
theorem dX11_leftOver_7 : decode cX11_leftOver 7 = .ok (.aload_n 0, 1) := by decide +kernel
theorem dX11_leftOver_8 : decode cX11_leftOver 8 = .ok (.bipush (-5), 2) := by decide +kernel
theorem dX11_leftOver_10 : decode cX11_leftOver 10 = .ok (.invokevirtual 100, 3) := by decide +kernel
theorem dX11_leftOver_13 : decode cX11_leftOver 13 = .ok (.ireturn, 1) := by decide +kernel
theorem dX11_leftOver_14 : decode cX11_leftOver 14 = .ok (.iload_n 1, 1) := by decide +kernel
theorem dX11_leftOver_15 : decode cX11_leftOver 15 = .ok (.iconst (-1), 1) := by decide +kernel
theorem dX11_leftOver_16 : decode cX11_leftOver 16 = .ok (.if_icmp .ge 9, 3) := by decide +kernel
theorem dX11_leftOver_19 : decode cX11_leftOver 19 = .ok (.aload_n 0, 1) := by decide +kernel
theorem dX11_leftOver_20 : decode cX11_leftOver 20 = .ok (.iconst (-1), 1) := by decide +kernel
theorem dX11_leftOver_21 : decode cX11_leftOver 21 = .ok (.invokevirtual 100, 3) := by decide +kernel
theorem dX11_leftOver_24 : decode cX11_leftOver 24 = .ok (.ireturn, 1) := by decide +kernel
theorem dX11_leftOver_25 : decode cX11_leftOver 25 = .ok (.aload_n 0, 1) := by decide +kernel
theorem dX11_leftOver_26 : decode cX11_leftOver 26 = .ok (.getfield 60, 3) := by decide +kernel
theorem dX11_leftOver_29 : decode cX11_leftOver 29 = .ok (.aload_n 0, 1) := by decide +kernel
theorem dX11_leftOver_30 : decode cX11_leftOver 30 = .ok (.getfield 39, 3) := by decide +kernel
theorem dX11_leftOver_33 : decode cX11_leftOver 33 = .ok (.aload_n 0, 1) := by decide +kernel
theorem dX11_leftOver_34 : decode cX11_leftOver 34 = .ok (.getfield 53, 3) := by decide +kernel
theorem dX11_leftOver_37 : decode cX11_leftOver 37 = .ok (.iconst (-1), 1) := by decide +kernel
theorem dX11_leftOver_38 : decode cX11_leftOver 38 = .ok (.invokevirtual 197, 3) := by decide +kernel
theorem dX11_leftOver_41 : decode cX11_leftOver 41 = .ok (.iload_n 1, 1) := by decide +kernel
theorem dX11_leftOver_42 : decode cX11_leftOver 42 = .ok (.iconst (-1), 1) := by decide +kernel
theorem dX11_leftOver_43 : decode cX11_leftOver 43 = .ok (.if_icmp .ne 11, 3) := by decide +kernel
theorem dX11_leftOver_46 : decode cX11_leftOver 46 = .ok (.aload_n 0, 1) := by decide +kernel
theorem dX11_leftOver_47 : decode cX11_leftOver 47 = .ok (.getfield 60, 3) := by decide +kernel
theorem dX11_leftOver_50 : decode cX11_leftOver 50 = .ok (.invokevirtual 201, 3) := by decide +kernel
theorem dX11_leftOver_53 : decode cX11_leftOver 53 = .ok (.ireturn, 1) := by decide +kernel
theorem dX11_leftOver_54 : decode cX11_leftOver 54 = .ok (.iload_n 1, 1) := by decide +kernel
theorem dX11_leftOver_55 : decode cX11_leftOver 55 = .ok (.aload_n 0, 1) := by decide +kernel
theorem dX11_leftOver_56 : decode cX11_leftOver 56 = .ok (.getfield 60, 3) := by decide +kernel
theorem dX11_leftOver_59 : decode cX11_leftOver 59 = .ok (.invokevirtual 201, 3) := by decide +kernel
theorem dX11_leftOver_62 : decode cX11_leftOver 62 = .ok (.if_icmp .ge 14, 3) := by decide +kernel
theorem dX11_leftOver_65 : decode cX11_leftOver 65 = .ok (.aload_n 0, 1) := by decide +kernel
theorem dX11_leftOver_66 : decode cX11_leftOver 66 = .ok (.getfield 60, 3) := by decide +kernel
theorem dX11_leftOver_69 : decode cX11_leftOver 69 = .ok (.iload_n 1, 1) := by decide +kernel
theorem dX11_leftOver_70 : decode cX11_leftOver 70 = .ok (.invokevirtual 202, 3) := by decide +kernel
theorem dX11_leftOver_73 : decode cX11_leftOver 73 = .ok (.goto 5, 3) := by decide +kernel
theorem dX11_leftOver_76 : decode cX11_leftOver 76 = .ok (.bipush (-9), 2) := by decide +kernel
theorem dX11_leftOver_78 : decode cX11_leftOver 78 = .ok (.ireturn, 1) := by decide +kernel
theorem dX11_passedOver_0 : decode cX11_passedOver 0 = .ok (.aload_n 0, 1) := by decide +kernel
theorem dX11_passedOver_1 : decode cX11_passedOver 1 = .ok (.invokevirtual 126, 3) := by decide +kernel
theorem dX11_passedOver_4 : decode cX11_passedOver 4 = .ok (.ifCond .eq 10, 3) := by decide +kernel
theorem dX11_passedOver_7 : decode cX11_passedOver 7 = .ok (.aload_n 0, 1) := by decide +kernel
theorem dX11_passedOver_8 : decode cX11_passedOver 8 = .ok (.bipush (-5), 2) := by decide +kernel
theorem dX11_passedOver_10 : decode cX11_passedOver 10 = .ok (.invokevirtual 100, 3) := by decide +kernel
theorem dX11_passedOver_13 : decode cX11_passedOver 13 = .ok (.ireturn, 1) := by decide +kernel
theorem dX11_passedOver_14 : decode cX11_passedOver 14 = .ok (.aload_n 0, 1) := by decide +kernel
theorem dX11_passedOver_15 : decode cX11_passedOver 15 = .ok (.getfield 60, 3) := by decide +kernel
theorem dX11_passedOver_18 : decode cX11_passedOver 18 = .ok (.aload_n 0, 1) := by decide +kernel
theorem dX11_passedOver_19 : decode cX11_passedOver 19 = .ok (.getfield 39, 3) := by decide +kernel
theorem dX11_passedOver_22 : decode cX11_passedOver 22 = .ok (.aload_n 0, 1) := by decide +kernel
theorem dX11_passedOver_23 : decode cX11_passedOver 23 = .ok (.getfield 53, 3) := by decide +kernel
theorem dX11_passedOver_26 : decode cX11_passedOver 26 = .ok (.iconst (-1), 1) := by decide +kernel
theorem dX11_passedOver_27 : decode cX11_passedOver 27 = .ok (.invokevirtual 197, 3) := by decide +kernel
theorem dX11_passedOver_30 : decode cX11_passedOver 30 = .ok (.aload_n 0, 1) := by decide +kernel
theorem dX11_passedOver_31 : decode cX11_passedOver 31 = .ok (.getfield 60, 3) := by decide +kernel
theorem dX11_passedOver_34 : decode cX11_passedOver 34 = .ok (.invokevirtual 203, 3) := by decide +kernel
theorem dX11_passedOver_37 : decode cX11_passedOver 37 = .ok (.ireturn, 1) := by decide +kernel
theorem dX11_quarrel_0 : decode cX11_quarrel 0 = .ok (.aload_n 0, 1) := by decide +kernel
theorem dX11_quarrel_1 : decode cX11_quarrel 1 = .ok (.invokevirtual 126, 3) := by decide +kernel
theorem dX11_quarrel_4 : decode cX11_quarrel 4 = .ok (.ifCond .eq 10, 3) := by decide +kernel
theorem dX11_quarrel_7 : decode cX11_quarrel 7 = .ok (.aload_n 0, 1) := by decide +kernel
theorem dX11_quarrel_8 : decode cX11_quarrel 8 = .ok (.bipush (-5), 2) := by decide +kernel
theorem dX11_quarrel_10 : decode cX11_quarrel 10 = .ok (.invokevirtual 100, 3) := by decide +kernel
theorem dX11_quarrel_13 : decode cX11_quarrel 13 = .ok (.ireturn, 1) := by decide +kernel
theorem dX11_quarrel_14 : decode cX11_quarrel 14 = .ok (.iload_n 1, 1) := by decide +kernel
theorem dX11_quarrel_15 : decode cX11_quarrel 15 = .ok (.invokestatic 184, 3) := by decide +kernel
theorem dX11_quarrel_18 : decode cX11_quarrel 18 = .ok (.ifCond .ne 15, 3) := by decide +kernel
theorem dX11_quarrel_21 : decode cX11_quarrel 21 = .ok (.iload_n 2, 1) := by decide +kernel
theorem dX11_quarrel_22 : decode cX11_quarrel 22 = .ok (.invokestatic 184, 3) := by decide +kernel
theorem dX11_quarrel_25 : decode cX11_quarrel 25 = .ok (.ifCond .ne 8, 3) := by decide +kernel
theorem dX11_quarrel_28 : decode cX11_quarrel 28 = .ok (.iload_n 1, 1) := by decide +kernel
theorem dX11_quarrel_29 : decode cX11_quarrel 29 = .ok (.iload_n 2, 1) := by decide +kernel
theorem dX11_quarrel_30 : decode cX11_quarrel 30 = .ok (.if_icmp .ne 9, 3) := by decide +kernel
theorem dX11_quarrel_33 : decode cX11_quarrel 33 = .ok (.aload_n 0, 1) := by decide +kernel
theorem dX11_quarrel_34 : decode cX11_quarrel 34 = .ok (.iconst (-1), 1) := by decide +kernel
theorem dX11_quarrel_35 : decode cX11_quarrel 35 = .ok (.invokevirtual 100, 3) := by decide +kernel
theorem dX11_quarrel_38 : decode cX11_quarrel 38 = .ok (.ireturn, 1) := by decide +kernel
theorem dX11_quarrel_39 : decode cX11_quarrel 39 = .ok (.aload_n 0, 1) := by decide +kernel
theorem dX11_quarrel_40 : decode cX11_quarrel 40 = .ok (.getfield 39, 3) := by decide +kernel
theorem dX11_quarrel_43 : decode cX11_quarrel 43 = .ok (.iload_n 1, 1) := by decide +kernel
theorem dX11_quarrel_44 : decode cX11_quarrel 44 = .ok (.iload_n 2, 1) := by decide +kernel
theorem dX11_quarrel_45 : decode cX11_quarrel 45 = .ok (.invokevirtual 206, 3) := by decide +kernel
theorem dX11_quarrel_48 : decode cX11_quarrel 48 = .ok (.ifCond .eq 7, 3) := by decide +kernel
theorem dX11_quarrel_51 : decode cX11_quarrel 51 = .ok (.iconst 1, 1) := by decide +kernel
theorem dX11_quarrel_52 : decode cX11_quarrel 52 = .ok (.goto 4, 3) := by decide +kernel
theorem dX11_quarrel_55 : decode cX11_quarrel 55 = .ok (.iconst 0, 1) := by decide +kernel
theorem dX11_quarrel_56 : decode cX11_quarrel 56 = .ok (.ireturn, 1) := by decide +kernel
theorem dX11_hangs_0 : decode cX11_hangs 0 = .ok (.aload_n 0, 1) := by decide +kernel
theorem dX11_hangs_1 : decode cX11_hangs 1 = .ok (.invokevirtual 126, 3) := by decide +kernel
theorem dX11_hangs_4 : decode cX11_hangs 4 = .ok (.ifCond .eq 10, 3) := by decide +kernel
theorem dX11_hangs_7 : decode cX11_hangs 7 = .ok (.aload_n 0, 1) := by decide +kernel
theorem dX11_hangs_8 : decode cX11_hangs 8 = .ok (.bipush (-5), 2) := by decide +kernel
theorem dX11_hangs_10 : decode cX11_hangs 10 = .ok (.invokevirtual 100, 3) := by decide +kernel
theorem dX11_hangs_13 : decode cX11_hangs 13 = .ok (.ireturn, 1) := by decide +kernel
theorem dX11_hangs_14 : decode cX11_hangs 14 = .ok (.aload_n 0, 1) := by decide +kernel
theorem dX11_hangs_15 : decode cX11_hangs 15 = .ok (.getfield 60, 3) := by decide +kernel
theorem dX11_hangs_18 : decode cX11_hangs 18 = .ok (.aload_n 0, 1) := by decide +kernel
theorem dX11_hangs_19 : decode cX11_hangs 19 = .ok (.getfield 39, 3) := by decide +kernel
theorem dX11_hangs_22 : decode cX11_hangs 22 = .ok (.aload_n 0, 1) := by decide +kernel
theorem dX11_hangs_23 : decode cX11_hangs 23 = .ok (.getfield 53, 3) := by decide +kernel
theorem dX11_hangs_26 : decode cX11_hangs 26 = .ok (.iconst (-1), 1) := by decide +kernel
theorem dX11_hangs_27 : decode cX11_hangs 27 = .ok (.invokevirtual 197, 3) := by decide +kernel
theorem dX11_hangs_30 : decode cX11_hangs 30 = .ok (.iconst 0, 1) := by decide +kernel
theorem dX11_hangs_31 : decode cX11_hangs 31 = .ok (.istore_n 1, 1) := by decide +kernel
theorem dX11_hangs_32 : decode cX11_hangs 32 = .ok (.iconst 0, 1) := by decide +kernel
theorem dX11_hangs_33 : decode cX11_hangs 33 = .ok (.istore_n 2, 1) := by decide +kernel
theorem dX11_hangs_34 : decode cX11_hangs 34 = .ok (.iload_n 2, 1) := by decide +kernel
theorem dX11_hangs_35 : decode cX11_hangs 35 = .ok (.bipush 6, 2) := by decide +kernel
theorem dX11_hangs_37 : decode cX11_hangs 37 = .ok (.if_icmp .ge 56, 3) := by decide +kernel
theorem dX11_hangs_40 : decode cX11_hangs 40 = .ok (.aload_n 0, 1) := by decide +kernel
theorem dX11_hangs_41 : decode cX11_hangs 41 = .ok (.getfield 53, 3) := by decide +kernel
theorem dX11_hangs_44 : decode cX11_hangs 44 = .ok (.iload_n 2, 1) := by decide +kernel
theorem dX11_hangs_45 : decode cX11_hangs 45 = .ok (.invokevirtual 191, 3) := by decide +kernel
theorem dX11_hangs_48 : decode cX11_hangs 48 = .ok (.ifCond .eq 39, 3) := by decide +kernel
theorem dX11_hangs_51 : decode cX11_hangs 51 = .ok (.aload_n 0, 1) := by decide +kernel
theorem dX11_hangs_52 : decode cX11_hangs 52 = .ok (.getfield 64, 3) := by decide +kernel
theorem dX11_hangs_55 : decode cX11_hangs 55 = .ok (.aload_n 0, 1) := by decide +kernel
theorem dX11_hangs_56 : decode cX11_hangs 56 = .ok (.getfield 39, 3) := by decide +kernel
theorem dX11_hangs_59 : decode cX11_hangs 59 = .ok (.aload_n 0, 1) := by decide +kernel
theorem dX11_hangs_60 : decode cX11_hangs 60 = .ok (.getfield 53, 3) := by decide +kernel
theorem dX11_hangs_63 : decode cX11_hangs 63 = .ok (.iload_n 2, 1) := by decide +kernel
theorem dX11_hangs_64 : decode cX11_hangs 64 = .ok (.invokevirtual 197, 3) := by decide +kernel
theorem dX11_hangs_67 : decode cX11_hangs 67 = .ok (.aload_n 0, 1) := by decide +kernel
theorem dX11_hangs_68 : decode cX11_hangs 68 = .ok (.getfield 60, 3) := by decide +kernel
theorem dX11_hangs_71 : decode cX11_hangs 71 = .ok (.aload_n 0, 1) := by decide +kernel
theorem dX11_hangs_72 : decode cX11_hangs 72 = .ok (.getfield 64, 3) := by decide +kernel
theorem dX11_hangs_75 : decode cX11_hangs 75 = .ok (.invokevirtual 209, 3) := by decide +kernel
theorem dX11_hangs_78 : decode cX11_hangs 78 = .ok (.ifCond .ne 9, 3) := by decide +kernel
theorem dX11_hangs_81 : decode cX11_hangs 81 = .ok (.iload_n 1, 1) := by decide +kernel
theorem dX11_hangs_82 : decode cX11_hangs 82 = .ok (.iconst 1, 1) := by decide +kernel
theorem dX11_hangs_83 : decode cX11_hangs 83 = .ok (.iload_n 2, 1) := by decide +kernel
theorem dX11_hangs_84 : decode cX11_hangs 84 = .ok (.ishl, 1) := by decide +kernel
theorem dX11_hangs_85 : decode cX11_hangs 85 = .ok (.ior, 1) := by decide +kernel
theorem dX11_hangs_86 : decode cX11_hangs 86 = .ok (.istore_n 1, 1) := by decide +kernel
theorem dX11_hangs_87 : decode cX11_hangs 87 = .ok (.iinc 2 1, 3) := by decide +kernel
theorem dX11_hangs_90 : decode cX11_hangs 90 = .ok (.goto (-56), 3) := by decide +kernel
theorem dX11_hangs_93 : decode cX11_hangs 93 = .ok (.iload_n 1, 1) := by decide +kernel
theorem dX11_hangs_94 : decode cX11_hangs 94 = .ok (.ireturn, 1) := by decide +kernel
theorem dX11_test_0 : decode cX11_test 0 = .ok (.aload_n 0, 1) := by decide +kernel
theorem dX11_test_1 : decode cX11_test 1 = .ok (.invokevirtual 126, 3) := by decide +kernel
theorem dX11_test_4 : decode cX11_test 4 = .ok (.ifCond .eq 12, 3) := by decide +kernel
theorem dX11_test_7 : decode cX11_test 7 = .ok (.aload_n 0, 1) := by decide +kernel
theorem dX11_test_8 : decode cX11_test 8 = .ok (.bipush (-5), 2) := by decide +kernel
theorem dX11_test_10 : decode cX11_test 10 = .ok (.invokevirtual 100, 3) := by decide +kernel
theorem dX11_test_13 : decode cX11_test 13 = .ok (.goto 10, 3) := by decide +kernel
theorem dX11_test_16 : decode cX11_test 16 = .ok (.aload_n 0, 1) := by decide +kernel
theorem dX11_test_17 : decode cX11_test 17 = .ok (.getfield 39, 3) := by decide +kernel
theorem dX11_test_20 : decode cX11_test 20 = .ok (.invokevirtual 213, 3) := by decide +kernel
theorem dX11_test_23 : decode cX11_test 23 = .ok (.ireturn, 1) := by decide +kernel
theorem dX11_fewest_0 : decode cX11_fewest 0 = .ok (.aload_n 0, 1) := by decide +kernel
theorem dX11_fewest_1 : decode cX11_fewest 1 = .ok (.invokevirtual 126, 3) := by decide +kernel
theorem dX11_fewest_4 : decode cX11_fewest 4 = .ok (.ifCond .eq 10, 3) := by decide +kernel
theorem dX11_fewest_7 : decode cX11_fewest 7 = .ok (.aload_n 0, 1) := by decide +kernel
theorem dX11_fewest_8 : decode cX11_fewest 8 = .ok (.bipush (-5), 2) := by decide +kernel
theorem dX11_fewest_10 : decode cX11_fewest 10 = .ok (.invokevirtual 100, 3) := by decide +kernel
theorem dX11_fewest_13 : decode cX11_fewest 13 = .ok (.ireturn, 1) := by decide +kernel
theorem dX11_fewest_14 : decode cX11_fewest 14 = .ok (.aload_n 0, 1) := by decide +kernel
theorem dX11_fewest_15 : decode cX11_fewest 15 = .ok (.getfield 46, 3) := by decide +kernel
theorem dX11_fewest_18 : decode cX11_fewest 18 = .ok (.aload_n 0, 1) := by decide +kernel
theorem dX11_fewest_19 : decode cX11_fewest 19 = .ok (.getfield 39, 3) := by decide +kernel
theorem dX11_fewest_22 : decode cX11_fewest 22 = .ok (.invokevirtual 169, 3) := by decide +kernel
theorem dX11_fewest_25 : decode cX11_fewest 25 = .ok (.aload_n 0, 1) := by decide +kernel
theorem dX11_fewest_26 : decode cX11_fewest 26 = .ok (.getfield 46, 3) := by decide +kernel
theorem dX11_fewest_29 : decode cX11_fewest 29 = .ok (.invokevirtual 216, 3) := by decide +kernel
theorem dX11_fewest_32 : decode cX11_fewest 32 = .ok (.ireturn, 1) := by decide +kernel
theorem dX11_bracket_0 : decode cX11_bracket 0 = .ok (.iload_n 1, 1) := by decide +kernel
theorem dX11_bracket_1 : decode cX11_bracket 1 = .ok (.ifCond .lt 19, 3) := by decide +kernel
theorem dX11_bracket_4 : decode cX11_bracket 4 = .ok (.iload_n 2, 1) := by decide +kernel
theorem dX11_bracket_5 : decode cX11_bracket 5 = .ok (.iload_n 1, 1) := by decide +kernel
theorem dX11_bracket_6 : decode cX11_bracket 6 = .ok (.if_icmp .lt 14, 3) := by decide +kernel
theorem dX11_bracket_9 : decode cX11_bracket 9 = .ok (.iload_n 2, 1) := by decide +kernel
theorem dX11_bracket_10 : decode cX11_bracket 10 = .ok (.aload_n 0, 1) := by decide +kernel
end
section
theorem dX11_bracket_11 : decode cX11_bracket 11 = .ok (.getfield 16, 3) := by decide +kernel
theorem dX11_bracket_14 : decode cX11_bracket 14 = .ok (.invokevirtual 104, 3) := by decide +kernel
theorem dX11_bracket_17 : decode cX11_bracket 17 = .ok (.if_icmp .lt 9, 3) := by decide +kernel
theorem dX11_bracket_20 : decode cX11_bracket 20 = .ok (.aload_n 0, 1) := by decide +kernel
theorem dX11_bracket_21 : decode cX11_bracket 21 = .ok (.iconst (-1), 1) := by decide +kernel
theorem dX11_bracket_22 : decode cX11_bracket 22 = .ok (.invokevirtual 100, 3) := by decide +kernel
theorem dX11_bracket_25 : decode cX11_bracket 25 = .ok (.ireturn, 1) := by decide +kernel
theorem dX11_bracket_26 : decode cX11_bracket 26 = .ok (.aload_n 0, 1) := by decide +kernel
theorem dX11_bracket_27 : decode cX11_bracket 27 = .ok (.getfield 16, 3) := by decide +kernel
theorem dX11_bracket_30 : decode cX11_bracket 30 = .ok (.invokevirtual 104, 3) := by decide +kernel
theorem dX11_bracket_33 : decode cX11_bracket 33 = .ok (.iconst 2, 1) := by decide +kernel
theorem dX11_bracket_34 : decode cX11_bracket 34 = .ok (.iadd, 1) := by decide +kernel
theorem dX11_bracket_35 : decode cX11_bracket 35 = .ok (.bipush 21, 2) := by decide +kernel
theorem dX11_bracket_37 : decode cX11_bracket 37 = .ok (.if_icmp .le 10, 3) := by decide +kernel
theorem dX11_bracket_40 : decode cX11_bracket 40 = .ok (.aload_n 0, 1) := by decide +kernel
theorem dX11_bracket_41 : decode cX11_bracket 41 = .ok (.bipush (-6), 2) := by decide +kernel
theorem dX11_bracket_43 : decode cX11_bracket 43 = .ok (.invokevirtual 100, 3) := by decide +kernel
theorem dX11_bracket_46 : decode cX11_bracket 46 = .ok (.ireturn, 1) := by decide +kernel
theorem dX11_bracket_47 : decode cX11_bracket 47 = .ok (.aload_n 0, 1) := by decide +kernel
theorem dX11_bracket_48 : decode cX11_bracket 48 = .ok (.getfield 19, 3) := by decide +kernel
theorem dX11_bracket_51 : decode cX11_bracket 51 = .ok (.aload_n 0, 1) := by decide +kernel
theorem dX11_bracket_52 : decode cX11_bracket 52 = .ok (.getfield 16, 3) := by decide +kernel
theorem dX11_bracket_55 : decode cX11_bracket 55 = .ok (.iload_n 1, 1) := by decide +kernel
theorem dX11_bracket_56 : decode cX11_bracket 56 = .ok (.iload_n 2, 1) := by decide +kernel
theorem dX11_bracket_57 : decode cX11_bracket 57 = .ok (.invokevirtual 219, 3) := by decide +kernel
theorem dX11_bracket_60 : decode cX11_bracket 60 = .ok (.aload_n 0, 1) := by decide +kernel
theorem dX11_bracket_61 : decode cX11_bracket 61 = .ok (.getfield 19, 3) := by decide +kernel
theorem dX11_bracket_64 : decode cX11_bracket 64 = .ok (.invokevirtual 223, 3) := by decide +kernel
theorem dX11_bracket_67 : decode cX11_bracket 67 = .ok (.iconst 4, 1) := by decide +kernel
theorem dX11_bracket_68 : decode cX11_bracket 68 = .ok (.if_icmp .le 10, 3) := by decide +kernel
theorem dX11_bracket_71 : decode cX11_bracket 71 = .ok (.aload_n 0, 1) := by decide +kernel
theorem dX11_bracket_72 : decode cX11_bracket 72 = .ok (.bipush (-6), 2) := by decide +kernel
theorem dX11_bracket_74 : decode cX11_bracket 74 = .ok (.invokevirtual 100, 3) := by decide +kernel
theorem dX11_bracket_77 : decode cX11_bracket 77 = .ok (.ireturn, 1) := by decide +kernel
theorem dX11_bracket_78 : decode cX11_bracket 78 = .ok (.aload_n 0, 1) := by decide +kernel
theorem dX11_bracket_79 : decode cX11_bracket 79 = .ok (.getfield 19, 3) := by decide +kernel
theorem dX11_bracket_82 : decode cX11_bracket 82 = .ok (.invokevirtual 110, 3) := by decide +kernel
theorem dX11_bracket_85 : decode cX11_bracket 85 = .ok (.iconst (-1), 1) := by decide +kernel
theorem dX11_bracket_86 : decode cX11_bracket 86 = .ok (.if_icmp .eq 10, 3) := by decide +kernel
theorem dX11_bracket_89 : decode cX11_bracket 89 = .ok (.aload_n 0, 1) := by decide +kernel
theorem dX11_bracket_90 : decode cX11_bracket 90 = .ok (.bipush (-3), 2) := by decide +kernel
theorem dX11_bracket_92 : decode cX11_bracket 92 = .ok (.invokevirtual 100, 3) := by decide +kernel
theorem dX11_bracket_95 : decode cX11_bracket 95 = .ok (.ireturn, 1) := by decide +kernel
theorem dX11_bracket_96 : decode cX11_bracket 96 = .ok (.aload_n 0, 1) := by decide +kernel
theorem dX11_bracket_97 : decode cX11_bracket 97 = .ok (.aload_n 0, 1) := by decide +kernel
theorem dX11_bracket_98 : decode cX11_bracket 98 = .ok (.getfield 19, 3) := by decide +kernel
theorem dX11_bracket_101 : decode cX11_bracket 101 = .ok (.invokevirtual 113, 3) := by decide +kernel
theorem dX11_bracket_104 : decode cX11_bracket 104 = .ok (.aload_n 0, 1) := by decide +kernel
theorem dX11_bracket_105 : decode cX11_bracket 105 = .ok (.getfield 16, 3) := by decide +kernel
theorem dX11_bracket_108 : decode cX11_bracket 108 = .ok (.invokevirtual 104, 3) := by decide +kernel
theorem dX11_bracket_111 : decode cX11_bracket 111 = .ok (.ireturn, 1) := by decide +kernel
theorem dX11_mend_0 : decode cX11_mend 0 = .ok (.aload_n 0, 1) := by decide +kernel
theorem dX11_mend_1 : decode cX11_mend 1 = .ok (.invokevirtual 126, 3) := by decide +kernel
theorem dX11_mend_4 : decode cX11_mend 4 = .ok (.ifCond .eq 10, 3) := by decide +kernel
theorem dX11_mend_7 : decode cX11_mend 7 = .ok (.aload_n 0, 1) := by decide +kernel
theorem dX11_mend_8 : decode cX11_mend 8 = .ok (.bipush (-5), 2) := by decide +kernel
theorem dX11_mend_10 : decode cX11_mend 10 = .ok (.invokevirtual 100, 3) := by decide +kernel
theorem dX11_mend_13 : decode cX11_mend 13 = .ok (.ireturn, 1) := by decide +kernel
theorem dX11_mend_14 : decode cX11_mend 14 = .ok (.aload_n 0, 1) := by decide +kernel
theorem dX11_mend_15 : decode cX11_mend 15 = .ok (.iload_n 1, 1) := by decide +kernel
theorem dX11_mend_16 : decode cX11_mend 16 = .ok (.invokevirtual 130, 3) := by decide +kernel
theorem dX11_mend_19 : decode cX11_mend 19 = .ok (.ifCond .eq 9, 3) := by decide +kernel
theorem dX11_mend_22 : decode cX11_mend 22 = .ok (.aload_n 0, 1) := by decide +kernel
theorem dX11_mend_23 : decode cX11_mend 23 = .ok (.iconst (-1), 1) := by decide +kernel
theorem dX11_mend_24 : decode cX11_mend 24 = .ok (.invokevirtual 100, 3) := by decide +kernel
theorem dX11_mend_27 : decode cX11_mend 27 = .ok (.ireturn, 1) := by decide +kernel
theorem dX11_mend_28 : decode cX11_mend 28 = .ok (.aload_n 0, 1) := by decide +kernel
theorem dX11_mend_29 : decode cX11_mend 29 = .ok (.getfield 32, 3) := by decide +kernel
theorem dX11_mend_32 : decode cX11_mend 32 = .ok (.aload_n 0, 1) := by decide +kernel
theorem dX11_mend_33 : decode cX11_mend 33 = .ok (.getfield 16, 3) := by decide +kernel
theorem dX11_mend_36 : decode cX11_mend 36 = .ok (.aload_n 0, 1) := by decide +kernel
theorem dX11_mend_37 : decode cX11_mend 37 = .ok (.getfield 25, 3) := by decide +kernel
theorem dX11_mend_40 : decode cX11_mend 40 = .ok (.iload_n 1, 1) := by decide +kernel
theorem dX11_mend_41 : decode cX11_mend 41 = .ok (.i2l, 1) := by decide +kernel
theorem dX11_mend_42 : decode cX11_mend 42 = .ok (.invokevirtual 134, 3) := by decide +kernel
theorem dX11_mend_45 : decode cX11_mend 45 = .ok (.aload_n 0, 1) := by decide +kernel
theorem dX11_mend_46 : decode cX11_mend 46 = .ok (.getfield 70, 3) := by decide +kernel
theorem dX11_mend_49 : decode cX11_mend 49 = .ok (.aload_n 0, 1) := by decide +kernel
theorem dX11_mend_50 : decode cX11_mend 50 = .ok (.getfield 32, 3) := by decide +kernel
theorem dX11_mend_53 : decode cX11_mend 53 = .ok (.invokevirtual 226, 3) := by decide +kernel
theorem dX11_mend_56 : decode cX11_mend 56 = .ok (.iconst 0, 1) := by decide +kernel
theorem dX11_mend_57 : decode cX11_mend 57 = .ok (.istore_n 2, 1) := by decide +kernel
theorem dX11_mend_58 : decode cX11_mend 58 = .ok (.iload_n 2, 1) := by decide +kernel
theorem dX11_mend_59 : decode cX11_mend 59 = .ok (.aload_n 0, 1) := by decide +kernel
theorem dX11_mend_60 : decode cX11_mend 60 = .ok (.getfield 39, 3) := by decide +kernel
theorem dX11_mend_63 : decode cX11_mend 63 = .ok (.invokevirtual 230, 3) := by decide +kernel
theorem dX11_mend_66 : decode cX11_mend 66 = .ok (.if_icmp .ge 57, 3) := by decide +kernel
theorem dX11_mend_69 : decode cX11_mend 69 = .ok (.aload_n 0, 1) := by decide +kernel
theorem dX11_mend_70 : decode cX11_mend 70 = .ok (.getfield 39, 3) := by decide +kernel
theorem dX11_mend_73 : decode cX11_mend 73 = .ok (.iload_n 2, 1) := by decide +kernel
theorem dX11_mend_74 : decode cX11_mend 74 = .ok (.invokevirtual 148, 3) := by decide +kernel
theorem dX11_mend_77 : decode cX11_mend 77 = .ok (.aload_n 0, 1) := by decide +kernel
theorem dX11_mend_78 : decode cX11_mend 78 = .ok (.getfield 39, 3) := by decide +kernel
theorem dX11_mend_81 : decode cX11_mend 81 = .ok (.iload_n 1, 1) := by decide +kernel
theorem dX11_mend_82 : decode cX11_mend 82 = .ok (.invokevirtual 148, 3) := by decide +kernel
theorem dX11_mend_85 : decode cX11_mend 85 = .ok (.lcmp, 1) := by decide +kernel
theorem dX11_mend_86 : decode cX11_mend 86 = .ok (.ifCond .eq 31, 3) := by decide +kernel
theorem dX11_mend_89 : decode cX11_mend 89 = .ok (.aload_n 0, 1) := by decide +kernel
theorem dX11_mend_90 : decode cX11_mend 90 = .ok (.getfield 32, 3) := by decide +kernel
theorem dX11_mend_93 : decode cX11_mend 93 = .ok (.aload_n 0, 1) := by decide +kernel
theorem dX11_mend_94 : decode cX11_mend 94 = .ok (.getfield 16, 3) := by decide +kernel
theorem dX11_mend_97 : decode cX11_mend 97 = .ok (.aload_n 0, 1) := by decide +kernel
theorem dX11_mend_98 : decode cX11_mend 98 = .ok (.getfield 25, 3) := by decide +kernel
theorem dX11_mend_101 : decode cX11_mend 101 = .ok (.iload_n 2, 1) := by decide +kernel
theorem dX11_mend_102 : decode cX11_mend 102 = .ok (.i2l, 1) := by decide +kernel
theorem dX11_mend_103 : decode cX11_mend 103 = .ok (.invokevirtual 134, 3) := by decide +kernel
theorem dX11_mend_106 : decode cX11_mend 106 = .ok (.aload_n 0, 1) := by decide +kernel
theorem dX11_mend_107 : decode cX11_mend 107 = .ok (.getfield 70, 3) := by decide +kernel
theorem dX11_mend_110 : decode cX11_mend 110 = .ok (.aload_n 0, 1) := by decide +kernel
theorem dX11_mend_111 : decode cX11_mend 111 = .ok (.getfield 32, 3) := by decide +kernel
theorem dX11_mend_114 : decode cX11_mend 114 = .ok (.invokevirtual 231, 3) := by decide +kernel
theorem dX11_mend_117 : decode cX11_mend 117 = .ok (.iinc 2 1, 3) := by decide +kernel
theorem dX11_mend_120 : decode cX11_mend 120 = .ok (.goto (-62), 3) := by decide +kernel
theorem dX11_mend_123 : decode cX11_mend 123 = .ok (.aload_n 0, 1) := by decide +kernel
theorem dX11_mend_124 : decode cX11_mend 124 = .ok (.getfield 70, 3) := by decide +kernel
theorem dX11_mend_127 : decode cX11_mend 127 = .ok (.invokevirtual 234, 3) := by decide +kernel
theorem dX11_mend_130 : decode cX11_mend 130 = .ok (.ireturn, 1) := by decide +kernel
theorem dX11_aim_0 : decode cX11_aim 0 = .ok (.iload_n 1, 1) := by decide +kernel
theorem dX11_aim_1 : decode cX11_aim 1 = .ok (.invokestatic 152, 3) := by decide +kernel
theorem dX11_aim_4 : decode cX11_aim 4 = .ok (.ifCond .eq 9, 3) := by decide +kernel
theorem dX11_aim_7 : decode cX11_aim 7 = .ok (.aload_n 0, 1) := by decide +kernel
theorem dX11_aim_8 : decode cX11_aim 8 = .ok (.iconst (-1), 1) := by decide +kernel
theorem dX11_aim_9 : decode cX11_aim 9 = .ok (.invokevirtual 100, 3) := by decide +kernel
theorem dX11_aim_12 : decode cX11_aim 12 = .ok (.ireturn, 1) := by decide +kernel
theorem dX11_aim_13 : decode cX11_aim 13 = .ok (.iload_n 2, 1) := by decide +kernel
theorem dX11_aim_14 : decode cX11_aim 14 = .ok (.bipush (-99), 2) := by decide +kernel
theorem dX11_aim_16 : decode cX11_aim 16 = .ok (.if_icmp .ge 10, 3) := by decide +kernel
theorem dX11_aim_19 : decode cX11_aim 19 = .ok (.aload_n 0, 1) := by decide +kernel
theorem dX11_aim_20 : decode cX11_aim 20 = .ok (.bipush (-4), 2) := by decide +kernel
theorem dX11_aim_22 : decode cX11_aim 22 = .ok (.invokevirtual 100, 3) := by decide +kernel
theorem dX11_aim_25 : decode cX11_aim 25 = .ok (.ireturn, 1) := by decide +kernel
theorem dX11_aim_26 : decode cX11_aim 26 = .ok (.iload_n 2, 1) := by decide +kernel
theorem dX11_aim_27 : decode cX11_aim 27 = .ok (.bipush 99, 2) := by decide +kernel
theorem dX11_aim_29 : decode cX11_aim 29 = .ok (.if_icmp .gt 15, 3) := by decide +kernel
theorem dX11_aim_32 : decode cX11_aim 32 = .ok (.aload_n 0, 1) := by decide +kernel
theorem dX11_aim_33 : decode cX11_aim 33 = .ok (.getfield 77, 3) := by decide +kernel
theorem dX11_aim_36 : decode cX11_aim 36 = .ok (.invokevirtual 237, 3) := by decide +kernel
theorem dX11_aim_39 : decode cX11_aim 39 = .ok (.bipush 8, 2) := by decide +kernel
theorem dX11_aim_41 : decode cX11_aim 41 = .ok (.if_icmp .lt 10, 3) := by decide +kernel
theorem dX11_aim_44 : decode cX11_aim 44 = .ok (.aload_n 0, 1) := by decide +kernel
theorem dX11_aim_45 : decode cX11_aim 45 = .ok (.bipush (-6), 2) := by decide +kernel
theorem dX11_aim_47 : decode cX11_aim 47 = .ok (.invokevirtual 100, 3) := by decide +kernel
theorem dX11_aim_50 : decode cX11_aim 50 = .ok (.ireturn, 1) := by decide +kernel
theorem dX11_aim_51 : decode cX11_aim 51 = .ok (.aload_n 0, 1) := by decide +kernel
theorem dX11_aim_52 : decode cX11_aim 52 = .ok (.getfield 77, 3) := by decide +kernel
theorem dX11_aim_55 : decode cX11_aim 55 = .ok (.iload_n 1, 1) := by decide +kernel
theorem dX11_aim_56 : decode cX11_aim 56 = .ok (.iload_n 2, 1) := by decide +kernel
theorem dX11_aim_57 : decode cX11_aim 57 = .ok (.invokevirtual 238, 3) := by decide +kernel
theorem dX11_aim_60 : decode cX11_aim 60 = .ok (.aload_n 0, 1) := by decide +kernel
theorem dX11_aim_61 : decode cX11_aim 61 = .ok (.getfield 77, 3) := by decide +kernel
theorem dX11_aim_64 : decode cX11_aim 64 = .ok (.invokevirtual 237, 3) := by decide +kernel
theorem dX11_aim_67 : decode cX11_aim 67 = .ok (.ireturn, 1) := by decide +kernel
theorem dX11_serves_0 : decode cX11_serves 0 = .ok (.aload_n 0, 1) := by decide +kernel
theorem dX11_serves_1 : decode cX11_serves 1 = .ok (.invokevirtual 126, 3) := by decide +kernel
theorem dX11_serves_4 : decode cX11_serves 4 = .ok (.ifCond .eq 13, 3) := by decide +kernel
theorem dX11_serves_7 : decode cX11_serves 7 = .ok (.ldc 241, 2) := by decide +kernel
theorem dX11_serves_9 : decode cX11_serves 9 = .ok (.aload_n 0, 1) := by decide +kernel
theorem dX11_serves_10 : decode cX11_serves 10 = .ok (.bipush (-5), 2) := by decide +kernel
theorem dX11_serves_12 : decode cX11_serves 12 = .ok (.invokevirtual 100, 3) := by decide +kernel
theorem dX11_serves_15 : decode cX11_serves 15 = .ok (.isub, 1) := by decide +kernel
theorem dX11_serves_16 : decode cX11_serves 16 = .ok (.ireturn, 1) := by decide +kernel
theorem dX11_serves_17 : decode cX11_serves 17 = .ok (.aload_n 0, 1) := by decide +kernel
theorem dX11_serves_18 : decode cX11_serves 18 = .ok (.iload_n 1, 1) := by decide +kernel
theorem dX11_serves_19 : decode cX11_serves 19 = .ok (.invokevirtual 130, 3) := by decide +kernel
theorem dX11_serves_22 : decode cX11_serves 22 = .ok (.ifCond .eq 12, 3) := by decide +kernel
theorem dX11_serves_25 : decode cX11_serves 25 = .ok (.ldc 241, 2) := by decide +kernel
theorem dX11_serves_27 : decode cX11_serves 27 = .ok (.aload_n 0, 1) := by decide +kernel
theorem dX11_serves_28 : decode cX11_serves 28 = .ok (.iconst (-1), 1) := by decide +kernel
theorem dX11_serves_29 : decode cX11_serves 29 = .ok (.invokevirtual 100, 3) := by decide +kernel
theorem dX11_serves_32 : decode cX11_serves 32 = .ok (.isub, 1) := by decide +kernel
theorem dX11_serves_33 : decode cX11_serves 33 = .ok (.ireturn, 1) := by decide +kernel
theorem dX11_serves_34 : decode cX11_serves 34 = .ok (.aload_n 0, 1) := by decide +kernel
theorem dX11_serves_35 : decode cX11_serves 35 = .ok (.getfield 77, 3) := by decide +kernel
theorem dX11_serves_38 : decode cX11_serves 38 = .ok (.aload_n 0, 1) := by decide +kernel
theorem dX11_serves_39 : decode cX11_serves 39 = .ok (.getfield 39, 3) := by decide +kernel
theorem dX11_serves_42 : decode cX11_serves 42 = .ok (.iload_n 1, 1) := by decide +kernel
theorem dX11_serves_43 : decode cX11_serves 43 = .ok (.invokevirtual 148, 3) := by decide +kernel
theorem dX11_serves_46 : decode cX11_serves 46 = .ok (.invokevirtual 242, 3) := by decide +kernel
theorem dX11_serves_49 : decode cX11_serves 49 = .ok (.ireturn, 1) := by decide +kernel
theorem dX11_best_0 : decode cX11_best 0 = .ok (.aload_n 0, 1) := by decide +kernel
theorem dX11_best_1 : decode cX11_best 1 = .ok (.invokevirtual 126, 3) := by decide +kernel
theorem dX11_best_4 : decode cX11_best 4 = .ok (.ifCond .eq 10, 3) := by decide +kernel
theorem dX11_best_7 : decode cX11_best 7 = .ok (.aload_n 0, 1) := by decide +kernel
theorem dX11_best_8 : decode cX11_best 8 = .ok (.bipush (-5), 2) := by decide +kernel
theorem dX11_best_10 : decode cX11_best 10 = .ok (.invokevirtual 100, 3) := by decide +kernel
theorem dX11_best_13 : decode cX11_best 13 = .ok (.ireturn, 1) := by decide +kernel
theorem dX11_best_14 : decode cX11_best 14 = .ok (.iconst 0, 1) := by decide +kernel
theorem dX11_best_15 : decode cX11_best 15 = .ok (.istore_n 1, 1) := by decide +kernel
theorem dX11_best_16 : decode cX11_best 16 = .ok (.iconst 1, 1) := by decide +kernel
theorem dX11_best_17 : decode cX11_best 17 = .ok (.istore_n 2, 1) := by decide +kernel
theorem dX11_best_18 : decode cX11_best 18 = .ok (.iload_n 2, 1) := by decide +kernel
theorem dX11_best_19 : decode cX11_best 19 = .ok (.aload_n 0, 1) := by decide +kernel
theorem dX11_best_20 : decode cX11_best 20 = .ok (.getfield 39, 3) := by decide +kernel
theorem dX11_best_23 : decode cX11_best 23 = .ok (.invokevirtual 230, 3) := by decide +kernel
theorem dX11_best_26 : decode cX11_best 26 = .ok (.if_icmp .ge 44, 3) := by decide +kernel
theorem dX11_best_29 : decode cX11_best 29 = .ok (.aload_n 0, 1) := by decide +kernel
theorem dX11_best_30 : decode cX11_best 30 = .ok (.getfield 77, 3) := by decide +kernel
theorem dX11_best_33 : decode cX11_best 33 = .ok (.aload_n 0, 1) := by decide +kernel
theorem dX11_best_34 : decode cX11_best 34 = .ok (.getfield 39, 3) := by decide +kernel
theorem dX11_best_37 : decode cX11_best 37 = .ok (.iload_n 2, 1) := by decide +kernel
theorem dX11_best_38 : decode cX11_best 38 = .ok (.invokevirtual 148, 3) := by decide +kernel
theorem dX11_best_41 : decode cX11_best 41 = .ok (.invokevirtual 242, 3) := by decide +kernel
theorem dX11_best_44 : decode cX11_best 44 = .ok (.aload_n 0, 1) := by decide +kernel
theorem dX11_best_45 : decode cX11_best 45 = .ok (.getfield 77, 3) := by decide +kernel
theorem dX11_best_48 : decode cX11_best 48 = .ok (.aload_n 0, 1) := by decide +kernel
theorem dX11_best_49 : decode cX11_best 49 = .ok (.getfield 39, 3) := by decide +kernel
theorem dX11_best_52 : decode cX11_best 52 = .ok (.iload_n 1, 1) := by decide +kernel
theorem dX11_best_53 : decode cX11_best 53 = .ok (.invokevirtual 148, 3) := by decide +kernel
theorem dX11_best_56 : decode cX11_best 56 = .ok (.invokevirtual 242, 3) := by decide +kernel
theorem dX11_best_59 : decode cX11_best 59 = .ok (.if_icmp .le 5, 3) := by decide +kernel
theorem dX11_best_62 : decode cX11_best 62 = .ok (.iload_n 2, 1) := by decide +kernel
theorem dX11_best_63 : decode cX11_best 63 = .ok (.istore_n 1, 1) := by decide +kernel
theorem dX11_best_64 : decode cX11_best 64 = .ok (.iinc 2 1, 3) := by decide +kernel
theorem dX11_best_67 : decode cX11_best 67 = .ok (.goto (-49), 3) := by decide +kernel
theorem dX11_best_70 : decode cX11_best 70 = .ok (.iload_n 1, 1) := by decide +kernel
theorem dX11_best_71 : decode cX11_best 71 = .ok (.ireturn, 1) := by decide +kernel
theorem dX11_image_0 : decode cX11_image 0 = .ok (.aload_n 0, 1) := by decide +kernel
theorem dX11_image_1 : decode cX11_image 1 = .ok (.getfield 84, 3) := by decide +kernel
theorem dX11_image_4 : decode cX11_image 4 = .ok (.aload_n 0, 1) := by decide +kernel
theorem dX11_image_5 : decode cX11_image 5 = .ok (.getfield 16, 3) := by decide +kernel
theorem dX11_image_8 : decode cX11_image 8 = .ok (.aload_n 0, 1) := by decide +kernel
theorem dX11_image_9 : decode cX11_image 9 = .ok (.getfield 53, 3) := by decide +kernel
theorem dX11_image_12 : decode cX11_image 12 = .ok (.aload_n 0, 1) := by decide +kernel
theorem dX11_image_13 : decode cX11_image 13 = .ok (.getfield 77, 3) := by decide +kernel
theorem dX11_image_16 : decode cX11_image 16 = .ok (.invokevirtual 245, 3) := by decide +kernel
theorem dX11_image_19 : decode cX11_image 19 = .ok (.aload_n 0, 1) := by decide +kernel
theorem dX11_image_20 : decode cX11_image 20 = .ok (.getfield 16, 3) := by decide +kernel
theorem dX11_image_23 : decode cX11_image 23 = .ok (.invokevirtual 104, 3) := by decide +kernel
theorem dX11_image_26 : decode cX11_image 26 = .ok (.ireturn, 1) := by decide +kernel
theorem dX11_on_0 : decode cX11_on 0 = .ok (.aload_n 0, 1) := by decide +kernel
theorem dX11_on_1 : decode cX11_on 1 = .ok (.getfield 84, 3) := by decide +kernel
theorem dX11_on_4 : decode cX11_on 4 = .ok (.invokevirtual 249, 3) := by decide +kernel
theorem dX11_on_7 : decode cX11_on 7 = .ok (.ifCond .ne 10, 3) := by decide +kernel
theorem dX11_on_10 : decode cX11_on 10 = .ok (.aload_n 0, 1) := by decide +kernel
theorem dX11_on_11 : decode cX11_on 11 = .ok (.bipush (-3), 2) := by decide +kernel
theorem dX11_on_13 : decode cX11_on 13 = .ok (.invokevirtual 100, 3) := by decide +kernel
theorem dX11_on_16 : decode cX11_on 16 = .ok (.ireturn, 1) := by decide +kernel
theorem dX11_on_17 : decode cX11_on 17 = .ok (.aload_n 0, 1) := by decide +kernel
theorem dX11_on_18 : decode cX11_on 18 = .ok (.aload_n 0, 1) := by decide +kernel
theorem dX11_on_19 : decode cX11_on 19 = .ok (.getfield 84, 3) := by decide +kernel
theorem dX11_on_22 : decode cX11_on 22 = .ok (.invokevirtual 252, 3) := by decide +kernel
theorem dX11_on_25 : decode cX11_on 25 = .ok (.invokevirtual 113, 3) := by decide +kernel
theorem dX11_on_28 : decode cX11_on 28 = .ok (.aload_n 0, 1) := by decide +kernel
theorem dX11_on_29 : decode cX11_on 29 = .ok (.getfield 53, 3) := by decide +kernel
theorem dX11_on_32 : decode cX11_on 32 = .ok (.aload_n 0, 1) := by decide +kernel
theorem dX11_on_33 : decode cX11_on 33 = .ok (.getfield 84, 3) := by decide +kernel
theorem dX11_on_36 : decode cX11_on 36 = .ok (.invokevirtual 256, 3) := by decide +kernel
theorem dX11_on_39 : decode cX11_on 39 = .ok (.invokevirtual 259, 3) := by decide +kernel
theorem dX11_on_42 : decode cX11_on 42 = .ok (.aload_n 0, 1) := by decide +kernel
theorem dX11_on_43 : decode cX11_on 43 = .ok (.getfield 77, 3) := by decide +kernel
theorem dX11_on_46 : decode cX11_on 46 = .ok (.aload_n 0, 1) := by decide +kernel
theorem dX11_on_47 : decode cX11_on 47 = .ok (.getfield 84, 3) := by decide +kernel
theorem dX11_on_50 : decode cX11_on 50 = .ok (.invokevirtual 263, 3) := by decide +kernel
theorem dX11_on_53 : decode cX11_on 53 = .ok (.invokevirtual 266, 3) := by decide +kernel
theorem dX11_on_56 : decode cX11_on 56 = .ok (.aload_n 0, 1) := by decide +kernel
theorem dX11_on_57 : decode cX11_on 57 = .ok (.getfield 16, 3) := by decide +kernel
theorem dX11_on_60 : decode cX11_on 60 = .ok (.invokevirtual 104, 3) := by decide +kernel
theorem dX11_on_63 : decode cX11_on 63 = .ok (.ireturn, 1) := by decide +kernel
theorem dX11_count_0 : decode cX11_count 0 = .ok (.iload_n 1, 1) := by decide +kernel
theorem dX11_count_1 : decode cX11_count 1 = .ok (.tableswitch 75 0 4 #[35, 43, 51, 59, 67], 35) := by decide +kernel
theorem dX11_count_36 : decode cX11_count 36 = .ok (.aload_n 0, 1) := by decide +kernel
theorem dX11_count_37 : decode cX11_count 37 = .ok (.getfield 16, 3) := by decide +kernel
theorem dX11_count_40 : decode cX11_count 40 = .ok (.invokevirtual 104, 3) := by decide +kernel
theorem dX11_count_43 : decode cX11_count 43 = .ok (.ireturn, 1) := by decide +kernel
theorem dX11_count_44 : decode cX11_count 44 = .ok (.aload_n 0, 1) := by decide +kernel
theorem dX11_count_45 : decode cX11_count 45 = .ok (.getfield 53, 3) := by decide +kernel
theorem dX11_count_48 : decode cX11_count 48 = .ok (.invokevirtual 195, 3) := by decide +kernel
theorem dX11_count_51 : decode cX11_count 51 = .ok (.ireturn, 1) := by decide +kernel
theorem dX11_count_52 : decode cX11_count 52 = .ok (.aload_n 0, 1) := by decide +kernel
theorem dX11_count_53 : decode cX11_count 53 = .ok (.getfield 77, 3) := by decide +kernel
theorem dX11_count_56 : decode cX11_count 56 = .ok (.invokevirtual 237, 3) := by decide +kernel
theorem dX11_count_59 : decode cX11_count 59 = .ok (.ireturn, 1) := by decide +kernel
theorem dX11_count_60 : decode cX11_count 60 = .ok (.aload_n 0, 1) := by decide +kernel
theorem dX11_count_61 : decode cX11_count 61 = .ok (.getfield 10, 3) := by decide +kernel
theorem dX11_count_64 : decode cX11_count 64 = .ok (.invokevirtual 104, 3) := by decide +kernel
theorem dX11_count_67 : decode cX11_count 67 = .ok (.ireturn, 1) := by decide +kernel
theorem dX11_count_68 : decode cX11_count 68 = .ok (.aload_n 0, 1) := by decide +kernel
theorem dX11_count_69 : decode cX11_count 69 = .ok (.getfield 16, 3) := by decide +kernel
theorem dX11_count_72 : decode cX11_count 72 = .ok (.invokevirtual 269, 3) := by decide +kernel
theorem dX11_count_75 : decode cX11_count 75 = .ok (.ireturn, 1) := by decide +kernel
theorem dX11_count_76 : decode cX11_count 76 = .ok (.iload_n 1, 1) := by decide +kernel
theorem dX11_count_77 : decode cX11_count 77 = .ok (.bipush 11, 2) := by decide +kernel
theorem dX11_count_79 : decode cX11_count 79 = .ok (.if_icmp .lt 23, 3) := by decide +kernel
theorem dX11_count_82 : decode cX11_count 82 = .ok (.iload_n 1, 1) := by decide +kernel
theorem dX11_count_83 : decode cX11_count 83 = .ok (.bipush 16, 2) := by decide +kernel
theorem dX11_count_85 : decode cX11_count 85 = .ok (.if_icmp .gt 17, 3) := by decide +kernel
theorem dX11_count_88 : decode cX11_count 88 = .ok (.aload_n 0, 1) := by decide +kernel
theorem dX11_count_89 : decode cX11_count 89 = .ok (.getfield 88, 3) := by decide +kernel
theorem dX11_count_92 : decode cX11_count 92 = .ok (.iload_n 1, 1) := by decide +kernel
theorem dX11_count_93 : decode cX11_count 93 = .ok (.bipush 10, 2) := by decide +kernel
theorem dX11_count_95 : decode cX11_count 95 = .ok (.isub, 1) := by decide +kernel
theorem dX11_count_96 : decode cX11_count 96 = .ok (.invokestatic 272, 3) := by decide +kernel
theorem dX11_count_99 : decode cX11_count 99 = .ok (.goto 5, 3) := by decide +kernel
theorem dX11_count_102 : decode cX11_count 102 = .ok (.bipush (-9), 2) := by decide +kernel
theorem dX11_count_104 : decode cX11_count 104 = .ok (.ireturn, 1) := by decide +kernel
theorem dX11_refuse_0 : decode cX11_refuse 0 = .ok (.aload_n 0, 1) := by decide +kernel
theorem dX11_refuse_1 : decode cX11_refuse 1 = .ok (.getfield 88, 3) := by decide +kernel
theorem dX11_refuse_4 : decode cX11_refuse 4 = .ok (.iload_n 1, 1) := by decide +kernel
theorem dX11_refuse_5 : decode cX11_refuse 5 = .ok (.ineg, 1) := by decide +kernel
theorem dX11_refuse_6 : decode cX11_refuse 6 = .ok (.aload_n 0, 1) := by decide +kernel
theorem dX11_refuse_7 : decode cX11_refuse 7 = .ok (.getfield 88, 3) := by decide +kernel
theorem dX11_refuse_10 : decode cX11_refuse 10 = .ok (.iload_n 1, 1) := by decide +kernel
theorem dX11_refuse_11 : decode cX11_refuse 11 = .ok (.ineg, 1) := by decide +kernel
theorem dX11_refuse_12 : decode cX11_refuse 12 = .ok (.invokestatic 272, 3) := by decide +kernel
theorem dX11_refuse_15 : decode cX11_refuse 15 = .ok (.iconst 1, 1) := by decide +kernel
theorem dX11_refuse_16 : decode cX11_refuse 16 = .ok (.iadd, 1) := by decide +kernel
theorem dX11_refuse_17 : decode cX11_refuse 17 = .ok (.invokestatic 276, 3) := by decide +kernel
theorem dX11_refuse_20 : decode cX11_refuse 20 = .ok (.iload_n 1, 1) := by decide +kernel
theorem dX11_refuse_21 : decode cX11_refuse 21 = .ok (.ireturn, 1) := by decide +kernel
theorem dX11_takeSentence_0 : decode cX11_takeSentence 0 = .ok (.aload_n 0, 1) := by decide +kernel
theorem dX11_takeSentence_1 : decode cX11_takeSentence 1 = .ok (.getfield 16, 3) := by decide +kernel
theorem dX11_takeSentence_4 : decode cX11_takeSentence 4 = .ok (.aload_n 1, 1) := by decide +kernel
theorem dX11_takeSentence_5 : decode cX11_takeSentence 5 = .ok (.invokevirtual 280, 3) := by decide +kernel
theorem dX11_takeSentence_8 : decode cX11_takeSentence 8 = .ok (.aload_n 0, 1) := by decide +kernel
theorem dX11_takeSentence_9 : decode cX11_takeSentence 9 = .ok (.getfield 25, 3) := by decide +kernel
theorem dX11_takeSentence_12 : decode cX11_takeSentence 12 = .ok (.aload_n 0, 1) := by decide +kernel
theorem dX11_takeSentence_13 : decode cX11_takeSentence 13 = .ok (.getfield 16, 3) := by decide +kernel
theorem dX11_takeSentence_16 : decode cX11_takeSentence 16 = .ok (.invokevirtual 96, 3) := by decide +kernel
theorem dX11_takeSentence_19 : decode cX11_takeSentence 19 = .ok (.aload_n 0, 1) := by decide +kernel
theorem dX11_takeSentence_20 : decode cX11_takeSentence 20 = .ok (.getfield 39, 3) := by decide +kernel
theorem dX11_takeSentence_23 : decode cX11_takeSentence 23 = .ok (.invokevirtual 282, 3) := by decide +kernel
theorem dX11_takeSentence_26 : decode cX11_takeSentence 26 = .ok (.return_, 1) := by decide +kernel
theorem dX11_spent_0 : decode cX11_spent 0 = .ok (.aload_n 0, 1) := by decide +kernel
theorem dX11_spent_1 : decode cX11_spent 1 = .ok (.invokevirtual 285, 3) := by decide +kernel
theorem dX11_spent_4 : decode cX11_spent 4 = .ok (.lstore_n 1, 1) := by decide +kernel
theorem dX11_spent_5 : decode cX11_spent 5 = .ok (.lload_n 1, 1) := by decide +kernel
theorem dX11_spent_6 : decode cX11_spent 6 = .ok (.ldc2_w 288, 3) := by decide +kernel
theorem dX11_spent_9 : decode cX11_spent 9 = .ok (.lcmp, 1) := by decide +kernel
theorem dX11_spent_10 : decode cX11_spent 10 = .ok (.ifCond .le 5, 3) := by decide +kernel
theorem dX11_spent_13 : decode cX11_spent 13 = .ok (.iconst 1, 1) := by decide +kernel
theorem dX11_spent_14 : decode cX11_spent 14 = .ok (.ireturn, 1) := by decide +kernel
theorem dX11_spent_15 : decode cX11_spent 15 = .ok (.aload_n 0, 1) := by decide +kernel
theorem dX11_spent_16 : decode cX11_spent 16 = .ok (.getfield 39, 3) := by decide +kernel
theorem dX11_spent_19 : decode cX11_spent 19 = .ok (.invokevirtual 290, 3) := by decide +kernel
theorem dX11_spent_22 : decode cX11_spent 22 = .ok (.ifCond .ne 24, 3) := by decide +kernel
theorem dX11_spent_25 : decode cX11_spent 25 = .ok (.aload_n 0, 1) := by decide +kernel
theorem dX11_spent_26 : decode cX11_spent 26 = .ok (.getfield 39, 3) := by decide +kernel
theorem dX11_spent_29 : decode cX11_spent 29 = .ok (.aload_n 0, 1) := by decide +kernel
theorem dX11_spent_30 : decode cX11_spent 30 = .ok (.getfield 16, 3) := by decide +kernel
theorem dX11_spent_33 : decode cX11_spent 33 = .ok (.aload_n 0, 1) := by decide +kernel
theorem dX11_spent_34 : decode cX11_spent 34 = .ok (.getfield 25, 3) := by decide +kernel
theorem dX11_spent_37 : decode cX11_spent 37 = .ok (.aload_n 0, 1) := by decide +kernel
theorem dX11_spent_38 : decode cX11_spent 38 = .ok (.getfield 32, 3) := by decide +kernel
theorem dX11_spent_41 : decode cX11_spent 41 = .ok (.lload_n 1, 1) := by decide +kernel
theorem dX11_spent_42 : decode cX11_spent 42 = .ok (.l2i, 1) := by decide +kernel
theorem dX11_spent_43 : decode cX11_spent 43 = .ok (.invokevirtual 293, 3) := by decide +kernel
theorem dX11_spent_46 : decode cX11_spent 46 = .ok (.iconst 0, 1) := by decide +kernel
theorem dX11_spent_47 : decode cX11_spent 47 = .ok (.ireturn, 1) := by decide +kernel
theorem dX11_noReading_0 : decode cX11_noReading 0 = .ok (.iload_n 1, 1) := by decide +kernel
theorem dX11_noReading_1 : decode cX11_noReading 1 = .ok (.ifCond .lt 14, 3) := by decide +kernel
theorem dX11_noReading_4 : decode cX11_noReading 4 = .ok (.iload_n 1, 1) := by decide +kernel
theorem dX11_noReading_5 : decode cX11_noReading 5 = .ok (.aload_n 0, 1) := by decide +kernel
theorem dX11_noReading_6 : decode cX11_noReading 6 = .ok (.getfield 39, 3) := by decide +kernel
theorem dX11_noReading_9 : decode cX11_noReading 9 = .ok (.invokevirtual 230, 3) := by decide +kernel
theorem dX11_noReading_12 : decode cX11_noReading 12 = .ok (.if_icmp .lt 7, 3) := by decide +kernel
theorem dX11_noReading_15 : decode cX11_noReading 15 = .ok (.iconst 1, 1) := by decide +kernel
theorem dX11_noReading_16 : decode cX11_noReading 16 = .ok (.goto 4, 3) := by decide +kernel
theorem dX11_noReading_19 : decode cX11_noReading 19 = .ok (.iconst 0, 1) := by decide +kernel
theorem dX11_noReading_20 : decode cX11_noReading 20 = .ok (.ireturn, 1) := by decide +kernel
theorem dX11_noCase_0 : decode cX11_noCase 0 = .ok (.iload_n 0, 1) := by decide +kernel
theorem dX11_noCase_1 : decode cX11_noCase 1 = .ok (.ifCond .lt 9, 3) := by decide +kernel
theorem dX11_noCase_4 : decode cX11_noCase 4 = .ok (.iload_n 0, 1) := by decide +kernel
theorem dX11_noCase_5 : decode cX11_noCase 5 = .ok (.bipush 32, 2) := by decide +kernel
theorem dX11_noCase_7 : decode cX11_noCase 7 = .ok (.if_icmp .lt 7, 3) := by decide +kernel
theorem dX11_noCase_10 : decode cX11_noCase 10 = .ok (.iconst 1, 1) := by decide +kernel
theorem dX11_noCase_11 : decode cX11_noCase 11 = .ok (.goto 4, 3) := by decide +kernel
theorem dX11_noCase_14 : decode cX11_noCase 14 = .ok (.iconst 0, 1) := by decide +kernel
theorem dX11_noCase_15 : decode cX11_noCase 15 = .ok (.ireturn, 1) := by decide +kernel
theorem dX11_noRule_0 : decode cX11_noRule 0 = .ok (.iload_n 0, 1) := by decide +kernel
theorem dX11_noRule_1 : decode cX11_noRule 1 = .ok (.ifCond .lt 9, 3) := by decide +kernel
theorem dX11_noRule_4 : decode cX11_noRule 4 = .ok (.iload_n 0, 1) := by decide +kernel
theorem dX11_noRule_5 : decode cX11_noRule 5 = .ok (.bipush 6, 2) := by decide +kernel
theorem dX11_noRule_7 : decode cX11_noRule 7 = .ok (.if_icmp .lt 7, 3) := by decide +kernel
theorem dX11_noRule_10 : decode cX11_noRule 10 = .ok (.iconst 1, 1) := by decide +kernel
theorem dX11_noRule_11 : decode cX11_noRule 11 = .ok (.goto 4, 3) := by decide +kernel
theorem dX11_noRule_14 : decode cX11_noRule 14 = .ok (.iconst 0, 1) := by decide +kernel
theorem dX11_noRule_15 : decode cX11_noRule 15 = .ok (.ireturn, 1) := by decide +kernel
theorem dX11_kindOf_0 : decode cX11_kindOf 0 = .ok (.iload_n 0, 1) := by decide +kernel
theorem dX11_kindOf_1 : decode cX11_kindOf 1 = .ok (.lookupswitch 114 #[(33, 101), (38, 105), (40, 103), (45, 111), (62, 109), (97, 99), (98, 99), (99, 99), (100, 99), (101, 99), (124, 107)], 99) := by decide +kernel
theorem dX11_kindOf_100 : decode cX11_kindOf 100 = .ok (.iconst 0, 1) := by decide +kernel
theorem dX11_kindOf_101 : decode cX11_kindOf 101 = .ok (.ireturn, 1) := by decide +kernel
theorem dX11_kindOf_102 : decode cX11_kindOf 102 = .ok (.iconst 1, 1) := by decide +kernel
theorem dX11_kindOf_103 : decode cX11_kindOf 103 = .ok (.ireturn, 1) := by decide +kernel
theorem dX11_kindOf_104 : decode cX11_kindOf 104 = .ok (.iconst 2, 1) := by decide +kernel
theorem dX11_kindOf_105 : decode cX11_kindOf 105 = .ok (.ireturn, 1) := by decide +kernel
theorem dX11_kindOf_106 : decode cX11_kindOf 106 = .ok (.iconst 3, 1) := by decide +kernel
theorem dX11_kindOf_107 : decode cX11_kindOf 107 = .ok (.ireturn, 1) := by decide +kernel
theorem dX11_kindOf_108 : decode cX11_kindOf 108 = .ok (.iconst 4, 1) := by decide +kernel
theorem dX11_kindOf_109 : decode cX11_kindOf 109 = .ok (.ireturn, 1) := by decide +kernel
theorem dX11_kindOf_110 : decode cX11_kindOf 110 = .ok (.iconst 5, 1) := by decide +kernel
theorem dX11_kindOf_111 : decode cX11_kindOf 111 = .ok (.ireturn, 1) := by decide +kernel
theorem dX11_kindOf_112 : decode cX11_kindOf 112 = .ok (.bipush 6, 2) := by decide +kernel
theorem dX11_kindOf_114 : decode cX11_kindOf 114 = .ok (.ireturn, 1) := by decide +kernel
theorem dX11_kindOf_115 : decode cX11_kindOf 115 = .ok (.iconst (-1), 1) := by decide +kernel
theorem dX11_kindOf_116 : decode cX11_kindOf 116 = .ok (.ireturn, 1) := by decide +kernel
theorem dX11_casesOf_0 : decode cX11_casesOf 0 = .ok (.iload_n 0, 1) := by decide +kernel
theorem dX11_casesOf_1 : decode cX11_casesOf 1 = .ok (.bipush 97, 2) := by decide +kernel
theorem dX11_casesOf_3 : decode cX11_casesOf 3 = .ok (.isub, 1) := by decide +kernel
theorem dX11_casesOf_4 : decode cX11_casesOf 4 = .ok (.istore_n 1, 1) := by decide +kernel
theorem dX11_casesOf_5 : decode cX11_casesOf 5 = .ok (.iload_n 1, 1) := by decide +kernel
theorem dX11_casesOf_6 : decode cX11_casesOf 6 = .ok (.ifCond .lt 19, 3) := by decide +kernel
theorem dX11_casesOf_9 : decode cX11_casesOf 9 = .ok (.iload_n 1, 1) := by decide +kernel
theorem dX11_casesOf_10 : decode cX11_casesOf 10 = .ok (.getstatic 297, 3) := by decide +kernel
theorem dX11_casesOf_13 : decode cX11_casesOf 13 = .ok (.arraylength, 1) := by decide +kernel
theorem dX11_casesOf_14 : decode cX11_casesOf 14 = .ok (.if_icmp .ge 11, 3) := by decide +kernel
theorem dX11_casesOf_17 : decode cX11_casesOf 17 = .ok (.getstatic 297, 3) := by decide +kernel
theorem dX11_casesOf_20 : decode cX11_casesOf 20 = .ok (.iload_n 1, 1) := by decide +kernel
theorem dX11_casesOf_21 : decode cX11_casesOf 21 = .ok (.laload, 1) := by decide +kernel
theorem dX11_casesOf_22 : decode cX11_casesOf 22 = .ok (.goto 4, 3) := by decide +kernel
theorem dX11_casesOf_25 : decode cX11_casesOf 25 = .ok (.lconst 0, 1) := by decide +kernel
theorem dX11_casesOf_26 : decode cX11_casesOf 26 = .ok (.lreturn, 1) := by decide +kernel
theorem dX11_isJoin_0 : decode cX11_isJoin 0 = .ok (.iload_n 0, 1) := by decide +kernel
theorem dX11_isJoin_1 : decode cX11_isJoin 1 = .ok (.iconst 3, 1) := by decide +kernel
theorem dX11_isJoin_2 : decode cX11_isJoin 2 = .ok (.if_icmp .lt 7, 3) := by decide +kernel
theorem dX11_isJoin_5 : decode cX11_isJoin 5 = .ok (.iconst 1, 1) := by decide +kernel
theorem dX11_isJoin_6 : decode cX11_isJoin 6 = .ok (.goto 4, 3) := by decide +kernel
theorem dX11_isJoin_9 : decode cX11_isJoin 9 = .ok (.iconst 0, 1) := by decide +kernel
theorem dX11_isJoin_10 : decode cX11_isJoin 10 = .ok (.ireturn, 1) := by decide +kernel
theorem dX11_bit_0 : decode cX11_bit 0 = .ok (.lload_n 0, 1) := by decide +kernel
theorem dX11_bit_1 : decode cX11_bit 1 = .ok (.iload_n 2, 1) := by decide +kernel
theorem dX11_bit_2 : decode cX11_bit 2 = .ok (.lushr, 1) := by decide +kernel
theorem dX11_bit_3 : decode cX11_bit 3 = .ok (.lconst 1, 1) := by decide +kernel
theorem dX11_bit_4 : decode cX11_bit 4 = .ok (.land, 1) := by decide +kernel
theorem dX11_bit_5 : decode cX11_bit 5 = .ok (.l2i, 1) := by decide +kernel
theorem dX11_bit_6 : decode cX11_bit 6 = .ok (.ireturn, 1) := by decide +kernel
theorem dX11_leastCase_0 : decode cX11_leastCase 0 = .ok (.iconst 0, 1) := by decide +kernel
theorem dX11_leastCase_1 : decode cX11_leastCase 1 = .ok (.istore_n 2, 1) := by decide +kernel
theorem dX11_leastCase_2 : decode cX11_leastCase 2 = .ok (.iload_n 2, 1) := by decide +kernel
theorem dX11_leastCase_3 : decode cX11_leastCase 3 = .ok (.bipush 32, 2) := by decide +kernel
theorem dX11_leastCase_5 : decode cX11_leastCase 5 = .ok (.if_icmp .ge 20, 3) := by decide +kernel
theorem dX11_leastCase_8 : decode cX11_leastCase 8 = .ok (.lload_n 0, 1) := by decide +kernel
theorem dX11_leastCase_9 : decode cX11_leastCase 9 = .ok (.iload_n 2, 1) := by decide +kernel
theorem dX11_leastCase_10 : decode cX11_leastCase 10 = .ok (.invokestatic 155, 3) := by decide +kernel
theorem dX11_leastCase_13 : decode cX11_leastCase 13 = .ok (.iconst 1, 1) := by decide +kernel
theorem dX11_leastCase_14 : decode cX11_leastCase 14 = .ok (.if_icmp .ne 5, 3) := by decide +kernel
theorem dX11_leastCase_17 : decode cX11_leastCase 17 = .ok (.iload_n 2, 1) := by decide +kernel
theorem dX11_leastCase_18 : decode cX11_leastCase 18 = .ok (.ireturn, 1) := by decide +kernel
theorem dX11_leastCase_19 : decode cX11_leastCase 19 = .ok (.iinc 2 1, 3) := by decide +kernel
theorem dX11_leastCase_22 : decode cX11_leastCase 22 = .ok (.goto (-20), 3) := by decide +kernel
theorem dX11_leastCase_25 : decode cX11_leastCase 25 = .ok (.bipush (-9), 2) := by decide +kernel
theorem dX11_leastCase_27 : decode cX11_leastCase 27 = .ok (.ireturn, 1) := by decide +kernel
theorem dX11_look_0 : decode cX11_look 0 = .ok (.iload_n 1, 1) := by decide +kernel
theorem dX11_look_1 : decode cX11_look 1 = .ok (.ifCond .lt 15, 3) := by decide +kernel
theorem dX11_look_4 : decode cX11_look 4 = .ok (.iload_n 1, 1) := by decide +kernel
theorem dX11_look_5 : decode cX11_look 5 = .ok (.aload_n 0, 1) := by decide +kernel
theorem dX11_look_6 : decode cX11_look 6 = .ok (.arraylength, 1) := by decide +kernel
theorem dX11_look_7 : decode cX11_look 7 = .ok (.if_icmp .ge 9, 3) := by decide +kernel
theorem dX11_look_10 : decode cX11_look 10 = .ok (.aload_n 0, 1) := by decide +kernel
theorem dX11_look_11 : decode cX11_look 11 = .ok (.iload_n 1, 1) := by decide +kernel
theorem dX11_look_12 : decode cX11_look 12 = .ok (.iaload, 1) := by decide +kernel
theorem dX11_look_13 : decode cX11_look 13 = .ok (.goto 4, 3) := by decide +kernel
theorem dX11_look_16 : decode cX11_look 16 = .ok (.iconst 0, 1) := by decide +kernel
theorem dX11_look_17 : decode cX11_look 17 = .ok (.ireturn, 1) := by decide +kernel
theorem dX11_look__0 : decode cX11_look_ 0 = .ok (.iload_n 1, 1) := by decide +kernel
theorem dX11_look__1 : decode cX11_look_ 1 = .ok (.ifCond .lt 15, 3) := by decide +kernel
theorem dX11_look__4 : decode cX11_look_ 4 = .ok (.iload_n 1, 1) := by decide +kernel
theorem dX11_look__5 : decode cX11_look_ 5 = .ok (.aload_n 0, 1) := by decide +kernel
theorem dX11_look__6 : decode cX11_look_ 6 = .ok (.arraylength, 1) := by decide +kernel
theorem dX11_look__7 : decode cX11_look_ 7 = .ok (.if_icmp .ge 9, 3) := by decide +kernel
theorem dX11_look__10 : decode cX11_look_ 10 = .ok (.aload_n 0, 1) := by decide +kernel
theorem dX11_look__11 : decode cX11_look_ 11 = .ok (.iload_n 1, 1) := by decide +kernel
theorem dX11_look__12 : decode cX11_look_ 12 = .ok (.laload, 1) := by decide +kernel
theorem dX11_look__13 : decode cX11_look_ 13 = .ok (.goto 4, 3) := by decide +kernel
theorem dX11_look__16 : decode cX11_look_ 16 = .ok (.lconst 0, 1) := by decide +kernel
theorem dX11_look__17 : decode cX11_look_ 17 = .ok (.lreturn, 1) := by decide +kernel
theorem dX11_put_0 : decode cX11_put 0 = .ok (.iload_n 1, 1) := by decide +kernel
theorem dX11_put_1 : decode cX11_put 1 = .ok (.ifCond .lt 13, 3) := by decide +kernel
theorem dX11_put_4 : decode cX11_put 4 = .ok (.iload_n 1, 1) := by decide +kernel
theorem dX11_put_5 : decode cX11_put 5 = .ok (.aload_n 0, 1) := by decide +kernel
theorem dX11_put_6 : decode cX11_put 6 = .ok (.arraylength, 1) := by decide +kernel
theorem dX11_put_7 : decode cX11_put 7 = .ok (.if_icmp .ge 7, 3) := by decide +kernel
theorem dX11_put_10 : decode cX11_put 10 = .ok (.aload_n 0, 1) := by decide +kernel
theorem dX11_put_11 : decode cX11_put 11 = .ok (.iload_n 1, 1) := by decide +kernel
theorem dX11_put_12 : decode cX11_put 12 = .ok (.iload_n 2, 1) := by decide +kernel
theorem dX11_put_13 : decode cX11_put 13 = .ok (.iastore, 1) := by decide +kernel
theorem dX11_put_14 : decode cX11_put 14 = .ok (.return_, 1) := by decide +kernel
theorem dX11_put__0 : decode cX11_put_ 0 = .ok (.iload_n 1, 1) := by decide +kernel
theorem dX11_put__1 : decode cX11_put_ 1 = .ok (.ifCond .lt 13, 3) := by decide +kernel
theorem dX11_put__4 : decode cX11_put_ 4 = .ok (.iload_n 1, 1) := by decide +kernel
theorem dX11_put__5 : decode cX11_put_ 5 = .ok (.aload_n 0, 1) := by decide +kernel
theorem dX11_put__6 : decode cX11_put_ 6 = .ok (.arraylength, 1) := by decide +kernel
theorem dX11_put__7 : decode cX11_put_ 7 = .ok (.if_icmp .ge 7, 3) := by decide +kernel
theorem dX11_put__10 : decode cX11_put_ 10 = .ok (.aload_n 0, 1) := by decide +kernel
theorem dX11_put__11 : decode cX11_put_ 11 = .ok (.iload_n 1, 1) := by decide +kernel
theorem dX11_put__12 : decode cX11_put_ 12 = .ok (.lload_n 2, 1) := by decide +kernel
theorem dX11_put__13 : decode cX11_put_ 13 = .ok (.lastore, 1) := by decide +kernel
theorem dX11_put__14 : decode cX11_put_ 14 = .ok (.return_, 1) := by decide +kernel
theorem dX12_init_0 : decode cX12_init 0 = .ok (.aload_n 0, 1) := by decide +kernel
theorem dX12_init_1 : decode cX12_init 1 = .ok (.invokespecial 1, 3) := by decide +kernel
theorem dX12_init_4 : decode cX12_init 4 = .ok (.aload_n 0, 1) := by decide +kernel
theorem dX12_init_5 : decode cX12_init 5 = .ok (.bipush 7, 2) := by decide +kernel
theorem dX12_init_7 : decode cX12_init 7 = .ok (.newarray .int, 2) := by decide +kernel
theorem dX12_init_9 : decode cX12_init 9 = .ok (.putfield 7, 3) := by decide +kernel
theorem dX12_init_12 : decode cX12_init 12 = .ok (.aload_n 0, 1) := by decide +kernel
theorem dX12_init_13 : decode cX12_init 13 = .ok (.bipush 21, 2) := by decide +kernel
theorem dX12_init_15 : decode cX12_init 15 = .ok (.newarray .int, 2) := by decide +kernel
theorem dX12_init_17 : decode cX12_init 17 = .ok (.putfield 13, 3) := by decide +kernel
theorem dX12_init_20 : decode cX12_init 20 = .ok (.aload_n 0, 1) := by decide +kernel
theorem dX12_init_21 : decode cX12_init 21 = .ok (.bipush 21, 2) := by decide +kernel
theorem dX12_init_23 : decode cX12_init 23 = .ok (.newarray .int, 2) := by decide +kernel
theorem dX12_init_25 : decode cX12_init 25 = .ok (.putfield 16, 3) := by decide +kernel
theorem dX12_init_28 : decode cX12_init 28 = .ok (.aload_n 0, 1) := by decide +kernel
theorem dX12_init_29 : decode cX12_init 29 = .ok (.bipush 6, 2) := by decide +kernel
theorem dX12_init_31 : decode cX12_init 31 = .ok (.newarray .int, 2) := by decide +kernel
theorem dX12_init_33 : decode cX12_init 33 = .ok (.putfield 19, 3) := by decide +kernel
theorem dX12_init_36 : decode cX12_init 36 = .ok (.aload_n 0, 1) := by decide +kernel
theorem dX12_init_37 : decode cX12_init 37 = .ok (.bipush 8, 2) := by decide +kernel
theorem dX12_init_39 : decode cX12_init 39 = .ok (.newarray .int, 2) := by decide +kernel
theorem dX12_init_41 : decode cX12_init 41 = .ok (.putfield 22, 3) := by decide +kernel
theorem dX12_init_44 : decode cX12_init 44 = .ok (.aload_n 0, 1) := by decide +kernel
theorem dX12_init_45 : decode cX12_init 45 = .ok (.bipush 8, 2) := by decide +kernel
theorem dX12_init_47 : decode cX12_init 47 = .ok (.newarray .int, 2) := by decide +kernel
theorem dX12_init_49 : decode cX12_init 49 = .ok (.putfield 25, 3) := by decide +kernel
theorem dX12_init_52 : decode cX12_init 52 = .ok (.aload_n 0, 1) := by decide +kernel
theorem dX12_init_53 : decode cX12_init 53 = .ok (.bipush 21, 2) := by decide +kernel
theorem dX12_init_55 : decode cX12_init 55 = .ok (.newarray .int, 2) := by decide +kernel
theorem dX12_init_57 : decode cX12_init 57 = .ok (.putfield 28, 3) := by decide +kernel
theorem dX12_init_60 : decode cX12_init 60 = .ok (.aload_n 0, 1) := by decide +kernel
theorem dX12_init_61 : decode cX12_init 61 = .ok (.bipush 6, 2) := by decide +kernel
theorem dX12_init_63 : decode cX12_init 63 = .ok (.newarray .int, 2) := by decide +kernel
theorem dX12_init_65 : decode cX12_init 65 = .ok (.putfield 31, 3) := by decide +kernel
theorem dX12_init_68 : decode cX12_init 68 = .ok (.aload_n 0, 1) := by decide +kernel
theorem dX12_init_69 : decode cX12_init 69 = .ok (.bipush 8, 2) := by decide +kernel
theorem dX12_init_71 : decode cX12_init 71 = .ok (.newarray .int, 2) := by decide +kernel
theorem dX12_init_73 : decode cX12_init 73 = .ok (.putfield 34, 3) := by decide +kernel
theorem dX12_init_76 : decode cX12_init 76 = .ok (.aload_n 0, 1) := by decide +kernel
theorem dX12_init_77 : decode cX12_init 77 = .ok (.bipush 8, 2) := by decide +kernel
theorem dX12_init_79 : decode cX12_init 79 = .ok (.newarray .int, 2) := by decide +kernel
theorem dX12_init_81 : decode cX12_init 81 = .ok (.putfield 37, 3) := by decide +kernel
theorem dX12_init_84 : decode cX12_init 84 = .ok (.aload_n 0, 1) := by decide +kernel
theorem dX12_init_85 : decode cX12_init 85 = .ok (.sipush 484, 3) := by decide +kernel
theorem dX12_init_88 : decode cX12_init 88 = .ok (.newarray .long, 2) := by decide +kernel
theorem dX12_init_90 : decode cX12_init 90 = .ok (.putfield 40, 3) := by decide +kernel
theorem dX12_init_93 : decode cX12_init 93 = .ok (.aload_n 0, 1) := by decide +kernel
theorem dX12_init_94 : decode cX12_init 94 = .ok (.sipush 4200, 3) := by decide +kernel
theorem dX12_init_97 : decode cX12_init 97 = .ok (.newarray .int, 2) := by decide +kernel
theorem dX12_init_99 : decode cX12_init 99 = .ok (.putfield 44, 3) := by decide +kernel
theorem dX12_init_102 : decode cX12_init 102 = .ok (.aload_n 0, 1) := by decide +kernel
theorem dX12_init_103 : decode cX12_init 103 = .ok (.sipush 4200, 3) := by decide +kernel
theorem dX12_init_106 : decode cX12_init 106 = .ok (.newarray .int, 2) := by decide +kernel
theorem dX12_init_108 : decode cX12_init 108 = .ok (.putfield 47, 3) := by decide +kernel
theorem dX12_init_111 : decode cX12_init 111 = .ok (.aload_n 0, 1) := by decide +kernel
theorem dX12_init_112 : decode cX12_init 112 = .ok (.sipush 4200, 3) := by decide +kernel
theorem dX12_init_115 : decode cX12_init 115 = .ok (.newarray .int, 2) := by decide +kernel
theorem dX12_init_117 : decode cX12_init 117 = .ok (.putfield 50, 3) := by decide +kernel
theorem dX12_init_120 : decode cX12_init 120 = .ok (.aload_n 0, 1) := by decide +kernel
theorem dX12_init_121 : decode cX12_init 121 = .ok (.sipush 200, 3) := by decide +kernel
theorem dX12_init_124 : decode cX12_init 124 = .ok (.newarray .int, 2) := by decide +kernel
theorem dX12_init_126 : decode cX12_init 126 = .ok (.putfield 53, 3) := by decide +kernel
theorem dX12_init_129 : decode cX12_init 129 = .ok (.aload_n 0, 1) := by decide +kernel
theorem dX12_init_130 : decode cX12_init 130 = .ok (.sipush 200, 3) := by decide +kernel
theorem dX12_init_133 : decode cX12_init 133 = .ok (.newarray .int, 2) := by decide +kernel
theorem dX12_init_135 : decode cX12_init 135 = .ok (.putfield 56, 3) := by decide +kernel
theorem dX12_init_138 : decode cX12_init 138 = .ok (.aload_n 0, 1) := by decide +kernel
theorem dX12_init_139 : decode cX12_init 139 = .ok (.sipush 200, 3) := by decide +kernel
theorem dX12_init_142 : decode cX12_init 142 = .ok (.newarray .int, 2) := by decide +kernel
theorem dX12_init_144 : decode cX12_init 144 = .ok (.putfield 59, 3) := by decide +kernel
theorem dX12_init_147 : decode cX12_init 147 = .ok (.aload_n 0, 1) := by decide +kernel
theorem dX12_init_148 : decode cX12_init 148 = .ok (.sipush 200, 3) := by decide +kernel
theorem dX12_init_151 : decode cX12_init 151 = .ok (.newarray .long, 2) := by decide +kernel
theorem dX12_init_153 : decode cX12_init 153 = .ok (.putfield 62, 3) := by decide +kernel
theorem dX12_init_156 : decode cX12_init 156 = .ok (.aload_n 0, 1) := by decide +kernel
theorem dX12_init_157 : decode cX12_init 157 = .ok (.bipush (-9), 2) := by decide +kernel
theorem dX12_init_159 : decode cX12_init 159 = .ok (.putfield 65, 3) := by decide +kernel
theorem dX12_init_162 : decode cX12_init 162 = .ok (.aload_n 0, 1) := by decide +kernel
theorem dX12_init_163 : decode cX12_init 163 = .ok (.iconst 5, 1) := by decide +kernel
theorem dX12_init_164 : decode cX12_init 164 = .ok (.newarray .long, 2) := by decide +kernel
theorem dX12_init_166 : decode cX12_init 166 = .ok (.putfield 69, 3) := by decide +kernel
theorem dX12_init_169 : decode cX12_init 169 = .ok (.aload_n 0, 1) := by decide +kernel
theorem dX12_init_170 : decode cX12_init 170 = .ok (.sipush 200, 3) := by decide +kernel
theorem dX12_init_173 : decode cX12_init 173 = .ok (.newarray .long, 2) := by decide +kernel
theorem dX12_init_175 : decode cX12_init 175 = .ok (.putfield 72, 3) := by decide +kernel
theorem dX12_init_178 : decode cX12_init 178 = .ok (.aload_n 0, 1) := by decide +kernel
theorem dX12_init_179 : decode cX12_init 179 = .ok (.sipush 200, 3) := by decide +kernel
theorem dX12_init_182 : decode cX12_init 182 = .ok (.newarray .boolean, 2) := by decide +kernel
theorem dX12_init_184 : decode cX12_init 184 = .ok (.putfield 75, 3) := by decide +kernel
theorem dX12_init_187 : decode cX12_init 187 = .ok (.aload_n 0, 1) := by decide +kernel
theorem dX12_init_188 : decode cX12_init 188 = .ok (.sipush 200, 3) := by decide +kernel
theorem dX12_init_191 : decode cX12_init 191 = .ok (.newarray .boolean, 2) := by decide +kernel
theorem dX12_init_193 : decode cX12_init 193 = .ok (.putfield 79, 3) := by decide +kernel
theorem dX12_init_196 : decode cX12_init 196 = .ok (.aload_n 0, 1) := by decide +kernel
theorem dX12_init_197 : decode cX12_init 197 = .ok (.bipush 23, 2) := by decide +kernel
theorem dX12_init_199 : decode cX12_init 199 = .ok (.newarray .int, 2) := by decide +kernel
theorem dX12_init_201 : decode cX12_init 201 = .ok (.putfield 82, 3) := by decide +kernel
theorem dX12_init_204 : decode cX12_init 204 = .ok (.aload_n 0, 1) := by decide +kernel
theorem dX12_init_205 : decode cX12_init 205 = .ok (.getfield 13, 3) := by decide +kernel
theorem dX12_init_208 : decode cX12_init 208 = .ok (.iconst 0, 1) := by decide +kernel
theorem dX12_init_209 : decode cX12_init 209 = .ok (.bipush 97, 2) := by decide +kernel
theorem dX12_init_211 : decode cX12_init 211 = .ok (.iastore, 1) := by decide +kernel
theorem dX12_init_212 : decode cX12_init 212 = .ok (.aload_n 0, 1) := by decide +kernel
theorem dX12_init_213 : decode cX12_init 213 = .ok (.iconst 1, 1) := by decide +kernel
theorem dX12_init_214 : decode cX12_init 214 = .ok (.putfield 85, 3) := by decide +kernel
theorem dX12_init_217 : decode cX12_init 217 = .ok (.aload_n 0, 1) := by decide +kernel
theorem dX12_init_218 : decode cX12_init 218 = .ok (.invokevirtual 88, 3) := by decide +kernel
theorem dX12_init_221 : decode cX12_init 221 = .ok (.return_, 1) := by decide +kernel
theorem dX12_refuse_0 : decode cX12_refuse 0 = .ok (.aload_n 0, 1) := by decide +kernel
theorem dX12_refuse_1 : decode cX12_refuse 1 = .ok (.getfield 7, 3) := by decide +kernel
theorem dX12_refuse_4 : decode cX12_refuse 4 = .ok (.iload_n 1, 1) := by decide +kernel
theorem dX12_refuse_5 : decode cX12_refuse 5 = .ok (.ineg, 1) := by decide +kernel
theorem dX12_refuse_6 : decode cX12_refuse 6 = .ok (.dup2, 1) := by decide +kernel
theorem dX12_refuse_7 : decode cX12_refuse 7 = .ok (.iaload, 1) := by decide +kernel
theorem dX12_refuse_8 : decode cX12_refuse 8 = .ok (.iconst 1, 1) := by decide +kernel
theorem dX12_refuse_9 : decode cX12_refuse 9 = .ok (.iadd, 1) := by decide +kernel
theorem dX12_refuse_10 : decode cX12_refuse 10 = .ok (.iastore, 1) := by decide +kernel
theorem dX12_refuse_11 : decode cX12_refuse 11 = .ok (.iload_n 1, 1) := by decide +kernel
theorem dX12_refuse_12 : decode cX12_refuse 12 = .ok (.ireturn, 1) := by decide +kernel
theorem dX12_isIn_0 : decode cX12_isIn 0 = .ok (.iload_n 0, 1) := by decide +kernel
theorem dX12_isIn_1 : decode cX12_isIn 1 = .ok (.ifCond .lt 12, 3) := by decide +kernel
theorem dX12_isIn_4 : decode cX12_isIn 4 = .ok (.iload_n 0, 1) := by decide +kernel
theorem dX12_isIn_5 : decode cX12_isIn 5 = .ok (.iload_n 1, 1) := by decide +kernel
theorem dX12_isIn_6 : decode cX12_isIn 6 = .ok (.if_icmp .ge 7, 3) := by decide +kernel
theorem dX12_isIn_9 : decode cX12_isIn 9 = .ok (.iconst 1, 1) := by decide +kernel
theorem dX12_isIn_10 : decode cX12_isIn 10 = .ok (.goto 4, 3) := by decide +kernel
theorem dX12_isIn_13 : decode cX12_isIn 13 = .ok (.iconst 0, 1) := by decide +kernel
theorem dX12_isIn_14 : decode cX12_isIn 14 = .ok (.ireturn, 1) := by decide +kernel
theorem dX12_within_0 : decode cX12_within 0 = .ok (.iload_n 0, 1) := by decide +kernel
theorem dX12_within_1 : decode cX12_within 1 = .ok (.iload_n 1, 1) := by decide +kernel
theorem dX12_within_2 : decode cX12_within 2 = .ok (.if_icmp .ge 8, 3) := by decide +kernel
theorem dX12_within_5 : decode cX12_within 5 = .ok (.bipush (-4), 2) := by decide +kernel
theorem dX12_within_7 : decode cX12_within 7 = .ok (.goto 14, 3) := by decide +kernel
theorem dX12_within_10 : decode cX12_within 10 = .ok (.iload_n 0, 1) := by decide +kernel
theorem dX12_within_11 : decode cX12_within 11 = .ok (.iload_n 2, 1) := by decide +kernel
theorem dX12_within_12 : decode cX12_within 12 = .ok (.if_icmp .le 8, 3) := by decide +kernel
theorem dX12_within_15 : decode cX12_within 15 = .ok (.bipush (-6), 2) := by decide +kernel
theorem dX12_within_17 : decode cX12_within 17 = .ok (.goto 4, 3) := by decide +kernel
theorem dX12_within_20 : decode cX12_within 20 = .ok (.iconst 0, 1) := by decide +kernel
theorem dX12_within_21 : decode cX12_within 21 = .ok (.ireturn, 1) := by decide +kernel
theorem dX12_feed_0 : decode cX12_feed 0 = .ok (.iload_n 1, 1) := by decide +kernel
theorem dX12_feed_1 : decode cX12_feed 1 = .ok (.iconst 1, 1) := by decide +kernel
theorem dX12_feed_2 : decode cX12_feed 2 = .ok (.if_icmp .ge 10, 3) := by decide +kernel
theorem dX12_feed_5 : decode cX12_feed 5 = .ok (.aload_n 0, 1) := by decide +kernel
theorem dX12_feed_6 : decode cX12_feed 6 = .ok (.bipush (-4), 2) := by decide +kernel
theorem dX12_feed_8 : decode cX12_feed 8 = .ok (.invokevirtual 91, 3) := by decide +kernel
theorem dX12_feed_11 : decode cX12_feed 11 = .ok (.ireturn, 1) := by decide +kernel
theorem dX12_feed_12 : decode cX12_feed 12 = .ok (.iload_n 1, 1) := by decide +kernel
theorem dX12_feed_13 : decode cX12_feed 13 = .ok (.bipush 8, 2) := by decide +kernel
theorem dX12_feed_15 : decode cX12_feed 15 = .ok (.if_icmp .gt 14, 3) := by decide +kernel
theorem dX12_feed_18 : decode cX12_feed 18 = .ok (.aload_n 0, 1) := by decide +kernel
theorem dX12_feed_19 : decode cX12_feed 19 = .ok (.getfield 95, 3) := by decide +kernel
theorem dX12_feed_22 : decode cX12_feed 22 = .ok (.iload_n 1, 1) := by decide +kernel
theorem dX12_feed_23 : decode cX12_feed 23 = .ok (.iadd, 1) := by decide +kernel
theorem dX12_feed_24 : decode cX12_feed 24 = .ok (.bipush 21, 2) := by decide +kernel
theorem dX12_feed_26 : decode cX12_feed 26 = .ok (.if_icmp .le 10, 3) := by decide +kernel
theorem dX12_feed_29 : decode cX12_feed 29 = .ok (.aload_n 0, 1) := by decide +kernel
theorem dX12_feed_30 : decode cX12_feed 30 = .ok (.bipush (-6), 2) := by decide +kernel
theorem dX12_feed_32 : decode cX12_feed 32 = .ok (.invokevirtual 91, 3) := by decide +kernel
theorem dX12_feed_35 : decode cX12_feed 35 = .ok (.ireturn, 1) := by decide +kernel
theorem dX12_feed_36 : decode cX12_feed 36 = .ok (.iconst 0, 1) := by decide +kernel
theorem dX12_feed_37 : decode cX12_feed 37 = .ok (.istore 4, 2) := by decide +kernel
theorem dX12_feed_39 : decode cX12_feed 39 = .ok (.iload 4, 2) := by decide +kernel
theorem dX12_feed_41 : decode cX12_feed 41 = .ok (.iload_n 1, 1) := by decide +kernel
theorem dX12_feed_42 : decode cX12_feed 42 = .ok (.if_icmp .ge 40, 3) := by decide +kernel
theorem dX12_feed_45 : decode cX12_feed 45 = .ok (.aload_n 0, 1) := by decide +kernel
theorem dX12_feed_46 : decode cX12_feed 46 = .ok (.getfield 16, 3) := by decide +kernel
theorem dX12_feed_49 : decode cX12_feed 49 = .ok (.aload_n 0, 1) := by decide +kernel
theorem dX12_feed_50 : decode cX12_feed 50 = .ok (.getfield 95, 3) := by decide +kernel
theorem dX12_feed_53 : decode cX12_feed 53 = .ok (.lload_n 2, 1) := by decide +kernel
theorem dX12_feed_54 : decode cX12_feed 54 = .ok (.bipush 8, 2) := by decide +kernel
theorem dX12_feed_56 : decode cX12_feed 56 = .ok (.iload 4, 2) := by decide +kernel
theorem dX12_feed_58 : decode cX12_feed 58 = .ok (.imul, 1) := by decide +kernel
theorem dX12_feed_59 : decode cX12_feed 59 = .ok (.lshr, 1) := by decide +kernel
theorem dX12_feed_60 : decode cX12_feed 60 = .ok (.ldc2_w 98, 3) := by decide +kernel
theorem dX12_feed_63 : decode cX12_feed 63 = .ok (.land, 1) := by decide +kernel
theorem dX12_feed_64 : decode cX12_feed 64 = .ok (.l2i, 1) := by decide +kernel
theorem dX12_feed_65 : decode cX12_feed 65 = .ok (.iastore, 1) := by decide +kernel
theorem dX12_feed_66 : decode cX12_feed 66 = .ok (.aload_n 0, 1) := by decide +kernel
theorem dX12_feed_67 : decode cX12_feed 67 = .ok (.dup, 1) := by decide +kernel
theorem dX12_feed_68 : decode cX12_feed 68 = .ok (.getfield 95, 3) := by decide +kernel
theorem dX12_feed_71 : decode cX12_feed 71 = .ok (.iconst 1, 1) := by decide +kernel
theorem dX12_feed_72 : decode cX12_feed 72 = .ok (.iadd, 1) := by decide +kernel
theorem dX12_feed_73 : decode cX12_feed 73 = .ok (.putfield 95, 3) := by decide +kernel
theorem dX12_feed_76 : decode cX12_feed 76 = .ok (.iinc 4 1, 3) := by decide +kernel
theorem dX12_feed_79 : decode cX12_feed 79 = .ok (.goto (-40), 3) := by decide +kernel
theorem dX12_feed_82 : decode cX12_feed 82 = .ok (.aload_n 0, 1) := by decide +kernel
theorem dX12_feed_83 : decode cX12_feed 83 = .ok (.getfield 95, 3) := by decide +kernel
theorem dX12_feed_86 : decode cX12_feed 86 = .ok (.ireturn, 1) := by decide +kernel
theorem dX12_isLetter_0 : decode cX12_isLetter 0 = .ok (.iload_n 0, 1) := by decide +kernel
theorem dX12_isLetter_1 : decode cX12_isLetter 1 = .ok (.bipush 97, 2) := by decide +kernel
theorem dX12_isLetter_3 : decode cX12_isLetter 3 = .ok (.if_icmp .lt 13, 3) := by decide +kernel
theorem dX12_isLetter_6 : decode cX12_isLetter 6 = .ok (.iload_n 0, 1) := by decide +kernel
theorem dX12_isLetter_7 : decode cX12_isLetter 7 = .ok (.bipush 101, 2) := by decide +kernel
theorem dX12_isLetter_9 : decode cX12_isLetter 9 = .ok (.if_icmp .gt 7, 3) := by decide +kernel
theorem dX12_isLetter_12 : decode cX12_isLetter 12 = .ok (.iconst 1, 1) := by decide +kernel
theorem dX12_isLetter_13 : decode cX12_isLetter 13 = .ok (.goto 4, 3) := by decide +kernel
theorem dX12_isLetter_16 : decode cX12_isLetter 16 = .ok (.iconst 0, 1) := by decide +kernel
theorem dX12_isLetter_17 : decode cX12_isLetter 17 = .ok (.ireturn, 1) := by decide +kernel
theorem dX12_kindOf_0 : decode cX12_kindOf 0 = .ok (.iload_n 0, 1) := by decide +kernel
theorem dX12_kindOf_1 : decode cX12_kindOf 1 = .ok (.bipush 38, 2) := by decide +kernel
theorem dX12_kindOf_3 : decode cX12_kindOf 3 = .ok (.if_icmp .ne 7, 3) := by decide +kernel
theorem dX12_kindOf_6 : decode cX12_kindOf 6 = .ok (.iconst 3, 1) := by decide +kernel
theorem dX12_kindOf_7 : decode cX12_kindOf 7 = .ok (.goto 36, 3) := by decide +kernel
theorem dX12_kindOf_10 : decode cX12_kindOf 10 = .ok (.iload_n 0, 1) := by decide +kernel
theorem dX12_kindOf_11 : decode cX12_kindOf 11 = .ok (.bipush 124, 2) := by decide +kernel
theorem dX12_kindOf_13 : decode cX12_kindOf 13 = .ok (.if_icmp .ne 7, 3) := by decide +kernel
theorem dX12_kindOf_16 : decode cX12_kindOf 16 = .ok (.iconst 4, 1) := by decide +kernel
theorem dX12_kindOf_17 : decode cX12_kindOf 17 = .ok (.goto 26, 3) := by decide +kernel
theorem dX12_kindOf_20 : decode cX12_kindOf 20 = .ok (.iload_n 0, 1) := by decide +kernel
theorem dX12_kindOf_21 : decode cX12_kindOf 21 = .ok (.bipush 62, 2) := by decide +kernel
theorem dX12_kindOf_23 : decode cX12_kindOf 23 = .ok (.if_icmp .ne 7, 3) := by decide +kernel
theorem dX12_kindOf_26 : decode cX12_kindOf 26 = .ok (.iconst 5, 1) := by decide +kernel
theorem dX12_kindOf_27 : decode cX12_kindOf 27 = .ok (.goto 16, 3) := by decide +kernel
theorem dX12_kindOf_30 : decode cX12_kindOf 30 = .ok (.iload_n 0, 1) := by decide +kernel
theorem dX12_kindOf_31 : decode cX12_kindOf 31 = .ok (.bipush 45, 2) := by decide +kernel
theorem dX12_kindOf_33 : decode cX12_kindOf 33 = .ok (.if_icmp .ne 8, 3) := by decide +kernel
theorem dX12_kindOf_36 : decode cX12_kindOf 36 = .ok (.bipush 6, 2) := by decide +kernel
theorem dX12_kindOf_38 : decode cX12_kindOf 38 = .ok (.goto 5, 3) := by decide +kernel
theorem dX12_kindOf_41 : decode cX12_kindOf 41 = .ok (.bipush (-9), 2) := by decide +kernel
theorem dX12_kindOf_43 : decode cX12_kindOf 43 = .ok (.ireturn, 1) := by decide +kernel
theorem dX12_fault_0 : decode cX12_fault 0 = .ok (.iconst 0, 1) := by decide +kernel
theorem dX12_fault_1 : decode cX12_fault 1 = .ok (.istore_n 2, 1) := by decide +kernel
theorem dX12_fault_2 : decode cX12_fault 2 = .ok (.iconst 0, 1) := by decide +kernel
theorem dX12_fault_3 : decode cX12_fault 3 = .ok (.istore_n 3, 1) := by decide +kernel
theorem dX12_fault_4 : decode cX12_fault 4 = .ok (.iconst 0, 1) := by decide +kernel
theorem dX12_fault_5 : decode cX12_fault 5 = .ok (.istore 4, 2) := by decide +kernel
theorem dX12_fault_7 : decode cX12_fault 7 = .ok (.iload 4, 2) := by decide +kernel
theorem dX12_fault_9 : decode cX12_fault 9 = .ok (.iload_n 1, 1) := by decide +kernel
theorem dX12_fault_10 : decode cX12_fault 10 = .ok (.if_icmp .ge 96, 3) := by decide +kernel
theorem dX12_fault_13 : decode cX12_fault 13 = .ok (.aload_n 0, 1) := by decide +kernel
theorem dX12_fault_14 : decode cX12_fault 14 = .ok (.iload 4, 2) := by decide +kernel
theorem dX12_fault_16 : decode cX12_fault 16 = .ok (.iaload, 1) := by decide +kernel
theorem dX12_fault_17 : decode cX12_fault 17 = .ok (.istore 5, 2) := by decide +kernel
theorem dX12_fault_19 : decode cX12_fault 19 = .ok (.iload_n 3, 1) := by decide +kernel
theorem dX12_fault_20 : decode cX12_fault 20 = .ok (.ifCond .eq 36, 3) := by decide +kernel
theorem dX12_fault_23 : decode cX12_fault 23 = .ok (.iload 5, 2) := by decide +kernel
theorem dX12_fault_25 : decode cX12_fault 25 = .ok (.bipush 41, 2) := by decide +kernel
theorem dX12_fault_27 : decode cX12_fault 27 = .ok (.if_icmp .ne 13, 3) := by decide +kernel
theorem dX12_fault_30 : decode cX12_fault 30 = .ok (.iload_n 2, 1) := by decide +kernel
theorem dX12_fault_31 : decode cX12_fault 31 = .ok (.ifCond .le 9, 3) := by decide +kernel
theorem dX12_fault_34 : decode cX12_fault 34 = .ok (.iinc 2 (-1), 3) := by decide +kernel
theorem dX12_fault_37 : decode cX12_fault 37 = .ok (.goto 63, 3) := by decide +kernel
theorem dX12_fault_40 : decode cX12_fault 40 = .ok (.iload 5, 2) := by decide +kernel
theorem dX12_fault_42 : decode cX12_fault 42 = .ok (.invokestatic 100, 3) := by decide +kernel
theorem dX12_fault_45 : decode cX12_fault 45 = .ok (.ifCond .le 8, 3) := by decide +kernel
theorem dX12_fault_48 : decode cX12_fault 48 = .ok (.iconst 0, 1) := by decide +kernel
theorem dX12_fault_49 : decode cX12_fault 49 = .ok (.istore_n 3, 1) := by decide +kernel
theorem dX12_fault_50 : decode cX12_fault 50 = .ok (.goto 50, 3) := by decide +kernel
theorem dX12_fault_53 : decode cX12_fault 53 = .ok (.iload 4, 2) := by decide +kernel
theorem dX12_fault_55 : decode cX12_fault 55 = .ok (.ireturn, 1) := by decide +kernel
theorem dX12_fault_56 : decode cX12_fault 56 = .ok (.iload 5, 2) := by decide +kernel
theorem dX12_fault_58 : decode cX12_fault 58 = .ok (.invokestatic 103, 3) := by decide +kernel
theorem dX12_fault_61 : decode cX12_fault 61 = .ok (.ifCond .eq 8, 3) := by decide +kernel
theorem dX12_fault_64 : decode cX12_fault 64 = .ok (.iconst 1, 1) := by decide +kernel
theorem dX12_fault_65 : decode cX12_fault 65 = .ok (.istore_n 3, 1) := by decide +kernel
theorem dX12_fault_66 : decode cX12_fault 66 = .ok (.goto 34, 3) := by decide +kernel
theorem dX12_fault_69 : decode cX12_fault 69 = .ok (.iload 5, 2) := by decide +kernel
theorem dX12_fault_71 : decode cX12_fault 71 = .ok (.bipush 40, 2) := by decide +kernel
theorem dX12_fault_73 : decode cX12_fault 73 = .ok (.if_icmp .ne 17, 3) := by decide +kernel
theorem dX12_fault_76 : decode cX12_fault 76 = .ok (.iload_n 2, 1) := by decide +kernel
theorem dX12_fault_77 : decode cX12_fault 77 = .ok (.iconst 4, 1) := by decide +kernel
theorem dX12_fault_78 : decode cX12_fault 78 = .ok (.if_icmp .ne 6, 3) := by decide +kernel
theorem dX12_fault_81 : decode cX12_fault 81 = .ok (.iload 4, 2) := by decide +kernel
theorem dX12_fault_83 : decode cX12_fault 83 = .ok (.ireturn, 1) := by decide +kernel
theorem dX12_fault_84 : decode cX12_fault 84 = .ok (.iinc 2 1, 3) := by decide +kernel
theorem dX12_fault_87 : decode cX12_fault 87 = .ok (.goto 13, 3) := by decide +kernel
theorem dX12_fault_90 : decode cX12_fault 90 = .ok (.iload 5, 2) := by decide +kernel
theorem dX12_fault_92 : decode cX12_fault 92 = .ok (.bipush 33, 2) := by decide +kernel
theorem dX12_fault_94 : decode cX12_fault 94 = .ok (.if_icmp .eq 6, 3) := by decide +kernel
theorem dX12_fault_97 : decode cX12_fault 97 = .ok (.iload 4, 2) := by decide +kernel
theorem dX12_fault_99 : decode cX12_fault 99 = .ok (.ireturn, 1) := by decide +kernel
theorem dX12_fault_100 : decode cX12_fault 100 = .ok (.iinc 4 1, 3) := by decide +kernel
theorem dX12_fault_103 : decode cX12_fault 103 = .ok (.goto (-96), 3) := by decide +kernel
theorem dX12_fault_106 : decode cX12_fault 106 = .ok (.iload_n 3, 1) := by decide +kernel
theorem dX12_fault_107 : decode cX12_fault 107 = .ok (.ifCond .eq 12, 3) := by decide +kernel
theorem dX12_fault_110 : decode cX12_fault 110 = .ok (.iload_n 2, 1) := by decide +kernel
theorem dX12_fault_111 : decode cX12_fault 111 = .ok (.ifCond .ne 8, 3) := by decide +kernel
theorem dX12_fault_114 : decode cX12_fault 114 = .ok (.bipush (-9), 2) := by decide +kernel
theorem dX12_fault_116 : decode cX12_fault 116 = .ok (.goto 4, 3) := by decide +kernel
theorem dX12_fault_119 : decode cX12_fault 119 = .ok (.iload_n 1, 1) := by decide +kernel
theorem dX12_fault_120 : decode cX12_fault 120 = .ok (.ireturn, 1) := by decide +kernel
theorem dX12_read_0 : decode cX12_read 0 = .ok (.aload_n 0, 1) := by decide +kernel
theorem dX12_read_1 : decode cX12_read 1 = .ok (.getfield 16, 3) := by decide +kernel
theorem dX12_read_4 : decode cX12_read 4 = .ok (.aload_n 0, 1) := by decide +kernel
theorem dX12_read_5 : decode cX12_read 5 = .ok (.getfield 95, 3) := by decide +kernel
theorem dX12_read_8 : decode cX12_read 8 = .ok (.invokestatic 107, 3) := by decide +kernel
theorem dX12_read_11 : decode cX12_read 11 = .ok (.istore_n 1, 1) := by decide +kernel
theorem dX12_read_12 : decode cX12_read 12 = .ok (.aload_n 0, 1) := by decide +kernel
theorem dX12_read_13 : decode cX12_read 13 = .ok (.getfield 95, 3) := by decide +kernel
theorem dX12_read_16 : decode cX12_read 16 = .ok (.istore_n 2, 1) := by decide +kernel
theorem dX12_read_17 : decode cX12_read 17 = .ok (.aload_n 0, 1) := by decide +kernel
theorem dX12_read_18 : decode cX12_read 18 = .ok (.iconst 0, 1) := by decide +kernel
theorem dX12_read_19 : decode cX12_read 19 = .ok (.putfield 95, 3) := by decide +kernel
theorem dX12_read_22 : decode cX12_read 22 = .ok (.iload_n 1, 1) := by decide +kernel
theorem dX12_read_23 : decode cX12_read 23 = .ok (.ifCond .lt 8, 3) := by decide +kernel
theorem dX12_read_26 : decode cX12_read 26 = .ok (.bipush (-20), 2) := by decide +kernel
theorem dX12_read_28 : decode cX12_read 28 = .ok (.iload_n 1, 1) := by decide +kernel
theorem dX12_read_29 : decode cX12_read 29 = .ok (.isub, 1) := by decide +kernel
theorem dX12_read_30 : decode cX12_read 30 = .ok (.ireturn, 1) := by decide +kernel
theorem dX12_read_31 : decode cX12_read 31 = .ok (.iconst 0, 1) := by decide +kernel
theorem dX12_read_32 : decode cX12_read 32 = .ok (.istore_n 3, 1) := by decide +kernel
theorem dX12_read_33 : decode cX12_read 33 = .ok (.iload_n 3, 1) := by decide +kernel
theorem dX12_read_34 : decode cX12_read 34 = .ok (.iload_n 2, 1) := by decide +kernel
theorem dX12_read_35 : decode cX12_read 35 = .ok (.if_icmp .ge 21, 3) := by decide +kernel
theorem dX12_read_38 : decode cX12_read 38 = .ok (.aload_n 0, 1) := by decide +kernel
theorem dX12_read_39 : decode cX12_read 39 = .ok (.getfield 13, 3) := by decide +kernel
theorem dX12_read_42 : decode cX12_read 42 = .ok (.iload_n 3, 1) := by decide +kernel
theorem dX12_read_43 : decode cX12_read 43 = .ok (.aload_n 0, 1) := by decide +kernel
theorem dX12_read_44 : decode cX12_read 44 = .ok (.getfield 16, 3) := by decide +kernel
theorem dX12_read_47 : decode cX12_read 47 = .ok (.iload_n 3, 1) := by decide +kernel
theorem dX12_read_48 : decode cX12_read 48 = .ok (.iaload, 1) := by decide +kernel
theorem dX12_read_49 : decode cX12_read 49 = .ok (.iastore, 1) := by decide +kernel
theorem dX12_read_50 : decode cX12_read 50 = .ok (.iinc 3 1, 3) := by decide +kernel
theorem dX12_read_53 : decode cX12_read 53 = .ok (.goto (-20), 3) := by decide +kernel
theorem dX12_read_56 : decode cX12_read 56 = .ok (.aload_n 0, 1) := by decide +kernel
theorem dX12_read_57 : decode cX12_read 57 = .ok (.iload_n 2, 1) := by decide +kernel
theorem dX12_read_58 : decode cX12_read 58 = .ok (.putfield 85, 3) := by decide +kernel
theorem dX12_read_61 : decode cX12_read 61 = .ok (.aload_n 0, 1) := by decide +kernel
theorem dX12_read_62 : decode cX12_read 62 = .ok (.invokevirtual 88, 3) := by decide +kernel
theorem dX12_read_65 : decode cX12_read 65 = .ok (.aload_n 0, 1) := by decide +kernel
theorem dX12_read_66 : decode cX12_read 66 = .ok (.getfield 85, 3) := by decide +kernel
theorem dX12_read_69 : decode cX12_read 69 = .ok (.ireturn, 1) := by decide +kernel
theorem dX12_wordAt_0 : decode cX12_wordAt 0 = .ok (.iload_n 1, 1) := by decide +kernel
theorem dX12_wordAt_1 : decode cX12_wordAt 1 = .ok (.aload_n 0, 1) := by decide +kernel
theorem dX12_wordAt_2 : decode cX12_wordAt 2 = .ok (.getfield 85, 3) := by decide +kernel
theorem dX12_wordAt_5 : decode cX12_wordAt 5 = .ok (.invokestatic 111, 3) := by decide +kernel
theorem dX12_wordAt_8 : decode cX12_wordAt 8 = .ok (.ifCond .eq 12, 3) := by decide +kernel
theorem dX12_wordAt_11 : decode cX12_wordAt 11 = .ok (.aload_n 0, 1) := by decide +kernel
theorem dX12_wordAt_12 : decode cX12_wordAt 12 = .ok (.getfield 13, 3) := by decide +kernel
theorem dX12_wordAt_15 : decode cX12_wordAt 15 = .ok (.iload_n 1, 1) := by decide +kernel
theorem dX12_wordAt_16 : decode cX12_wordAt 16 = .ok (.iaload, 1) := by decide +kernel
theorem dX12_wordAt_17 : decode cX12_wordAt 17 = .ok (.goto 5, 3) := by decide +kernel
theorem dX12_wordAt_20 : decode cX12_wordAt 20 = .ok (.bipush (-9), 2) := by decide +kernel
theorem dX12_wordAt_22 : decode cX12_wordAt 22 = .ok (.ireturn, 1) := by decide +kernel
theorem dX12_waysOf_0 : decode cX12_waysOf 0 = .ok (.aload_n 0, 1) := by decide +kernel
theorem dX12_waysOf_1 : decode cX12_waysOf 1 = .ok (.getfield 40, 3) := by decide +kernel
theorem dX12_waysOf_4 : decode cX12_waysOf 4 = .ok (.bipush 22, 2) := by decide +kernel
theorem dX12_waysOf_6 : decode cX12_waysOf 6 = .ok (.iload_n 1, 1) := by decide +kernel
theorem dX12_waysOf_7 : decode cX12_waysOf 7 = .ok (.imul, 1) := by decide +kernel
theorem dX12_waysOf_8 : decode cX12_waysOf 8 = .ok (.iload_n 2, 1) := by decide +kernel
theorem dX12_waysOf_9 : decode cX12_waysOf 9 = .ok (.iadd, 1) := by decide +kernel
theorem dX12_waysOf_10 : decode cX12_waysOf 10 = .ok (.laload, 1) := by decide +kernel
theorem dX12_waysOf_11 : decode cX12_waysOf 11 = .ok (.lreturn, 1) := by decide +kernel
theorem dX12_isBracketed_0 : decode cX12_isBracketed 0 = .ok (.aload_n 0, 1) := by decide +kernel
theorem dX12_isBracketed_1 : decode cX12_isBracketed 1 = .ok (.getfield 13, 3) := by decide +kernel
theorem dX12_isBracketed_4 : decode cX12_isBracketed 4 = .ok (.iload_n 1, 1) := by decide +kernel
theorem dX12_isBracketed_5 : decode cX12_isBracketed 5 = .ok (.iaload, 1) := by decide +kernel
theorem dX12_isBracketed_6 : decode cX12_isBracketed 6 = .ok (.bipush 40, 2) := by decide +kernel
theorem dX12_isBracketed_8 : decode cX12_isBracketed 8 = .ok (.if_icmp .ne 27, 3) := by decide +kernel
theorem dX12_isBracketed_11 : decode cX12_isBracketed 11 = .ok (.aload_n 0, 1) := by decide +kernel
theorem dX12_isBracketed_12 : decode cX12_isBracketed 12 = .ok (.getfield 13, 3) := by decide +kernel
theorem dX12_isBracketed_15 : decode cX12_isBracketed 15 = .ok (.iload_n 2, 1) := by decide +kernel
theorem dX12_isBracketed_16 : decode cX12_isBracketed 16 = .ok (.iconst 1, 1) := by decide +kernel
theorem dX12_isBracketed_17 : decode cX12_isBracketed 17 = .ok (.isub, 1) := by decide +kernel
theorem dX12_isBracketed_18 : decode cX12_isBracketed 18 = .ok (.iaload, 1) := by decide +kernel
theorem dX12_isBracketed_19 : decode cX12_isBracketed 19 = .ok (.bipush 41, 2) := by decide +kernel
theorem dX12_isBracketed_21 : decode cX12_isBracketed 21 = .ok (.if_icmp .ne 14, 3) := by decide +kernel
theorem dX12_isBracketed_24 : decode cX12_isBracketed 24 = .ok (.iload_n 2, 1) := by decide +kernel
theorem dX12_isBracketed_25 : decode cX12_isBracketed 25 = .ok (.iload_n 1, 1) := by decide +kernel
theorem dX12_isBracketed_26 : decode cX12_isBracketed 26 = .ok (.isub, 1) := by decide +kernel
theorem dX12_isBracketed_27 : decode cX12_isBracketed 27 = .ok (.iconst 2, 1) := by decide +kernel
theorem dX12_isBracketed_28 : decode cX12_isBracketed 28 = .ok (.if_icmp .le 7, 3) := by decide +kernel
theorem dX12_isBracketed_31 : decode cX12_isBracketed 31 = .ok (.iconst 1, 1) := by decide +kernel
theorem dX12_isBracketed_32 : decode cX12_isBracketed 32 = .ok (.goto 4, 3) := by decide +kernel
theorem dX12_isBracketed_35 : decode cX12_isBracketed 35 = .ok (.iconst 0, 1) := by decide +kernel
theorem dX12_isBracketed_36 : decode cX12_isBracketed 36 = .ok (.ireturn, 1) := by decide +kernel
theorem dX12_firstWays_0 : decode cX12_firstWays 0 = .ok (.iload_n 2, 1) := by decide +kernel
theorem dX12_firstWays_1 : decode cX12_firstWays 1 = .ok (.iload_n 1, 1) := by decide +kernel
theorem dX12_firstWays_2 : decode cX12_firstWays 2 = .ok (.isub, 1) := by decide +kernel
theorem dX12_firstWays_3 : decode cX12_firstWays 3 = .ok (.iconst 1, 1) := by decide +kernel
theorem dX12_firstWays_4 : decode cX12_firstWays 4 = .ok (.if_icmp .ne 21, 3) := by decide +kernel
theorem dX12_firstWays_7 : decode cX12_firstWays 7 = .ok (.aload_n 0, 1) := by decide +kernel
theorem dX12_firstWays_8 : decode cX12_firstWays 8 = .ok (.getfield 13, 3) := by decide +kernel
theorem dX12_firstWays_11 : decode cX12_firstWays 11 = .ok (.iload_n 1, 1) := by decide +kernel
theorem dX12_firstWays_12 : decode cX12_firstWays 12 = .ok (.iaload, 1) := by decide +kernel
theorem dX12_firstWays_13 : decode cX12_firstWays 13 = .ok (.invokestatic 103, 3) := by decide +kernel
theorem dX12_firstWays_16 : decode cX12_firstWays 16 = .ok (.ifCond .eq 7, 3) := by decide +kernel
theorem dX12_firstWays_19 : decode cX12_firstWays 19 = .ok (.lconst 1, 1) := by decide +kernel
theorem dX12_firstWays_20 : decode cX12_firstWays 20 = .ok (.goto 4, 3) := by decide +kernel
theorem dX12_firstWays_23 : decode cX12_firstWays 23 = .ok (.lconst 0, 1) := by decide +kernel
theorem dX12_firstWays_24 : decode cX12_firstWays 24 = .ok (.lreturn, 1) := by decide +kernel
theorem dX12_firstWays_25 : decode cX12_firstWays 25 = .ok (.aload_n 0, 1) := by decide +kernel
theorem dX12_firstWays_26 : decode cX12_firstWays 26 = .ok (.getfield 13, 3) := by decide +kernel
theorem dX12_firstWays_29 : decode cX12_firstWays 29 = .ok (.iload_n 1, 1) := by decide +kernel
theorem dX12_firstWays_30 : decode cX12_firstWays 30 = .ok (.iaload, 1) := by decide +kernel
theorem dX12_firstWays_31 : decode cX12_firstWays 31 = .ok (.bipush 33, 2) := by decide +kernel
theorem dX12_firstWays_33 : decode cX12_firstWays 33 = .ok (.if_icmp .ne 12, 3) := by decide +kernel
theorem dX12_firstWays_36 : decode cX12_firstWays 36 = .ok (.aload_n 0, 1) := by decide +kernel
theorem dX12_firstWays_37 : decode cX12_firstWays 37 = .ok (.iload_n 1, 1) := by decide +kernel
theorem dX12_firstWays_38 : decode cX12_firstWays 38 = .ok (.iconst 1, 1) := by decide +kernel
theorem dX12_firstWays_39 : decode cX12_firstWays 39 = .ok (.iadd, 1) := by decide +kernel
theorem dX12_firstWays_40 : decode cX12_firstWays 40 = .ok (.iload_n 2, 1) := by decide +kernel
theorem dX12_firstWays_41 : decode cX12_firstWays 41 = .ok (.invokevirtual 115, 3) := by decide +kernel
theorem dX12_firstWays_44 : decode cX12_firstWays 44 = .ok (.lreturn, 1) := by decide +kernel
theorem dX12_firstWays_45 : decode cX12_firstWays 45 = .ok (.aload_n 0, 1) := by decide +kernel
theorem dX12_firstWays_46 : decode cX12_firstWays 46 = .ok (.iload_n 1, 1) := by decide +kernel
theorem dX12_firstWays_47 : decode cX12_firstWays 47 = .ok (.iload_n 2, 1) := by decide +kernel
theorem dX12_firstWays_48 : decode cX12_firstWays 48 = .ok (.invokevirtual 119, 3) := by decide +kernel
theorem dX12_firstWays_51 : decode cX12_firstWays 51 = .ok (.ifCond .eq 16, 3) := by decide +kernel
theorem dX12_firstWays_54 : decode cX12_firstWays 54 = .ok (.aload_n 0, 1) := by decide +kernel
theorem dX12_firstWays_55 : decode cX12_firstWays 55 = .ok (.iload_n 1, 1) := by decide +kernel
theorem dX12_firstWays_56 : decode cX12_firstWays 56 = .ok (.iconst 1, 1) := by decide +kernel
theorem dX12_firstWays_57 : decode cX12_firstWays 57 = .ok (.iadd, 1) := by decide +kernel
theorem dX12_firstWays_58 : decode cX12_firstWays 58 = .ok (.iload_n 2, 1) := by decide +kernel
theorem dX12_firstWays_59 : decode cX12_firstWays 59 = .ok (.iconst 1, 1) := by decide +kernel
theorem dX12_firstWays_60 : decode cX12_firstWays 60 = .ok (.isub, 1) := by decide +kernel
theorem dX12_firstWays_61 : decode cX12_firstWays 61 = .ok (.invokevirtual 115, 3) := by decide +kernel
theorem dX12_firstWays_64 : decode cX12_firstWays 64 = .ok (.goto 4, 3) := by decide +kernel
theorem dX12_firstWays_67 : decode cX12_firstWays 67 = .ok (.lconst 0, 1) := by decide +kernel
theorem dX12_firstWays_68 : decode cX12_firstWays 68 = .ok (.lreturn, 1) := by decide +kernel
theorem dX12_findWays_0 : decode cX12_findWays 0 = .ok (.iconst 1, 1) := by decide +kernel
theorem dX12_findWays_1 : decode cX12_findWays 1 = .ok (.istore_n 1, 1) := by decide +kernel
end
section
theorem dX12_findWays_2 : decode cX12_findWays 2 = .ok (.iload_n 1, 1) := by decide +kernel
theorem dX12_findWays_3 : decode cX12_findWays 3 = .ok (.aload_n 0, 1) := by decide +kernel
theorem dX12_findWays_4 : decode cX12_findWays 4 = .ok (.getfield 85, 3) := by decide +kernel
theorem dX12_findWays_7 : decode cX12_findWays 7 = .ok (.if_icmp .gt 106, 3) := by decide +kernel
theorem dX12_findWays_10 : decode cX12_findWays 10 = .ok (.iconst 0, 1) := by decide +kernel
theorem dX12_findWays_11 : decode cX12_findWays 11 = .ok (.istore_n 2, 1) := by decide +kernel
theorem dX12_findWays_12 : decode cX12_findWays 12 = .ok (.iload_n 2, 1) := by decide +kernel
theorem dX12_findWays_13 : decode cX12_findWays 13 = .ok (.iload_n 1, 1) := by decide +kernel
theorem dX12_findWays_14 : decode cX12_findWays 14 = .ok (.iadd, 1) := by decide +kernel
theorem dX12_findWays_15 : decode cX12_findWays 15 = .ok (.aload_n 0, 1) := by decide +kernel
theorem dX12_findWays_16 : decode cX12_findWays 16 = .ok (.getfield 85, 3) := by decide +kernel
theorem dX12_findWays_19 : decode cX12_findWays 19 = .ok (.if_icmp .gt 88, 3) := by decide +kernel
theorem dX12_findWays_22 : decode cX12_findWays 22 = .ok (.iload_n 2, 1) := by decide +kernel
theorem dX12_findWays_23 : decode cX12_findWays 23 = .ok (.iload_n 1, 1) := by decide +kernel
theorem dX12_findWays_24 : decode cX12_findWays 24 = .ok (.iadd, 1) := by decide +kernel
theorem dX12_findWays_25 : decode cX12_findWays 25 = .ok (.istore_n 3, 1) := by decide +kernel
theorem dX12_findWays_26 : decode cX12_findWays 26 = .ok (.aload_n 0, 1) := by decide +kernel
theorem dX12_findWays_27 : decode cX12_findWays 27 = .ok (.iload_n 2, 1) := by decide +kernel
theorem dX12_findWays_28 : decode cX12_findWays 28 = .ok (.iload_n 3, 1) := by decide +kernel
theorem dX12_findWays_29 : decode cX12_findWays 29 = .ok (.invokevirtual 122, 3) := by decide +kernel
theorem dX12_findWays_32 : decode cX12_findWays 32 = .ok (.lstore 4, 2) := by decide +kernel
theorem dX12_findWays_34 : decode cX12_findWays 34 = .ok (.iload_n 2, 1) := by decide +kernel
theorem dX12_findWays_35 : decode cX12_findWays 35 = .ok (.iconst 1, 1) := by decide +kernel
theorem dX12_findWays_36 : decode cX12_findWays 36 = .ok (.iadd, 1) := by decide +kernel
theorem dX12_findWays_37 : decode cX12_findWays 37 = .ok (.istore 6, 2) := by decide +kernel
theorem dX12_findWays_39 : decode cX12_findWays 39 = .ok (.iload 6, 2) := by decide +kernel
theorem dX12_findWays_41 : decode cX12_findWays 41 = .ok (.iload_n 3, 1) := by decide +kernel
theorem dX12_findWays_42 : decode cX12_findWays 42 = .ok (.iconst 1, 1) := by decide +kernel
theorem dX12_findWays_43 : decode cX12_findWays 43 = .ok (.isub, 1) := by decide +kernel
theorem dX12_findWays_44 : decode cX12_findWays 44 = .ok (.if_icmp .ge 44, 3) := by decide +kernel
theorem dX12_findWays_47 : decode cX12_findWays 47 = .ok (.aload_n 0, 1) := by decide +kernel
theorem dX12_findWays_48 : decode cX12_findWays 48 = .ok (.getfield 13, 3) := by decide +kernel
theorem dX12_findWays_51 : decode cX12_findWays 51 = .ok (.iload 6, 2) := by decide +kernel
theorem dX12_findWays_53 : decode cX12_findWays 53 = .ok (.iaload, 1) := by decide +kernel
theorem dX12_findWays_54 : decode cX12_findWays 54 = .ok (.invokestatic 100, 3) := by decide +kernel
theorem dX12_findWays_57 : decode cX12_findWays 57 = .ok (.ifCond .le 25, 3) := by decide +kernel
theorem dX12_findWays_60 : decode cX12_findWays 60 = .ok (.lload 4, 2) := by decide +kernel
theorem dX12_findWays_62 : decode cX12_findWays 62 = .ok (.aload_n 0, 1) := by decide +kernel
theorem dX12_findWays_63 : decode cX12_findWays 63 = .ok (.iload_n 2, 1) := by decide +kernel
theorem dX12_findWays_64 : decode cX12_findWays 64 = .ok (.iload 6, 2) := by decide +kernel
theorem dX12_findWays_66 : decode cX12_findWays 66 = .ok (.invokevirtual 115, 3) := by decide +kernel
theorem dX12_findWays_69 : decode cX12_findWays 69 = .ok (.aload_n 0, 1) := by decide +kernel
theorem dX12_findWays_70 : decode cX12_findWays 70 = .ok (.iload 6, 2) := by decide +kernel
theorem dX12_findWays_72 : decode cX12_findWays 72 = .ok (.iconst 1, 1) := by decide +kernel
theorem dX12_findWays_73 : decode cX12_findWays 73 = .ok (.iadd, 1) := by decide +kernel
theorem dX12_findWays_74 : decode cX12_findWays 74 = .ok (.iload_n 3, 1) := by decide +kernel
theorem dX12_findWays_75 : decode cX12_findWays 75 = .ok (.invokevirtual 115, 3) := by decide +kernel
theorem dX12_findWays_78 : decode cX12_findWays 78 = .ok (.lmul, 1) := by decide +kernel
theorem dX12_findWays_79 : decode cX12_findWays 79 = .ok (.ladd, 1) := by decide +kernel
theorem dX12_findWays_80 : decode cX12_findWays 80 = .ok (.lstore 4, 2) := by decide +kernel
theorem dX12_findWays_82 : decode cX12_findWays 82 = .ok (.iinc 6 1, 3) := by decide +kernel
theorem dX12_findWays_85 : decode cX12_findWays 85 = .ok (.goto (-46), 3) := by decide +kernel
theorem dX12_findWays_88 : decode cX12_findWays 88 = .ok (.aload_n 0, 1) := by decide +kernel
theorem dX12_findWays_89 : decode cX12_findWays 89 = .ok (.getfield 40, 3) := by decide +kernel
theorem dX12_findWays_92 : decode cX12_findWays 92 = .ok (.bipush 22, 2) := by decide +kernel
theorem dX12_findWays_94 : decode cX12_findWays 94 = .ok (.iload_n 2, 1) := by decide +kernel
theorem dX12_findWays_95 : decode cX12_findWays 95 = .ok (.imul, 1) := by decide +kernel
theorem dX12_findWays_96 : decode cX12_findWays 96 = .ok (.iload_n 3, 1) := by decide +kernel
theorem dX12_findWays_97 : decode cX12_findWays 97 = .ok (.iadd, 1) := by decide +kernel
theorem dX12_findWays_98 : decode cX12_findWays 98 = .ok (.lload 4, 2) := by decide +kernel
theorem dX12_findWays_100 : decode cX12_findWays 100 = .ok (.lastore, 1) := by decide +kernel
theorem dX12_findWays_101 : decode cX12_findWays 101 = .ok (.iinc 2 1, 3) := by decide +kernel
theorem dX12_findWays_104 : decode cX12_findWays 104 = .ok (.goto (-92), 3) := by decide +kernel
theorem dX12_findWays_107 : decode cX12_findWays 107 = .ok (.iinc 1 1, 3) := by decide +kernel
theorem dX12_findWays_110 : decode cX12_findWays 110 = .ok (.goto (-108), 3) := by decide +kernel
theorem dX12_findWays_113 : decode cX12_findWays 113 = .ok (.return_, 1) := by decide +kernel
theorem dX12_readings_0 : decode cX12_readings 0 = .ok (.aload_n 0, 1) := by decide +kernel
theorem dX12_readings_1 : decode cX12_readings 1 = .ok (.iconst 0, 1) := by decide +kernel
theorem dX12_readings_2 : decode cX12_readings 2 = .ok (.aload_n 0, 1) := by decide +kernel
theorem dX12_readings_3 : decode cX12_readings 3 = .ok (.getfield 85, 3) := by decide +kernel
theorem dX12_readings_6 : decode cX12_readings 6 = .ok (.invokevirtual 115, 3) := by decide +kernel
theorem dX12_readings_9 : decode cX12_readings 9 = .ok (.lreturn, 1) := by decide +kernel
theorem dX12_mask_0 : decode cX12_mask 0 = .ok (.lconst 0, 1) := by decide +kernel
theorem dX12_mask_1 : decode cX12_mask 1 = .ok (.lstore_n 1, 1) := by decide +kernel
theorem dX12_mask_2 : decode cX12_mask 2 = .ok (.iconst 0, 1) := by decide +kernel
theorem dX12_mask_3 : decode cX12_mask 3 = .ok (.istore_n 3, 1) := by decide +kernel
theorem dX12_mask_4 : decode cX12_mask 4 = .ok (.iload_n 3, 1) := by decide +kernel
theorem dX12_mask_5 : decode cX12_mask 5 = .ok (.bipush 32, 2) := by decide +kernel
theorem dX12_mask_7 : decode cX12_mask 7 = .ok (.if_icmp .ge 28, 3) := by decide +kernel
theorem dX12_mask_10 : decode cX12_mask 10 = .ok (.lload_n 1, 1) := by decide +kernel
theorem dX12_mask_11 : decode cX12_mask 11 = .ok (.iload_n 3, 1) := by decide +kernel
theorem dX12_mask_12 : decode cX12_mask 12 = .ok (.iload_n 0, 1) := by decide +kernel
theorem dX12_mask_13 : decode cX12_mask 13 = .ok (.ishr, 1) := by decide +kernel
theorem dX12_mask_14 : decode cX12_mask 14 = .ok (.iconst 1, 1) := by decide +kernel
theorem dX12_mask_15 : decode cX12_mask 15 = .ok (.iand, 1) := by decide +kernel
theorem dX12_mask_16 : decode cX12_mask 16 = .ok (.iconst 1, 1) := by decide +kernel
theorem dX12_mask_17 : decode cX12_mask 17 = .ok (.if_icmp .ne 9, 3) := by decide +kernel
theorem dX12_mask_20 : decode cX12_mask 20 = .ok (.lconst 1, 1) := by decide +kernel
theorem dX12_mask_21 : decode cX12_mask 21 = .ok (.iload_n 3, 1) := by decide +kernel
theorem dX12_mask_22 : decode cX12_mask 22 = .ok (.lshl, 1) := by decide +kernel
theorem dX12_mask_23 : decode cX12_mask 23 = .ok (.goto 4, 3) := by decide +kernel
theorem dX12_mask_26 : decode cX12_mask 26 = .ok (.lconst 0, 1) := by decide +kernel
theorem dX12_mask_27 : decode cX12_mask 27 = .ok (.lor, 1) := by decide +kernel
theorem dX12_mask_28 : decode cX12_mask 28 = .ok (.lstore_n 1, 1) := by decide +kernel
theorem dX12_mask_29 : decode cX12_mask 29 = .ok (.iinc 3 1, 3) := by decide +kernel
theorem dX12_mask_32 : decode cX12_mask 32 = .ok (.goto (-28), 3) := by decide +kernel
theorem dX12_mask_35 : decode cX12_mask 35 = .ok (.lload_n 1, 1) := by decide +kernel
theorem dX12_mask_36 : decode cX12_mask 36 = .ok (.lreturn, 1) := by decide +kernel
theorem dX12_notes_0 : decode cX12_notes 0 = .ok (.aload_n 0, 1) := by decide +kernel
theorem dX12_notes_1 : decode cX12_notes 1 = .ok (.getfield 125, 3) := by decide +kernel
theorem dX12_notes_4 : decode cX12_notes 4 = .ok (.ifCond .ne 4, 3) := by decide +kernel
theorem dX12_notes_7 : decode cX12_notes 7 = .ok (.return_, 1) := by decide +kernel
theorem dX12_notes_8 : decode cX12_notes 8 = .ok (.bipush 21, 2) := by decide +kernel
theorem dX12_notes_10 : decode cX12_notes 10 = .ok (.aload_n 0, 1) := by decide +kernel
theorem dX12_notes_11 : decode cX12_notes 11 = .ok (.getfield 129, 3) := by decide +kernel
theorem dX12_notes_14 : decode cX12_notes 14 = .ok (.imul, 1) := by decide +kernel
theorem dX12_notes_15 : decode cX12_notes 15 = .ok (.aload_n 0, 1) := by decide +kernel
theorem dX12_notes_16 : decode cX12_notes 16 = .ok (.getfield 53, 3) := by decide +kernel
theorem dX12_notes_19 : decode cX12_notes 19 = .ok (.aload_n 0, 1) := by decide +kernel
theorem dX12_notes_20 : decode cX12_notes 20 = .ok (.getfield 129, 3) := by decide +kernel
theorem dX12_notes_23 : decode cX12_notes 23 = .ok (.iaload, 1) := by decide +kernel
theorem dX12_notes_24 : decode cX12_notes 24 = .ok (.iadd, 1) := by decide +kernel
theorem dX12_notes_25 : decode cX12_notes 25 = .ok (.istore 4, 2) := by decide +kernel
theorem dX12_notes_27 : decode cX12_notes 27 = .ok (.aload_n 0, 1) := by decide +kernel
theorem dX12_notes_28 : decode cX12_notes 28 = .ok (.getfield 44, 3) := by decide +kernel
theorem dX12_notes_31 : decode cX12_notes 31 = .ok (.iload 4, 2) := by decide +kernel
theorem dX12_notes_33 : decode cX12_notes 33 = .ok (.iload_n 1, 1) := by decide +kernel
theorem dX12_notes_34 : decode cX12_notes 34 = .ok (.iastore, 1) := by decide +kernel
theorem dX12_notes_35 : decode cX12_notes 35 = .ok (.aload_n 0, 1) := by decide +kernel
theorem dX12_notes_36 : decode cX12_notes 36 = .ok (.getfield 47, 3) := by decide +kernel
theorem dX12_notes_39 : decode cX12_notes 39 = .ok (.iload 4, 2) := by decide +kernel
theorem dX12_notes_41 : decode cX12_notes 41 = .ok (.iload_n 2, 1) := by decide +kernel
theorem dX12_notes_42 : decode cX12_notes 42 = .ok (.iastore, 1) := by decide +kernel
theorem dX12_notes_43 : decode cX12_notes 43 = .ok (.aload_n 0, 1) := by decide +kernel
theorem dX12_notes_44 : decode cX12_notes 44 = .ok (.getfield 50, 3) := by decide +kernel
theorem dX12_notes_47 : decode cX12_notes 47 = .ok (.iload 4, 2) := by decide +kernel
theorem dX12_notes_49 : decode cX12_notes 49 = .ok (.iload_n 3, 1) := by decide +kernel
theorem dX12_notes_50 : decode cX12_notes 50 = .ok (.iload_n 2, 1) := by decide +kernel
theorem dX12_notes_51 : decode cX12_notes 51 = .ok (.isub, 1) := by decide +kernel
theorem dX12_notes_52 : decode cX12_notes 52 = .ok (.iastore, 1) := by decide +kernel
theorem dX12_notes_53 : decode cX12_notes 53 = .ok (.aload_n 0, 1) := by decide +kernel
theorem dX12_notes_54 : decode cX12_notes 54 = .ok (.getfield 53, 3) := by decide +kernel
theorem dX12_notes_57 : decode cX12_notes 57 = .ok (.aload_n 0, 1) := by decide +kernel
theorem dX12_notes_58 : decode cX12_notes 58 = .ok (.getfield 129, 3) := by decide +kernel
theorem dX12_notes_61 : decode cX12_notes 61 = .ok (.dup2, 1) := by decide +kernel
theorem dX12_notes_62 : decode cX12_notes 62 = .ok (.iaload, 1) := by decide +kernel
theorem dX12_notes_63 : decode cX12_notes 63 = .ok (.iconst 1, 1) := by decide +kernel
theorem dX12_notes_64 : decode cX12_notes 64 = .ok (.iadd, 1) := by decide +kernel
theorem dX12_notes_65 : decode cX12_notes 65 = .ok (.iastore, 1) := by decide +kernel
theorem dX12_notes_66 : decode cX12_notes 66 = .ok (.return_, 1) := by decide +kernel
theorem dX12_breaks_0 : decode cX12_breaks 0 = .ok (.aload_n 0, 1) := by decide +kernel
theorem dX12_breaks_1 : decode cX12_breaks 1 = .ok (.dup, 1) := by decide +kernel
theorem dX12_breaks_2 : decode cX12_breaks 2 = .ok (.getfield 132, 3) := by decide +kernel
theorem dX12_breaks_5 : decode cX12_breaks 5 = .ok (.iload_n 1, 1) := by decide +kernel
theorem dX12_breaks_6 : decode cX12_breaks 6 = .ok (.ifCond .eq 9, 3) := by decide +kernel
theorem dX12_breaks_9 : decode cX12_breaks 9 = .ok (.iconst 1, 1) := by decide +kernel
theorem dX12_breaks_10 : decode cX12_breaks 10 = .ok (.iload_n 2, 1) := by decide +kernel
theorem dX12_breaks_11 : decode cX12_breaks 11 = .ok (.ishl, 1) := by decide +kernel
theorem dX12_breaks_12 : decode cX12_breaks 12 = .ok (.goto 4, 3) := by decide +kernel
theorem dX12_breaks_15 : decode cX12_breaks 15 = .ok (.iconst 0, 1) := by decide +kernel
theorem dX12_breaks_16 : decode cX12_breaks 16 = .ok (.ior, 1) := by decide +kernel
theorem dX12_breaks_17 : decode cX12_breaks 17 = .ok (.putfield 132, 3) := by decide +kernel
theorem dX12_breaks_20 : decode cX12_breaks 20 = .ok (.return_, 1) := by decide +kernel
theorem dX12_meansRun_0 : decode cX12_meansRun 0 = .ok (.aload_n 0, 1) := by decide +kernel
theorem dX12_meansRun_1 : decode cX12_meansRun 1 = .ok (.iload_n 1, 1) := by decide +kernel
theorem dX12_meansRun_2 : decode cX12_meansRun 2 = .ok (.iload_n 2, 1) := by decide +kernel
theorem dX12_meansRun_3 : decode cX12_meansRun 3 = .ok (.invokevirtual 122, 3) := by decide +kernel
theorem dX12_meansRun_6 : decode cX12_meansRun 6 = .ok (.lstore 9, 2) := by decide +kernel
theorem dX12_meansRun_8 : decode cX12_meansRun 8 = .ok (.lload_n 3, 1) := by decide +kernel
theorem dX12_meansRun_9 : decode cX12_meansRun 9 = .ok (.lload 9, 2) := by decide +kernel
theorem dX12_meansRun_11 : decode cX12_meansRun 11 = .ok (.lcmp, 1) := by decide +kernel
theorem dX12_meansRun_12 : decode cX12_meansRun 12 = .ok (.ifCond .ge 141, 3) := by decide +kernel
theorem dX12_meansRun_15 : decode cX12_meansRun 15 = .ok (.iload_n 2, 1) := by decide +kernel
theorem dX12_meansRun_16 : decode cX12_meansRun 16 = .ok (.iload_n 1, 1) := by decide +kernel
theorem dX12_meansRun_17 : decode cX12_meansRun 17 = .ok (.isub, 1) := by decide +kernel
theorem dX12_meansRun_18 : decode cX12_meansRun 18 = .ok (.iconst 1, 1) := by decide +kernel
theorem dX12_meansRun_19 : decode cX12_meansRun 19 = .ok (.if_icmp .ne 50, 3) := by decide +kernel
theorem dX12_meansRun_22 : decode cX12_meansRun 22 = .ok (.aload_n 0, 1) := by decide +kernel
theorem dX12_meansRun_23 : decode cX12_meansRun 23 = .ok (.iconst 0, 1) := by decide +kernel
theorem dX12_meansRun_24 : decode cX12_meansRun 24 = .ok (.iload_n 1, 1) := by decide +kernel
theorem dX12_meansRun_25 : decode cX12_meansRun 25 = .ok (.iload_n 2, 1) := by decide +kernel
theorem dX12_meansRun_26 : decode cX12_meansRun 26 = .ok (.invokevirtual 135, 3) := by decide +kernel
theorem dX12_meansRun_29 : decode cX12_meansRun 29 = .ok (.iload_n 1, 1) := by decide +kernel
theorem dX12_meansRun_30 : decode cX12_meansRun 30 = .ok (.aload_n 0, 1) := by decide +kernel
theorem dX12_meansRun_31 : decode cX12_meansRun 31 = .ok (.getfield 65, 3) := by decide +kernel
theorem dX12_meansRun_34 : decode cX12_meansRun 34 = .ok (.if_icmp .ne 20, 3) := by decide +kernel
theorem dX12_meansRun_37 : decode cX12_meansRun 37 = .ok (.aload_n 0, 1) := by decide +kernel
theorem dX12_meansRun_38 : decode cX12_meansRun 38 = .ok (.getfield 139, 3) := by decide +kernel
theorem dX12_meansRun_41 : decode cX12_meansRun 41 = .ok (.ifCond .eq 9, 3) := by decide +kernel
theorem dX12_meansRun_44 : decode cX12_meansRun 44 = .ok (.ldc2_w 142, 3) := by decide +kernel
theorem dX12_meansRun_47 : decode cX12_meansRun 47 = .ok (.goto 21, 3) := by decide +kernel
theorem dX12_meansRun_50 : decode cX12_meansRun 50 = .ok (.lconst 0, 1) := by decide +kernel
theorem dX12_meansRun_51 : decode cX12_meansRun 51 = .ok (.goto 17, 3) := by decide +kernel
theorem dX12_meansRun_54 : decode cX12_meansRun 54 = .ok (.aload_n 0, 1) := by decide +kernel
theorem dX12_meansRun_55 : decode cX12_meansRun 55 = .ok (.getfield 69, 3) := by decide +kernel
theorem dX12_meansRun_58 : decode cX12_meansRun 58 = .ok (.aload_n 0, 1) := by decide +kernel
theorem dX12_meansRun_59 : decode cX12_meansRun 59 = .ok (.getfield 13, 3) := by decide +kernel
theorem dX12_meansRun_62 : decode cX12_meansRun 62 = .ok (.iload_n 1, 1) := by decide +kernel
theorem dX12_meansRun_63 : decode cX12_meansRun 63 = .ok (.iaload, 1) := by decide +kernel
theorem dX12_meansRun_64 : decode cX12_meansRun 64 = .ok (.bipush 97, 2) := by decide +kernel
theorem dX12_meansRun_66 : decode cX12_meansRun 66 = .ok (.isub, 1) := by decide +kernel
theorem dX12_meansRun_67 : decode cX12_meansRun 67 = .ok (.laload, 1) := by decide +kernel
theorem dX12_meansRun_68 : decode cX12_meansRun 68 = .ok (.lreturn, 1) := by decide +kernel
theorem dX12_meansRun_69 : decode cX12_meansRun 69 = .ok (.aload_n 0, 1) := by decide +kernel
theorem dX12_meansRun_70 : decode cX12_meansRun 70 = .ok (.getfield 13, 3) := by decide +kernel
theorem dX12_meansRun_73 : decode cX12_meansRun 73 = .ok (.iload_n 1, 1) := by decide +kernel
theorem dX12_meansRun_74 : decode cX12_meansRun 74 = .ok (.iaload, 1) := by decide +kernel
theorem dX12_meansRun_75 : decode cX12_meansRun 75 = .ok (.bipush 33, 2) := by decide +kernel
theorem dX12_meansRun_77 : decode cX12_meansRun 77 = .ok (.if_icmp .ne 51, 3) := by decide +kernel
theorem dX12_meansRun_80 : decode cX12_meansRun 80 = .ok (.aload_n 0, 1) := by decide +kernel
theorem dX12_meansRun_81 : decode cX12_meansRun 81 = .ok (.iconst 1, 1) := by decide +kernel
theorem dX12_meansRun_82 : decode cX12_meansRun 82 = .ok (.iload_n 1, 1) := by decide +kernel
theorem dX12_meansRun_83 : decode cX12_meansRun 83 = .ok (.iload_n 2, 1) := by decide +kernel
theorem dX12_meansRun_84 : decode cX12_meansRun 84 = .ok (.invokevirtual 135, 3) := by decide +kernel
theorem dX12_meansRun_87 : decode cX12_meansRun 87 = .ok (.aload_n 0, 1) := by decide +kernel
theorem dX12_meansRun_88 : decode cX12_meansRun 88 = .ok (.iload_n 2, 1) := by decide +kernel
theorem dX12_meansRun_89 : decode cX12_meansRun 89 = .ok (.iload 8, 2) := by decide +kernel
theorem dX12_meansRun_91 : decode cX12_meansRun 91 = .ok (.if_icmp .eq 7, 3) := by decide +kernel
theorem dX12_meansRun_94 : decode cX12_meansRun 94 = .ok (.iconst 1, 1) := by decide +kernel
theorem dX12_meansRun_95 : decode cX12_meansRun 95 = .ok (.goto 4, 3) := by decide +kernel
theorem dX12_meansRun_98 : decode cX12_meansRun 98 = .ok (.iconst 0, 1) := by decide +kernel
theorem dX12_meansRun_99 : decode cX12_meansRun 99 = .ok (.iconst 1, 1) := by decide +kernel
theorem dX12_meansRun_100 : decode cX12_meansRun 100 = .ok (.invokevirtual 144, 3) := by decide +kernel
theorem dX12_meansRun_103 : decode cX12_meansRun 103 = .ok (.aload_n 0, 1) := by decide +kernel
theorem dX12_meansRun_104 : decode cX12_meansRun 104 = .ok (.iload_n 1, 1) := by decide +kernel
theorem dX12_meansRun_105 : decode cX12_meansRun 105 = .ok (.iconst 1, 1) := by decide +kernel
theorem dX12_meansRun_106 : decode cX12_meansRun 106 = .ok (.iadd, 1) := by decide +kernel
theorem dX12_meansRun_107 : decode cX12_meansRun 107 = .ok (.iload_n 2, 1) := by decide +kernel
theorem dX12_meansRun_108 : decode cX12_meansRun 108 = .ok (.lload_n 3, 1) := by decide +kernel
theorem dX12_meansRun_109 : decode cX12_meansRun 109 = .ok (.iload 5, 2) := by decide +kernel
theorem dX12_meansRun_111 : decode cX12_meansRun 111 = .ok (.iload 6, 2) := by decide +kernel
theorem dX12_meansRun_113 : decode cX12_meansRun 113 = .ok (.iconst 1, 1) := by decide +kernel
theorem dX12_meansRun_114 : decode cX12_meansRun 114 = .ok (.iload 8, 2) := by decide +kernel
theorem dX12_meansRun_116 : decode cX12_meansRun 116 = .ok (.invokevirtual 148, 3) := by decide +kernel
theorem dX12_meansRun_119 : decode cX12_meansRun 119 = .ok (.ldc2_w 152, 3) := by decide +kernel
theorem dX12_meansRun_122 : decode cX12_meansRun 122 = .ok (.lxor, 1) := by decide +kernel
theorem dX12_meansRun_123 : decode cX12_meansRun 123 = .ok (.ldc2_w 142, 3) := by decide +kernel
theorem dX12_meansRun_126 : decode cX12_meansRun 126 = .ok (.land, 1) := by decide +kernel
theorem dX12_meansRun_127 : decode cX12_meansRun 127 = .ok (.lreturn, 1) := by decide +kernel
theorem dX12_meansRun_128 : decode cX12_meansRun 128 = .ok (.aload_n 0, 1) := by decide +kernel
theorem dX12_meansRun_129 : decode cX12_meansRun 129 = .ok (.iconst 2, 1) := by decide +kernel
theorem dX12_meansRun_130 : decode cX12_meansRun 130 = .ok (.iload_n 1, 1) := by decide +kernel
theorem dX12_meansRun_131 : decode cX12_meansRun 131 = .ok (.iload_n 2, 1) := by decide +kernel
theorem dX12_meansRun_132 : decode cX12_meansRun 132 = .ok (.invokevirtual 135, 3) := by decide +kernel
theorem dX12_meansRun_135 : decode cX12_meansRun 135 = .ok (.aload_n 0, 1) := by decide +kernel
theorem dX12_meansRun_136 : decode cX12_meansRun 136 = .ok (.iload_n 1, 1) := by decide +kernel
theorem dX12_meansRun_137 : decode cX12_meansRun 137 = .ok (.iconst 1, 1) := by decide +kernel
theorem dX12_meansRun_138 : decode cX12_meansRun 138 = .ok (.iadd, 1) := by decide +kernel
theorem dX12_meansRun_139 : decode cX12_meansRun 139 = .ok (.iload_n 2, 1) := by decide +kernel
theorem dX12_meansRun_140 : decode cX12_meansRun 140 = .ok (.iconst 1, 1) := by decide +kernel
theorem dX12_meansRun_141 : decode cX12_meansRun 141 = .ok (.isub, 1) := by decide +kernel
theorem dX12_meansRun_142 : decode cX12_meansRun 142 = .ok (.lload_n 3, 1) := by decide +kernel
theorem dX12_meansRun_143 : decode cX12_meansRun 143 = .ok (.iconst 0, 1) := by decide +kernel
theorem dX12_meansRun_144 : decode cX12_meansRun 144 = .ok (.iconst 0, 1) := by decide +kernel
theorem dX12_meansRun_145 : decode cX12_meansRun 145 = .ok (.iconst 0, 1) := by decide +kernel
theorem dX12_meansRun_146 : decode cX12_meansRun 146 = .ok (.iload_n 2, 1) := by decide +kernel
theorem dX12_meansRun_147 : decode cX12_meansRun 147 = .ok (.iconst 1, 1) := by decide +kernel
theorem dX12_meansRun_148 : decode cX12_meansRun 148 = .ok (.isub, 1) := by decide +kernel
theorem dX12_meansRun_149 : decode cX12_meansRun 149 = .ok (.invokevirtual 148, 3) := by decide +kernel
theorem dX12_meansRun_152 : decode cX12_meansRun 152 = .ok (.lreturn, 1) := by decide +kernel
theorem dX12_meansRun_153 : decode cX12_meansRun 153 = .ok (.lload_n 3, 1) := by decide +kernel
theorem dX12_meansRun_154 : decode cX12_meansRun 154 = .ok (.lload 9, 2) := by decide +kernel
theorem dX12_meansRun_156 : decode cX12_meansRun 156 = .ok (.lsub, 1) := by decide +kernel
theorem dX12_meansRun_157 : decode cX12_meansRun 157 = .ok (.lstore 11, 2) := by decide +kernel
theorem dX12_meansRun_159 : decode cX12_meansRun 159 = .ok (.iload_n 1, 1) := by decide +kernel
theorem dX12_meansRun_160 : decode cX12_meansRun 160 = .ok (.iconst 1, 1) := by decide +kernel
theorem dX12_meansRun_161 : decode cX12_meansRun 161 = .ok (.iadd, 1) := by decide +kernel
theorem dX12_meansRun_162 : decode cX12_meansRun 162 = .ok (.istore 13, 2) := by decide +kernel
theorem dX12_meansRun_164 : decode cX12_meansRun 164 = .ok (.aload_n 0, 1) := by decide +kernel
theorem dX12_meansRun_165 : decode cX12_meansRun 165 = .ok (.getfield 13, 3) := by decide +kernel
theorem dX12_meansRun_168 : decode cX12_meansRun 168 = .ok (.iload 13, 2) := by decide +kernel
theorem dX12_meansRun_170 : decode cX12_meansRun 170 = .ok (.iaload, 1) := by decide +kernel
theorem dX12_meansRun_171 : decode cX12_meansRun 171 = .ok (.invokestatic 100, 3) := by decide +kernel
theorem dX12_meansRun_174 : decode cX12_meansRun 174 = .ok (.ifCond .lt 26, 3) := by decide +kernel
theorem dX12_meansRun_177 : decode cX12_meansRun 177 = .ok (.lload 11, 2) := by decide +kernel
theorem dX12_meansRun_179 : decode cX12_meansRun 179 = .ok (.aload_n 0, 1) := by decide +kernel
theorem dX12_meansRun_180 : decode cX12_meansRun 180 = .ok (.iload_n 1, 1) := by decide +kernel
theorem dX12_meansRun_181 : decode cX12_meansRun 181 = .ok (.iload 13, 2) := by decide +kernel
theorem dX12_meansRun_183 : decode cX12_meansRun 183 = .ok (.invokevirtual 115, 3) := by decide +kernel
theorem dX12_meansRun_186 : decode cX12_meansRun 186 = .ok (.aload_n 0, 1) := by decide +kernel
theorem dX12_meansRun_187 : decode cX12_meansRun 187 = .ok (.iload 13, 2) := by decide +kernel
theorem dX12_meansRun_189 : decode cX12_meansRun 189 = .ok (.iconst 1, 1) := by decide +kernel
theorem dX12_meansRun_190 : decode cX12_meansRun 190 = .ok (.iadd, 1) := by decide +kernel
theorem dX12_meansRun_191 : decode cX12_meansRun 191 = .ok (.iload_n 2, 1) := by decide +kernel
theorem dX12_meansRun_192 : decode cX12_meansRun 192 = .ok (.invokevirtual 115, 3) := by decide +kernel
theorem dX12_meansRun_195 : decode cX12_meansRun 195 = .ok (.lmul, 1) := by decide +kernel
theorem dX12_meansRun_196 : decode cX12_meansRun 196 = .ok (.lcmp, 1) := by decide +kernel
theorem dX12_meansRun_197 : decode cX12_meansRun 197 = .ok (.ifCond .lt 48, 3) := by decide +kernel
theorem dX12_meansRun_200 : decode cX12_meansRun 200 = .ok (.lload 11, 2) := by decide +kernel
theorem dX12_meansRun_202 : decode cX12_meansRun 202 = .ok (.aload_n 0, 1) := by decide +kernel
theorem dX12_meansRun_203 : decode cX12_meansRun 203 = .ok (.getfield 13, 3) := by decide +kernel
theorem dX12_meansRun_206 : decode cX12_meansRun 206 = .ok (.iload 13, 2) := by decide +kernel
theorem dX12_meansRun_208 : decode cX12_meansRun 208 = .ok (.iaload, 1) := by decide +kernel
theorem dX12_meansRun_209 : decode cX12_meansRun 209 = .ok (.invokestatic 100, 3) := by decide +kernel
theorem dX12_meansRun_212 : decode cX12_meansRun 212 = .ok (.ifCond .ge 7, 3) := by decide +kernel
theorem dX12_meansRun_215 : decode cX12_meansRun 215 = .ok (.lconst 0, 1) := by decide +kernel
theorem dX12_meansRun_216 : decode cX12_meansRun 216 = .ok (.goto 20, 3) := by decide +kernel
theorem dX12_meansRun_219 : decode cX12_meansRun 219 = .ok (.aload_n 0, 1) := by decide +kernel
theorem dX12_meansRun_220 : decode cX12_meansRun 220 = .ok (.iload_n 1, 1) := by decide +kernel
theorem dX12_meansRun_221 : decode cX12_meansRun 221 = .ok (.iload 13, 2) := by decide +kernel
theorem dX12_meansRun_223 : decode cX12_meansRun 223 = .ok (.invokevirtual 115, 3) := by decide +kernel
theorem dX12_meansRun_226 : decode cX12_meansRun 226 = .ok (.aload_n 0, 1) := by decide +kernel
theorem dX12_meansRun_227 : decode cX12_meansRun 227 = .ok (.iload 13, 2) := by decide +kernel
theorem dX12_meansRun_229 : decode cX12_meansRun 229 = .ok (.iconst 1, 1) := by decide +kernel
theorem dX12_meansRun_230 : decode cX12_meansRun 230 = .ok (.iadd, 1) := by decide +kernel
theorem dX12_meansRun_231 : decode cX12_meansRun 231 = .ok (.iload_n 2, 1) := by decide +kernel
theorem dX12_meansRun_232 : decode cX12_meansRun 232 = .ok (.invokevirtual 115, 3) := by decide +kernel
theorem dX12_meansRun_235 : decode cX12_meansRun 235 = .ok (.lmul, 1) := by decide +kernel
theorem dX12_meansRun_236 : decode cX12_meansRun 236 = .ok (.lsub, 1) := by decide +kernel
theorem dX12_meansRun_237 : decode cX12_meansRun 237 = .ok (.lstore 11, 2) := by decide +kernel
theorem dX12_meansRun_239 : decode cX12_meansRun 239 = .ok (.iinc 13 1, 3) := by decide +kernel
theorem dX12_meansRun_242 : decode cX12_meansRun 242 = .ok (.goto (-78), 3) := by decide +kernel
theorem dX12_meansRun_245 : decode cX12_meansRun 245 = .ok (.aload_n 0, 1) := by decide +kernel
theorem dX12_meansRun_246 : decode cX12_meansRun 246 = .ok (.getfield 13, 3) := by decide +kernel
theorem dX12_meansRun_249 : decode cX12_meansRun 249 = .ok (.iload 13, 2) := by decide +kernel
theorem dX12_meansRun_251 : decode cX12_meansRun 251 = .ok (.iaload, 1) := by decide +kernel
theorem dX12_meansRun_252 : decode cX12_meansRun 252 = .ok (.invokestatic 100, 3) := by decide +kernel
theorem dX12_meansRun_255 : decode cX12_meansRun 255 = .ok (.istore 14, 2) := by decide +kernel
theorem dX12_meansRun_257 : decode cX12_meansRun 257 = .ok (.aload_n 0, 1) := by decide +kernel
theorem dX12_meansRun_258 : decode cX12_meansRun 258 = .ok (.iload 14, 2) := by decide +kernel
theorem dX12_meansRun_260 : decode cX12_meansRun 260 = .ok (.iload_n 1, 1) := by decide +kernel
theorem dX12_meansRun_261 : decode cX12_meansRun 261 = .ok (.iload_n 2, 1) := by decide +kernel
theorem dX12_meansRun_262 : decode cX12_meansRun 262 = .ok (.invokevirtual 135, 3) := by decide +kernel
theorem dX12_meansRun_265 : decode cX12_meansRun 265 = .ok (.aload_n 0, 1) := by decide +kernel
theorem dX12_meansRun_266 : decode cX12_meansRun 266 = .ok (.iload 7, 2) := by decide +kernel
theorem dX12_meansRun_268 : decode cX12_meansRun 268 = .ok (.iconst 0, 1) := by decide +kernel
theorem dX12_meansRun_269 : decode cX12_meansRun 269 = .ok (.invokevirtual 144, 3) := by decide +kernel
theorem dX12_meansRun_272 : decode cX12_meansRun 272 = .ok (.aload_n 0, 1) := by decide +kernel
theorem dX12_meansRun_273 : decode cX12_meansRun 273 = .ok (.iload 5, 2) := by decide +kernel
theorem dX12_meansRun_275 : decode cX12_meansRun 275 = .ok (.iconst 2, 1) := by decide +kernel
theorem dX12_meansRun_276 : decode cX12_meansRun 276 = .ok (.invokevirtual 144, 3) := by decide +kernel
theorem dX12_meansRun_279 : decode cX12_meansRun 279 = .ok (.aload_n 0, 1) := by decide +kernel
theorem dX12_meansRun_280 : decode cX12_meansRun 280 = .ok (.iload 6, 2) := by decide +kernel
theorem dX12_meansRun_282 : decode cX12_meansRun 282 = .ok (.ifCond .eq 13, 3) := by decide +kernel
theorem dX12_meansRun_285 : decode cX12_meansRun 285 = .ok (.iload 14, 2) := by decide +kernel
theorem dX12_meansRun_287 : decode cX12_meansRun 287 = .ok (.iconst 3, 1) := by decide +kernel
theorem dX12_meansRun_288 : decode cX12_meansRun 288 = .ok (.if_icmp .eq 7, 3) := by decide +kernel
theorem dX12_meansRun_291 : decode cX12_meansRun 291 = .ok (.iconst 1, 1) := by decide +kernel
theorem dX12_meansRun_292 : decode cX12_meansRun 292 = .ok (.goto 4, 3) := by decide +kernel
theorem dX12_meansRun_295 : decode cX12_meansRun 295 = .ok (.iconst 0, 1) := by decide +kernel
theorem dX12_meansRun_296 : decode cX12_meansRun 296 = .ok (.iconst 3, 1) := by decide +kernel
theorem dX12_meansRun_297 : decode cX12_meansRun 297 = .ok (.invokevirtual 144, 3) := by decide +kernel
theorem dX12_meansRun_300 : decode cX12_meansRun 300 = .ok (.aload_n 0, 1) := by decide +kernel
theorem dX12_meansRun_301 : decode cX12_meansRun 301 = .ok (.iload 13, 2) := by decide +kernel
theorem dX12_meansRun_303 : decode cX12_meansRun 303 = .ok (.iconst 1, 1) := by decide +kernel
theorem dX12_meansRun_304 : decode cX12_meansRun 304 = .ok (.iadd, 1) := by decide +kernel
theorem dX12_meansRun_305 : decode cX12_meansRun 305 = .ok (.iload_n 2, 1) := by decide +kernel
theorem dX12_meansRun_306 : decode cX12_meansRun 306 = .ok (.invokevirtual 115, 3) := by decide +kernel
theorem dX12_meansRun_309 : decode cX12_meansRun 309 = .ok (.lstore 15, 2) := by decide +kernel
theorem dX12_meansRun_311 : decode cX12_meansRun 311 = .ok (.aload_n 0, 1) := by decide +kernel
theorem dX12_meansRun_312 : decode cX12_meansRun 312 = .ok (.iload_n 1, 1) := by decide +kernel
theorem dX12_meansRun_313 : decode cX12_meansRun 313 = .ok (.iload 13, 2) := by decide +kernel
theorem dX12_meansRun_315 : decode cX12_meansRun 315 = .ok (.lload 11, 2) := by decide +kernel
theorem dX12_meansRun_317 : decode cX12_meansRun 317 = .ok (.lload 15, 2) := by decide +kernel
theorem dX12_meansRun_319 : decode cX12_meansRun 319 = .ok (.ldiv, 1) := by decide +kernel
theorem dX12_meansRun_320 : decode cX12_meansRun 320 = .ok (.iload 5, 2) := by decide +kernel
theorem dX12_meansRun_322 : decode cX12_meansRun 322 = .ok (.iload 6, 2) := by decide +kernel
theorem dX12_meansRun_324 : decode cX12_meansRun 324 = .ok (.ifCond .ne 9, 3) := by decide +kernel
theorem dX12_meansRun_327 : decode cX12_meansRun 327 = .ok (.iload 14, 2) := by decide +kernel
theorem dX12_meansRun_329 : decode cX12_meansRun 329 = .ok (.iconst 3, 1) := by decide +kernel
theorem dX12_meansRun_330 : decode cX12_meansRun 330 = .ok (.if_icmp .ne 7, 3) := by decide +kernel
theorem dX12_meansRun_333 : decode cX12_meansRun 333 = .ok (.iconst 1, 1) := by decide +kernel
theorem dX12_meansRun_334 : decode cX12_meansRun 334 = .ok (.goto 4, 3) := by decide +kernel
theorem dX12_meansRun_337 : decode cX12_meansRun 337 = .ok (.iconst 0, 1) := by decide +kernel
theorem dX12_meansRun_338 : decode cX12_meansRun 338 = .ok (.iconst 0, 1) := by decide +kernel
theorem dX12_meansRun_339 : decode cX12_meansRun 339 = .ok (.iload 8, 2) := by decide +kernel
theorem dX12_meansRun_341 : decode cX12_meansRun 341 = .ok (.invokevirtual 148, 3) := by decide +kernel
theorem dX12_meansRun_344 : decode cX12_meansRun 344 = .ok (.lstore 17, 2) := by decide +kernel
theorem dX12_meansRun_346 : decode cX12_meansRun 346 = .ok (.aload_n 0, 1) := by decide +kernel
theorem dX12_meansRun_347 : decode cX12_meansRun 347 = .ok (.iload 13, 2) := by decide +kernel
theorem dX12_meansRun_349 : decode cX12_meansRun 349 = .ok (.iconst 1, 1) := by decide +kernel
theorem dX12_meansRun_350 : decode cX12_meansRun 350 = .ok (.iadd, 1) := by decide +kernel
theorem dX12_meansRun_351 : decode cX12_meansRun 351 = .ok (.iload_n 2, 1) := by decide +kernel
theorem dX12_meansRun_352 : decode cX12_meansRun 352 = .ok (.lload 11, 2) := by decide +kernel
theorem dX12_meansRun_354 : decode cX12_meansRun 354 = .ok (.lload 15, 2) := by decide +kernel
theorem dX12_meansRun_356 : decode cX12_meansRun 356 = .ok (.lrem, 1) := by decide +kernel
theorem dX12_meansRun_357 : decode cX12_meansRun 357 = .ok (.iconst 1, 1) := by decide +kernel
theorem dX12_meansRun_358 : decode cX12_meansRun 358 = .ok (.iload 6, 2) := by decide +kernel
theorem dX12_meansRun_360 : decode cX12_meansRun 360 = .ok (.ifCond .ne 9, 3) := by decide +kernel
theorem dX12_meansRun_363 : decode cX12_meansRun 363 = .ok (.iload 14, 2) := by decide +kernel
theorem dX12_meansRun_365 : decode cX12_meansRun 365 = .ok (.iconst 3, 1) := by decide +kernel
theorem dX12_meansRun_366 : decode cX12_meansRun 366 = .ok (.if_icmp .ne 7, 3) := by decide +kernel
theorem dX12_meansRun_369 : decode cX12_meansRun 369 = .ok (.iconst 1, 1) := by decide +kernel
theorem dX12_meansRun_370 : decode cX12_meansRun 370 = .ok (.goto 4, 3) := by decide +kernel
theorem dX12_meansRun_373 : decode cX12_meansRun 373 = .ok (.iconst 0, 1) := by decide +kernel
theorem dX12_meansRun_374 : decode cX12_meansRun 374 = .ok (.iconst 0, 1) := by decide +kernel
theorem dX12_meansRun_375 : decode cX12_meansRun 375 = .ok (.iload 8, 2) := by decide +kernel
theorem dX12_meansRun_377 : decode cX12_meansRun 377 = .ok (.invokevirtual 148, 3) := by decide +kernel
theorem dX12_meansRun_380 : decode cX12_meansRun 380 = .ok (.lstore 19, 2) := by decide +kernel
theorem dX12_meansRun_382 : decode cX12_meansRun 382 = .ok (.iload 14, 2) := by decide +kernel
theorem dX12_meansRun_384 : decode cX12_meansRun 384 = .ok (.iconst 3, 1) := by decide +kernel
theorem dX12_meansRun_385 : decode cX12_meansRun 385 = .ok (.if_icmp .ne 11, 3) := by decide +kernel
theorem dX12_meansRun_388 : decode cX12_meansRun 388 = .ok (.lload 17, 2) := by decide +kernel
theorem dX12_meansRun_390 : decode cX12_meansRun 390 = .ok (.lload 19, 2) := by decide +kernel
theorem dX12_meansRun_392 : decode cX12_meansRun 392 = .ok (.land, 1) := by decide +kernel
theorem dX12_meansRun_393 : decode cX12_meansRun 393 = .ok (.goto 52, 3) := by decide +kernel
theorem dX12_meansRun_396 : decode cX12_meansRun 396 = .ok (.iload 14, 2) := by decide +kernel
theorem dX12_meansRun_398 : decode cX12_meansRun 398 = .ok (.iconst 4, 1) := by decide +kernel
theorem dX12_meansRun_399 : decode cX12_meansRun 399 = .ok (.if_icmp .ne 11, 3) := by decide +kernel
theorem dX12_meansRun_402 : decode cX12_meansRun 402 = .ok (.lload 17, 2) := by decide +kernel
theorem dX12_meansRun_404 : decode cX12_meansRun 404 = .ok (.lload 19, 2) := by decide +kernel
theorem dX12_meansRun_406 : decode cX12_meansRun 406 = .ok (.lor, 1) := by decide +kernel
theorem dX12_meansRun_407 : decode cX12_meansRun 407 = .ok (.goto 38, 3) := by decide +kernel
theorem dX12_meansRun_410 : decode cX12_meansRun 410 = .ok (.iload 14, 2) := by decide +kernel
theorem dX12_meansRun_412 : decode cX12_meansRun 412 = .ok (.iconst 5, 1) := by decide +kernel
theorem dX12_meansRun_413 : decode cX12_meansRun 413 = .ok (.if_icmp .ne 19, 3) := by decide +kernel
theorem dX12_meansRun_416 : decode cX12_meansRun 416 = .ok (.lload 17, 2) := by decide +kernel
theorem dX12_meansRun_418 : decode cX12_meansRun 418 = .ok (.ldc2_w 152, 3) := by decide +kernel
theorem dX12_meansRun_421 : decode cX12_meansRun 421 = .ok (.lxor, 1) := by decide +kernel
theorem dX12_meansRun_422 : decode cX12_meansRun 422 = .ok (.ldc2_w 142, 3) := by decide +kernel
theorem dX12_meansRun_425 : decode cX12_meansRun 425 = .ok (.land, 1) := by decide +kernel
theorem dX12_meansRun_426 : decode cX12_meansRun 426 = .ok (.lload 19, 2) := by decide +kernel
theorem dX12_meansRun_428 : decode cX12_meansRun 428 = .ok (.lor, 1) := by decide +kernel
theorem dX12_meansRun_429 : decode cX12_meansRun 429 = .ok (.goto 16, 3) := by decide +kernel
theorem dX12_meansRun_432 : decode cX12_meansRun 432 = .ok (.lload 17, 2) := by decide +kernel
theorem dX12_meansRun_434 : decode cX12_meansRun 434 = .ok (.lload 19, 2) := by decide +kernel
theorem dX12_meansRun_436 : decode cX12_meansRun 436 = .ok (.ldc2_w 152, 3) := by decide +kernel
theorem dX12_meansRun_439 : decode cX12_meansRun 439 = .ok (.lxor, 1) := by decide +kernel
theorem dX12_meansRun_440 : decode cX12_meansRun 440 = .ok (.land, 1) := by decide +kernel
theorem dX12_meansRun_441 : decode cX12_meansRun 441 = .ok (.ldc2_w 142, 3) := by decide +kernel
theorem dX12_meansRun_444 : decode cX12_meansRun 444 = .ok (.land, 1) := by decide +kernel
theorem dX12_meansRun_445 : decode cX12_meansRun 445 = .ok (.lreturn, 1) := by decide +kernel
theorem dX12_meansNow_0 : decode cX12_meansNow 0 = .ok (.aload_n 0, 1) := by decide +kernel
theorem dX12_meansNow_1 : decode cX12_meansNow 1 = .ok (.iconst 0, 1) := by decide +kernel
theorem dX12_meansNow_2 : decode cX12_meansNow 2 = .ok (.aload_n 0, 1) := by decide +kernel
theorem dX12_meansNow_3 : decode cX12_meansNow 3 = .ok (.getfield 85, 3) := by decide +kernel
theorem dX12_meansNow_6 : decode cX12_meansNow 6 = .ok (.iload_n 1, 1) := by decide +kernel
theorem dX12_meansNow_7 : decode cX12_meansNow 7 = .ok (.i2l, 1) := by decide +kernel
theorem dX12_meansNow_8 : decode cX12_meansNow 8 = .ok (.iconst 0, 1) := by decide +kernel
theorem dX12_meansNow_9 : decode cX12_meansNow 9 = .ok (.iconst 0, 1) := by decide +kernel
theorem dX12_meansNow_10 : decode cX12_meansNow 10 = .ok (.iconst 0, 1) := by decide +kernel
theorem dX12_meansNow_11 : decode cX12_meansNow 11 = .ok (.aload_n 0, 1) := by decide +kernel
theorem dX12_meansNow_12 : decode cX12_meansNow 12 = .ok (.getfield 85, 3) := by decide +kernel
theorem dX12_meansNow_15 : decode cX12_meansNow 15 = .ok (.invokevirtual 148, 3) := by decide +kernel
theorem dX12_meansNow_18 : decode cX12_meansNow 18 = .ok (.lreturn, 1) := by decide +kernel
theorem dX12_idleIn_0 : decode cX12_idleIn 0 = .ok (.iconst 0, 1) := by decide +kernel
theorem dX12_idleIn_1 : decode cX12_idleIn 1 = .ok (.istore_n 2, 1) := by decide +kernel
theorem dX12_idleIn_2 : decode cX12_idleIn 2 = .ok (.iconst 0, 1) := by decide +kernel
theorem dX12_idleIn_3 : decode cX12_idleIn 3 = .ok (.istore_n 3, 1) := by decide +kernel
theorem dX12_idleIn_4 : decode cX12_idleIn 4 = .ok (.iload_n 3, 1) := by decide +kernel
theorem dX12_idleIn_5 : decode cX12_idleIn 5 = .ok (.aload_n 0, 1) := by decide +kernel
theorem dX12_idleIn_6 : decode cX12_idleIn 6 = .ok (.getfield 85, 3) := by decide +kernel
theorem dX12_idleIn_9 : decode cX12_idleIn 9 = .ok (.if_icmp .ge 67, 3) := by decide +kernel
theorem dX12_idleIn_12 : decode cX12_idleIn 12 = .ok (.aload_n 0, 1) := by decide +kernel
theorem dX12_idleIn_13 : decode cX12_idleIn 13 = .ok (.getfield 13, 3) := by decide +kernel
theorem dX12_idleIn_16 : decode cX12_idleIn 16 = .ok (.iload_n 3, 1) := by decide +kernel
theorem dX12_idleIn_17 : decode cX12_idleIn 17 = .ok (.iaload, 1) := by decide +kernel
theorem dX12_idleIn_18 : decode cX12_idleIn 18 = .ok (.invokestatic 103, 3) := by decide +kernel
theorem dX12_idleIn_21 : decode cX12_idleIn 21 = .ok (.ifCond .ne 6, 3) := by decide +kernel
theorem dX12_idleIn_24 : decode cX12_idleIn 24 = .ok (.goto 46, 3) := by decide +kernel
theorem dX12_idleIn_27 : decode cX12_idleIn 27 = .ok (.aload_n 0, 1) := by decide +kernel
theorem dX12_idleIn_28 : decode cX12_idleIn 28 = .ok (.iload_n 3, 1) := by decide +kernel
theorem dX12_idleIn_29 : decode cX12_idleIn 29 = .ok (.putfield 65, 3) := by decide +kernel
theorem dX12_idleIn_32 : decode cX12_idleIn 32 = .ok (.aload_n 0, 1) := by decide +kernel
theorem dX12_idleIn_33 : decode cX12_idleIn 33 = .ok (.iconst 1, 1) := by decide +kernel
theorem dX12_idleIn_34 : decode cX12_idleIn 34 = .ok (.putfield 139, 3) := by decide +kernel
theorem dX12_idleIn_37 : decode cX12_idleIn 37 = .ok (.aload_n 0, 1) := by decide +kernel
theorem dX12_idleIn_38 : decode cX12_idleIn 38 = .ok (.iload_n 1, 1) := by decide +kernel
theorem dX12_idleIn_39 : decode cX12_idleIn 39 = .ok (.invokevirtual 154, 3) := by decide +kernel
theorem dX12_idleIn_42 : decode cX12_idleIn 42 = .ok (.lstore 4, 2) := by decide +kernel
theorem dX12_idleIn_44 : decode cX12_idleIn 44 = .ok (.aload_n 0, 1) := by decide +kernel
theorem dX12_idleIn_45 : decode cX12_idleIn 45 = .ok (.iconst 0, 1) := by decide +kernel
theorem dX12_idleIn_46 : decode cX12_idleIn 46 = .ok (.putfield 139, 3) := by decide +kernel
theorem dX12_idleIn_49 : decode cX12_idleIn 49 = .ok (.iload_n 2, 1) := by decide +kernel
theorem dX12_idleIn_50 : decode cX12_idleIn 50 = .ok (.lload 4, 2) := by decide +kernel
theorem dX12_idleIn_52 : decode cX12_idleIn 52 = .ok (.aload_n 0, 1) := by decide +kernel
theorem dX12_idleIn_53 : decode cX12_idleIn 53 = .ok (.iload_n 1, 1) := by decide +kernel
theorem dX12_idleIn_54 : decode cX12_idleIn 54 = .ok (.invokevirtual 154, 3) := by decide +kernel
theorem dX12_idleIn_57 : decode cX12_idleIn 57 = .ok (.lcmp, 1) := by decide +kernel
theorem dX12_idleIn_58 : decode cX12_idleIn 58 = .ok (.ifCond .ne 9, 3) := by decide +kernel
theorem dX12_idleIn_61 : decode cX12_idleIn 61 = .ok (.iconst 1, 1) := by decide +kernel
theorem dX12_idleIn_62 : decode cX12_idleIn 62 = .ok (.iload_n 3, 1) := by decide +kernel
theorem dX12_idleIn_63 : decode cX12_idleIn 63 = .ok (.ishl, 1) := by decide +kernel
theorem dX12_idleIn_64 : decode cX12_idleIn 64 = .ok (.goto 4, 3) := by decide +kernel
theorem dX12_idleIn_67 : decode cX12_idleIn 67 = .ok (.iconst 0, 1) := by decide +kernel
theorem dX12_idleIn_68 : decode cX12_idleIn 68 = .ok (.ior, 1) := by decide +kernel
theorem dX12_idleIn_69 : decode cX12_idleIn 69 = .ok (.istore_n 2, 1) := by decide +kernel
theorem dX12_idleIn_70 : decode cX12_idleIn 70 = .ok (.iinc 3 1, 3) := by decide +kernel
theorem dX12_idleIn_73 : decode cX12_idleIn 73 = .ok (.goto (-69), 3) := by decide +kernel
theorem dX12_idleIn_76 : decode cX12_idleIn 76 = .ok (.aload_n 0, 1) := by decide +kernel
theorem dX12_idleIn_77 : decode cX12_idleIn 77 = .ok (.bipush (-9), 2) := by decide +kernel
theorem dX12_idleIn_79 : decode cX12_idleIn 79 = .ok (.putfield 65, 3) := by decide +kernel
theorem dX12_idleIn_82 : decode cX12_idleIn 82 = .ok (.iload_n 2, 1) := by decide +kernel
theorem dX12_idleIn_83 : decode cX12_idleIn 83 = .ok (.ireturn, 1) := by decide +kernel
theorem dX12_finds_0 : decode cX12_finds 0 = .ok (.iconst 0, 1) := by decide +kernel
theorem dX12_finds_1 : decode cX12_finds 1 = .ok (.istore_n 1, 1) := by decide +kernel
theorem dX12_finds_2 : decode cX12_finds 2 = .ok (.iload_n 1, 1) := by decide +kernel
theorem dX12_finds_3 : decode cX12_finds 3 = .ok (.iconst 5, 1) := by decide +kernel
theorem dX12_finds_4 : decode cX12_finds 4 = .ok (.if_icmp .ge 19, 3) := by decide +kernel
theorem dX12_finds_7 : decode cX12_finds 7 = .ok (.aload_n 0, 1) := by decide +kernel
theorem dX12_finds_8 : decode cX12_finds 8 = .ok (.getfield 69, 3) := by decide +kernel
theorem dX12_finds_11 : decode cX12_finds 11 = .ok (.iload_n 1, 1) := by decide +kernel
theorem dX12_finds_12 : decode cX12_finds 12 = .ok (.iload_n 1, 1) := by decide +kernel
theorem dX12_finds_13 : decode cX12_finds 13 = .ok (.invokestatic 158, 3) := by decide +kernel
theorem dX12_finds_16 : decode cX12_finds 16 = .ok (.lastore, 1) := by decide +kernel
theorem dX12_finds_17 : decode cX12_finds 17 = .ok (.iinc 1 1, 3) := by decide +kernel
theorem dX12_finds_20 : decode cX12_finds 20 = .ok (.goto (-18), 3) := by decide +kernel
theorem dX12_finds_23 : decode cX12_finds 23 = .ok (.aload_n 0, 1) := by decide +kernel
theorem dX12_finds_24 : decode cX12_finds 24 = .ok (.invokevirtual 161, 3) := by decide +kernel
theorem dX12_finds_27 : decode cX12_finds 27 = .ok (.aload_n 0, 1) := by decide +kernel
theorem dX12_finds_28 : decode cX12_finds 28 = .ok (.aload_n 0, 1) := by decide +kernel
theorem dX12_finds_29 : decode cX12_finds 29 = .ok (.invokevirtual 164, 3) := by decide +kernel
theorem dX12_finds_32 : decode cX12_finds 32 = .ok (.ldc2_w 168, 3) := by decide +kernel
theorem dX12_finds_35 : decode cX12_finds 35 = .ok (.lcmp, 1) := by decide +kernel
theorem dX12_finds_36 : decode cX12_finds 36 = .ok (.ifCond .gt 7, 3) := by decide +kernel
theorem dX12_finds_39 : decode cX12_finds 39 = .ok (.iconst 1, 1) := by decide +kernel
theorem dX12_finds_40 : decode cX12_finds 40 = .ok (.goto 4, 3) := by decide +kernel
theorem dX12_finds_43 : decode cX12_finds 43 = .ok (.iconst 0, 1) := by decide +kernel
theorem dX12_finds_44 : decode cX12_finds 44 = .ok (.putfield 170, 3) := by decide +kernel
theorem dX12_finds_47 : decode cX12_finds 47 = .ok (.aload_n 0, 1) := by decide +kernel
theorem dX12_finds_48 : decode cX12_finds 48 = .ok (.getfield 170, 3) := by decide +kernel
theorem dX12_finds_51 : decode cX12_finds 51 = .ok (.ifCond .ne 4, 3) := by decide +kernel
theorem dX12_finds_54 : decode cX12_finds 54 = .ok (.return_, 1) := by decide +kernel
theorem dX12_finds_55 : decode cX12_finds 55 = .ok (.aload_n 0, 1) := by decide +kernel
theorem dX12_finds_56 : decode cX12_finds 56 = .ok (.invokevirtual 164, 3) := by decide +kernel
theorem dX12_finds_59 : decode cX12_finds 59 = .ok (.l2i, 1) := by decide +kernel
theorem dX12_finds_60 : decode cX12_finds 60 = .ok (.istore_n 1, 1) := by decide +kernel
theorem dX12_finds_61 : decode cX12_finds 61 = .ok (.aload_n 0, 1) := by decide +kernel
theorem dX12_finds_62 : decode cX12_finds 62 = .ok (.iconst 0, 1) := by decide +kernel
theorem dX12_finds_63 : decode cX12_finds 63 = .ok (.putfield 129, 3) := by decide +kernel
theorem dX12_finds_66 : decode cX12_finds 66 = .ok (.aload_n 0, 1) := by decide +kernel
theorem dX12_finds_67 : decode cX12_finds 67 = .ok (.getfield 129, 3) := by decide +kernel
theorem dX12_finds_70 : decode cX12_finds 70 = .ok (.iload_n 1, 1) := by decide +kernel
theorem dX12_finds_71 : decode cX12_finds 71 = .ok (.if_icmp .ge 171, 3) := by decide +kernel
theorem dX12_finds_74 : decode cX12_finds 74 = .ok (.aload_n 0, 1) := by decide +kernel
theorem dX12_finds_75 : decode cX12_finds 75 = .ok (.getfield 53, 3) := by decide +kernel
theorem dX12_finds_78 : decode cX12_finds 78 = .ok (.aload_n 0, 1) := by decide +kernel
theorem dX12_finds_79 : decode cX12_finds 79 = .ok (.getfield 129, 3) := by decide +kernel
theorem dX12_finds_82 : decode cX12_finds 82 = .ok (.iconst 0, 1) := by decide +kernel
theorem dX12_finds_83 : decode cX12_finds 83 = .ok (.iastore, 1) := by decide +kernel
theorem dX12_finds_84 : decode cX12_finds 84 = .ok (.aload_n 0, 1) := by decide +kernel
theorem dX12_finds_85 : decode cX12_finds 85 = .ok (.iconst 0, 1) := by decide +kernel
theorem dX12_finds_86 : decode cX12_finds 86 = .ok (.putfield 132, 3) := by decide +kernel
theorem dX12_finds_89 : decode cX12_finds 89 = .ok (.aload_n 0, 1) := by decide +kernel
theorem dX12_finds_90 : decode cX12_finds 90 = .ok (.iconst 1, 1) := by decide +kernel
theorem dX12_finds_91 : decode cX12_finds 91 = .ok (.putfield 125, 3) := by decide +kernel
theorem dX12_finds_94 : decode cX12_finds 94 = .ok (.aload_n 0, 1) := by decide +kernel
theorem dX12_finds_95 : decode cX12_finds 95 = .ok (.getfield 62, 3) := by decide +kernel
theorem dX12_finds_98 : decode cX12_finds 98 = .ok (.aload_n 0, 1) := by decide +kernel
theorem dX12_finds_99 : decode cX12_finds 99 = .ok (.getfield 129, 3) := by decide +kernel
theorem dX12_finds_102 : decode cX12_finds 102 = .ok (.aload_n 0, 1) := by decide +kernel
theorem dX12_finds_103 : decode cX12_finds 103 = .ok (.aload_n 0, 1) := by decide +kernel
theorem dX12_finds_104 : decode cX12_finds 104 = .ok (.getfield 129, 3) := by decide +kernel
theorem dX12_finds_107 : decode cX12_finds 107 = .ok (.invokevirtual 154, 3) := by decide +kernel
theorem dX12_finds_110 : decode cX12_finds 110 = .ok (.lastore, 1) := by decide +kernel
theorem dX12_finds_111 : decode cX12_finds 111 = .ok (.aload_n 0, 1) := by decide +kernel
theorem dX12_finds_112 : decode cX12_finds 112 = .ok (.iconst 0, 1) := by decide +kernel
theorem dX12_finds_113 : decode cX12_finds 113 = .ok (.putfield 125, 3) := by decide +kernel
theorem dX12_finds_116 : decode cX12_finds 116 = .ok (.aload_n 0, 1) := by decide +kernel
theorem dX12_finds_117 : decode cX12_finds 117 = .ok (.getfield 56, 3) := by decide +kernel
theorem dX12_finds_120 : decode cX12_finds 120 = .ok (.aload_n 0, 1) := by decide +kernel
theorem dX12_finds_121 : decode cX12_finds 121 = .ok (.getfield 129, 3) := by decide +kernel
theorem dX12_finds_124 : decode cX12_finds 124 = .ok (.aload_n 0, 1) := by decide +kernel
theorem dX12_finds_125 : decode cX12_finds 125 = .ok (.getfield 132, 3) := by decide +kernel
theorem dX12_finds_128 : decode cX12_finds 128 = .ok (.iconst (-1), 1) := by decide +kernel
theorem dX12_finds_129 : decode cX12_finds 129 = .ok (.ixor, 1) := by decide +kernel
theorem dX12_finds_130 : decode cX12_finds 130 = .ok (.bipush 15, 2) := by decide +kernel
theorem dX12_finds_132 : decode cX12_finds 132 = .ok (.iand, 1) := by decide +kernel
theorem dX12_finds_133 : decode cX12_finds 133 = .ok (.iastore, 1) := by decide +kernel
theorem dX12_finds_134 : decode cX12_finds 134 = .ok (.aload_n 0, 1) := by decide +kernel
theorem dX12_finds_135 : decode cX12_finds 135 = .ok (.getfield 59, 3) := by decide +kernel
theorem dX12_finds_138 : decode cX12_finds 138 = .ok (.aload_n 0, 1) := by decide +kernel
theorem dX12_finds_139 : decode cX12_finds 139 = .ok (.getfield 129, 3) := by decide +kernel
theorem dX12_finds_142 : decode cX12_finds 142 = .ok (.aload_n 0, 1) := by decide +kernel
theorem dX12_finds_143 : decode cX12_finds 143 = .ok (.aload_n 0, 1) := by decide +kernel
theorem dX12_finds_144 : decode cX12_finds 144 = .ok (.getfield 129, 3) := by decide +kernel
theorem dX12_finds_147 : decode cX12_finds 147 = .ok (.invokevirtual 173, 3) := by decide +kernel
theorem dX12_finds_150 : decode cX12_finds 150 = .ok (.iastore, 1) := by decide +kernel
theorem dX12_finds_151 : decode cX12_finds 151 = .ok (.aload_n 0, 1) := by decide +kernel
theorem dX12_finds_152 : decode cX12_finds 152 = .ok (.getfield 56, 3) := by decide +kernel
theorem dX12_finds_155 : decode cX12_finds 155 = .ok (.aload_n 0, 1) := by decide +kernel
theorem dX12_finds_156 : decode cX12_finds 156 = .ok (.getfield 129, 3) := by decide +kernel
theorem dX12_finds_159 : decode cX12_finds 159 = .ok (.dup2, 1) := by decide +kernel
theorem dX12_finds_160 : decode cX12_finds 160 = .ok (.iaload, 1) := by decide +kernel
theorem dX12_finds_161 : decode cX12_finds 161 = .ok (.aload_n 0, 1) := by decide +kernel
theorem dX12_finds_162 : decode cX12_finds 162 = .ok (.getfield 59, 3) := by decide +kernel
theorem dX12_finds_165 : decode cX12_finds 165 = .ok (.aload_n 0, 1) := by decide +kernel
theorem dX12_finds_166 : decode cX12_finds 166 = .ok (.getfield 129, 3) := by decide +kernel
theorem dX12_finds_169 : decode cX12_finds 169 = .ok (.iaload, 1) := by decide +kernel
theorem dX12_finds_170 : decode cX12_finds 170 = .ok (.ifCond .ne 8, 3) := by decide +kernel
theorem dX12_finds_173 : decode cX12_finds 173 = .ok (.bipush 16, 2) := by decide +kernel
theorem dX12_finds_175 : decode cX12_finds 175 = .ok (.goto 4, 3) := by decide +kernel
theorem dX12_finds_178 : decode cX12_finds 178 = .ok (.iconst 0, 1) := by decide +kernel
theorem dX12_finds_179 : decode cX12_finds 179 = .ok (.ior, 1) := by decide +kernel
theorem dX12_finds_180 : decode cX12_finds 180 = .ok (.iastore, 1) := by decide +kernel
theorem dX12_finds_181 : decode cX12_finds 181 = .ok (.aload_n 0, 1) := by decide +kernel
theorem dX12_finds_182 : decode cX12_finds 182 = .ok (.getfield 56, 3) := by decide +kernel
theorem dX12_finds_185 : decode cX12_finds 185 = .ok (.aload_n 0, 1) := by decide +kernel
theorem dX12_finds_186 : decode cX12_finds 186 = .ok (.getfield 129, 3) := by decide +kernel
theorem dX12_finds_189 : decode cX12_finds 189 = .ok (.dup2, 1) := by decide +kernel
theorem dX12_finds_190 : decode cX12_finds 190 = .ok (.iaload, 1) := by decide +kernel
theorem dX12_finds_191 : decode cX12_finds 191 = .ok (.aload_n 0, 1) := by decide +kernel
theorem dX12_finds_192 : decode cX12_finds 192 = .ok (.getfield 62, 3) := by decide +kernel
theorem dX12_finds_195 : decode cX12_finds 195 = .ok (.aload_n 0, 1) := by decide +kernel
theorem dX12_finds_196 : decode cX12_finds 196 = .ok (.getfield 129, 3) := by decide +kernel
theorem dX12_finds_199 : decode cX12_finds 199 = .ok (.laload, 1) := by decide +kernel
theorem dX12_finds_200 : decode cX12_finds 200 = .ok (.lconst 0, 1) := by decide +kernel
theorem dX12_finds_201 : decode cX12_finds 201 = .ok (.lcmp, 1) := by decide +kernel
theorem dX12_finds_202 : decode cX12_finds 202 = .ok (.ifCond .eq 24, 3) := by decide +kernel
theorem dX12_finds_205 : decode cX12_finds 205 = .ok (.aload_n 0, 1) := by decide +kernel
theorem dX12_finds_206 : decode cX12_finds 206 = .ok (.getfield 62, 3) := by decide +kernel
theorem dX12_finds_209 : decode cX12_finds 209 = .ok (.aload_n 0, 1) := by decide +kernel
theorem dX12_finds_210 : decode cX12_finds 210 = .ok (.getfield 129, 3) := by decide +kernel
theorem dX12_finds_213 : decode cX12_finds 213 = .ok (.laload, 1) := by decide +kernel
theorem dX12_finds_214 : decode cX12_finds 214 = .ok (.ldc2_w 142, 3) := by decide +kernel
theorem dX12_finds_217 : decode cX12_finds 217 = .ok (.lcmp, 1) := by decide +kernel
theorem dX12_finds_218 : decode cX12_finds 218 = .ok (.ifCond .eq 8, 3) := by decide +kernel
theorem dX12_finds_221 : decode cX12_finds 221 = .ok (.bipush 32, 2) := by decide +kernel
theorem dX12_finds_223 : decode cX12_finds 223 = .ok (.goto 4, 3) := by decide +kernel
theorem dX12_finds_226 : decode cX12_finds 226 = .ok (.iconst 0, 1) := by decide +kernel
theorem dX12_finds_227 : decode cX12_finds 227 = .ok (.ior, 1) := by decide +kernel
theorem dX12_finds_228 : decode cX12_finds 228 = .ok (.iastore, 1) := by decide +kernel
theorem dX12_finds_229 : decode cX12_finds 229 = .ok (.aload_n 0, 1) := by decide +kernel
theorem dX12_finds_230 : decode cX12_finds 230 = .ok (.dup, 1) := by decide +kernel
theorem dX12_finds_231 : decode cX12_finds 231 = .ok (.getfield 129, 3) := by decide +kernel
theorem dX12_finds_234 : decode cX12_finds 234 = .ok (.iconst 1, 1) := by decide +kernel
theorem dX12_finds_235 : decode cX12_finds 235 = .ok (.iadd, 1) := by decide +kernel
theorem dX12_finds_236 : decode cX12_finds 236 = .ok (.putfield 129, 3) := by decide +kernel
theorem dX12_finds_239 : decode cX12_finds 239 = .ok (.goto (-173), 3) := by decide +kernel
theorem dX12_finds_242 : decode cX12_finds 242 = .ok (.return_, 1) := by decide +kernel
theorem dX12_wrong_0 : decode cX12_wrong 0 = .ok (.aload_n 0, 1) := by decide +kernel
theorem dX12_wrong_1 : decode cX12_wrong 1 = .ok (.getfield 170, 3) := by decide +kernel
theorem dX12_wrong_4 : decode cX12_wrong 4 = .ok (.ifCond .ne 8, 3) := by decide +kernel
theorem dX12_wrong_7 : decode cX12_wrong 7 = .ok (.bipush (-5), 2) := by decide +kernel
theorem dX12_wrong_9 : decode cX12_wrong 9 = .ok (.goto 19, 3) := by decide +kernel
theorem dX12_wrong_12 : decode cX12_wrong 12 = .ok (.iload_n 1, 1) := by decide +kernel
theorem dX12_wrong_13 : decode cX12_wrong 13 = .ok (.aload_n 0, 1) := by decide +kernel
theorem dX12_wrong_14 : decode cX12_wrong 14 = .ok (.getfield 129, 3) := by decide +kernel
theorem dX12_wrong_17 : decode cX12_wrong 17 = .ok (.invokestatic 111, 3) := by decide +kernel
theorem dX12_wrong_20 : decode cX12_wrong 20 = .ok (.ifCond .eq 7, 3) := by decide +kernel
theorem dX12_wrong_23 : decode cX12_wrong 23 = .ok (.iconst 0, 1) := by decide +kernel
theorem dX12_wrong_24 : decode cX12_wrong 24 = .ok (.goto 4, 3) := by decide +kernel
theorem dX12_wrong_27 : decode cX12_wrong 27 = .ok (.iconst (-1), 1) := by decide +kernel
theorem dX12_wrong_28 : decode cX12_wrong 28 = .ok (.ireturn, 1) := by decide +kernel
theorem dX12_nodes_0 : decode cX12_nodes 0 = .ok (.aload_n 0, 1) := by decide +kernel
theorem dX12_nodes_1 : decode cX12_nodes 1 = .ok (.iload_n 1, 1) := by decide +kernel
theorem dX12_nodes_2 : decode cX12_nodes 2 = .ok (.invokevirtual 176, 3) := by decide +kernel
theorem dX12_nodes_5 : decode cX12_nodes 5 = .ok (.istore_n 2, 1) := by decide +kernel
theorem dX12_nodes_6 : decode cX12_nodes 6 = .ok (.iload_n 2, 1) := by decide +kernel
theorem dX12_nodes_7 : decode cX12_nodes 7 = .ok (.ifCond .eq 11, 3) := by decide +kernel
theorem dX12_nodes_10 : decode cX12_nodes 10 = .ok (.aload_n 0, 1) := by decide +kernel
theorem dX12_nodes_11 : decode cX12_nodes 11 = .ok (.iload_n 2, 1) := by decide +kernel
theorem dX12_nodes_12 : decode cX12_nodes 12 = .ok (.invokevirtual 91, 3) := by decide +kernel
theorem dX12_nodes_15 : decode cX12_nodes 15 = .ok (.goto 9, 3) := by decide +kernel
theorem dX12_nodes_18 : decode cX12_nodes 18 = .ok (.aload_n 0, 1) := by decide +kernel
theorem dX12_nodes_19 : decode cX12_nodes 19 = .ok (.getfield 53, 3) := by decide +kernel
theorem dX12_nodes_22 : decode cX12_nodes 22 = .ok (.iload_n 1, 1) := by decide +kernel
theorem dX12_nodes_23 : decode cX12_nodes 23 = .ok (.iaload, 1) := by decide +kernel
theorem dX12_nodes_24 : decode cX12_nodes 24 = .ok (.ireturn, 1) := by decide +kernel
theorem dX12_node_0 : decode cX12_node 0 = .ok (.aload_n 0, 1) := by decide +kernel
theorem dX12_node_1 : decode cX12_node 1 = .ok (.iload_n 1, 1) := by decide +kernel
theorem dX12_node_2 : decode cX12_node 2 = .ok (.invokevirtual 176, 3) := by decide +kernel
theorem dX12_node_5 : decode cX12_node 5 = .ok (.istore 4, 2) := by decide +kernel
theorem dX12_node_7 : decode cX12_node 7 = .ok (.iload 4, 2) := by decide +kernel
theorem dX12_node_9 : decode cX12_node 9 = .ok (.ifCond .ne 19, 3) := by decide +kernel
theorem dX12_node_12 : decode cX12_node 12 = .ok (.iload_n 2, 1) := by decide +kernel
theorem dX12_node_13 : decode cX12_node 13 = .ok (.aload_n 0, 1) := by decide +kernel
theorem dX12_node_14 : decode cX12_node 14 = .ok (.getfield 53, 3) := by decide +kernel
theorem dX12_node_17 : decode cX12_node 17 = .ok (.iload_n 1, 1) := by decide +kernel
theorem dX12_node_18 : decode cX12_node 18 = .ok (.iaload, 1) := by decide +kernel
theorem dX12_node_19 : decode cX12_node 19 = .ok (.invokestatic 111, 3) := by decide +kernel
theorem dX12_node_22 : decode cX12_node 22 = .ok (.ifCond .ne 6, 3) := by decide +kernel
theorem dX12_node_25 : decode cX12_node 25 = .ok (.iconst (-1), 1) := by decide +kernel
theorem dX12_node_26 : decode cX12_node 26 = .ok (.istore 4, 2) := by decide +kernel
theorem dX12_node_28 : decode cX12_node 28 = .ok (.iload 4, 2) := by decide +kernel
theorem dX12_node_30 : decode cX12_node 30 = .ok (.ifCond .ne 15, 3) := by decide +kernel
theorem dX12_node_33 : decode cX12_node 33 = .ok (.iload_n 3, 1) := by decide +kernel
theorem dX12_node_34 : decode cX12_node 34 = .ok (.iconst 3, 1) := by decide +kernel
theorem dX12_node_35 : decode cX12_node 35 = .ok (.invokestatic 111, 3) := by decide +kernel
theorem dX12_node_38 : decode cX12_node 38 = .ok (.ifCond .ne 7, 3) := by decide +kernel
theorem dX12_node_41 : decode cX12_node 41 = .ok (.bipush (-2), 2) := by decide +kernel
theorem dX12_node_43 : decode cX12_node 43 = .ok (.istore 4, 2) := by decide +kernel
theorem dX12_node_45 : decode cX12_node 45 = .ok (.iload 4, 2) := by decide +kernel
theorem dX12_node_47 : decode cX12_node 47 = .ok (.ifCond .eq 10, 3) := by decide +kernel
theorem dX12_node_50 : decode cX12_node 50 = .ok (.aload_n 0, 1) := by decide +kernel
theorem dX12_node_51 : decode cX12_node 51 = .ok (.iload 4, 2) := by decide +kernel
theorem dX12_node_53 : decode cX12_node 53 = .ok (.invokevirtual 91, 3) := by decide +kernel
theorem dX12_node_56 : decode cX12_node 56 = .ok (.ireturn, 1) := by decide +kernel
theorem dX12_node_57 : decode cX12_node 57 = .ok (.bipush 21, 2) := by decide +kernel
theorem dX12_node_59 : decode cX12_node 59 = .ok (.iload_n 1, 1) := by decide +kernel
theorem dX12_node_60 : decode cX12_node 60 = .ok (.imul, 1) := by decide +kernel
theorem dX12_node_61 : decode cX12_node 61 = .ok (.iload_n 2, 1) := by decide +kernel
theorem dX12_node_62 : decode cX12_node 62 = .ok (.iadd, 1) := by decide +kernel
theorem dX12_node_63 : decode cX12_node 63 = .ok (.istore 5, 2) := by decide +kernel
theorem dX12_node_65 : decode cX12_node 65 = .ok (.iload_n 3, 1) := by decide +kernel
theorem dX12_node_66 : decode cX12_node 66 = .ok (.ifCond .ne 13, 3) := by decide +kernel
theorem dX12_node_69 : decode cX12_node 69 = .ok (.aload_n 0, 1) := by decide +kernel
theorem dX12_node_70 : decode cX12_node 70 = .ok (.getfield 44, 3) := by decide +kernel
theorem dX12_node_73 : decode cX12_node 73 = .ok (.iload 5, 2) := by decide +kernel
theorem dX12_node_75 : decode cX12_node 75 = .ok (.iaload, 1) := by decide +kernel
theorem dX12_node_76 : decode cX12_node 76 = .ok (.goto 25, 3) := by decide +kernel
theorem dX12_node_79 : decode cX12_node 79 = .ok (.iload_n 3, 1) := by decide +kernel
theorem dX12_node_80 : decode cX12_node 80 = .ok (.iconst 1, 1) := by decide +kernel
theorem dX12_node_81 : decode cX12_node 81 = .ok (.if_icmp .ne 13, 3) := by decide +kernel
theorem dX12_node_84 : decode cX12_node 84 = .ok (.aload_n 0, 1) := by decide +kernel
theorem dX12_node_85 : decode cX12_node 85 = .ok (.getfield 47, 3) := by decide +kernel
theorem dX12_node_88 : decode cX12_node 88 = .ok (.iload 5, 2) := by decide +kernel
theorem dX12_node_90 : decode cX12_node 90 = .ok (.iaload, 1) := by decide +kernel
theorem dX12_node_91 : decode cX12_node 91 = .ok (.goto 10, 3) := by decide +kernel
theorem dX12_node_94 : decode cX12_node 94 = .ok (.aload_n 0, 1) := by decide +kernel
theorem dX12_node_95 : decode cX12_node 95 = .ok (.getfield 50, 3) := by decide +kernel
theorem dX12_node_98 : decode cX12_node 98 = .ok (.iload 5, 2) := by decide +kernel
theorem dX12_node_100 : decode cX12_node 100 = .ok (.iaload, 1) := by decide +kernel
theorem dX12_node_101 : decode cX12_node 101 = .ok (.ireturn, 1) := by decide +kernel
theorem dX12_means_0 : decode cX12_means 0 = .ok (.aload_n 0, 1) := by decide +kernel
theorem dX12_means_1 : decode cX12_means 1 = .ok (.iload_n 1, 1) := by decide +kernel
theorem dX12_means_2 : decode cX12_means 2 = .ok (.invokevirtual 176, 3) := by decide +kernel
theorem dX12_means_5 : decode cX12_means 5 = .ok (.istore_n 2, 1) := by decide +kernel
theorem dX12_means_6 : decode cX12_means 6 = .ok (.iload_n 2, 1) := by decide +kernel
theorem dX12_means_7 : decode cX12_means 7 = .ok (.ifCond .eq 12, 3) := by decide +kernel
theorem dX12_means_10 : decode cX12_means 10 = .ok (.aload_n 0, 1) := by decide +kernel
theorem dX12_means_11 : decode cX12_means 11 = .ok (.iload_n 2, 1) := by decide +kernel
theorem dX12_means_12 : decode cX12_means 12 = .ok (.invokevirtual 91, 3) := by decide +kernel
theorem dX12_means_15 : decode cX12_means 15 = .ok (.i2l, 1) := by decide +kernel
theorem dX12_means_16 : decode cX12_means 16 = .ok (.goto 9, 3) := by decide +kernel
theorem dX12_means_19 : decode cX12_means 19 = .ok (.aload_n 0, 1) := by decide +kernel
theorem dX12_means_20 : decode cX12_means 20 = .ok (.getfield 62, 3) := by decide +kernel
theorem dX12_means_23 : decode cX12_means 23 = .ok (.iload_n 1, 1) := by decide +kernel
theorem dX12_means_24 : decode cX12_means 24 = .ok (.laload, 1) := by decide +kernel
theorem dX12_means_25 : decode cX12_means 25 = .ok (.lreturn, 1) := by decide +kernel
theorem dX12_does_0 : decode cX12_does 0 = .ok (.aload_n 0, 1) := by decide +kernel
theorem dX12_does_1 : decode cX12_does 1 = .ok (.getfield 62, 3) := by decide +kernel
theorem dX12_does_4 : decode cX12_does 4 = .ok (.iload_n 1, 1) := by decide +kernel
theorem dX12_does_5 : decode cX12_does 5 = .ok (.laload, 1) := by decide +kernel
theorem dX12_does_6 : decode cX12_does 6 = .ok (.iload_n 2, 1) := by decide +kernel
theorem dX12_does_7 : decode cX12_does 7 = .ok (.lshr, 1) := by decide +kernel
theorem dX12_does_8 : decode cX12_does 8 = .ok (.lconst 1, 1) := by decide +kernel
theorem dX12_does_9 : decode cX12_does 9 = .ok (.land, 1) := by decide +kernel
theorem dX12_does_10 : decode cX12_does 10 = .ok (.lconst 1, 1) := by decide +kernel
theorem dX12_does_11 : decode cX12_does 11 = .ok (.lcmp, 1) := by decide +kernel
theorem dX12_does_12 : decode cX12_does 12 = .ok (.ifCond .ne 7, 3) := by decide +kernel
theorem dX12_does_15 : decode cX12_does 15 = .ok (.iconst 1, 1) := by decide +kernel
theorem dX12_does_16 : decode cX12_does 16 = .ok (.goto 4, 3) := by decide +kernel
theorem dX12_does_19 : decode cX12_does 19 = .ok (.iconst 0, 1) := by decide +kernel
theorem dX12_does_20 : decode cX12_does 20 = .ok (.ireturn, 1) := by decide +kernel
theorem dX12_lets_0 : decode cX12_lets 0 = .ok (.aload_n 0, 1) := by decide +kernel
theorem dX12_lets_1 : decode cX12_lets 1 = .ok (.iload_n 1, 1) := by decide +kernel
theorem dX12_lets_2 : decode cX12_lets 2 = .ok (.invokevirtual 176, 3) := by decide +kernel
theorem dX12_lets_5 : decode cX12_lets 5 = .ok (.istore_n 3, 1) := by decide +kernel
theorem dX12_lets_6 : decode cX12_lets 6 = .ok (.iload_n 3, 1) := by decide +kernel
theorem dX12_lets_7 : decode cX12_lets 7 = .ok (.ifCond .ne 14, 3) := by decide +kernel
theorem dX12_lets_10 : decode cX12_lets 10 = .ok (.iload_n 2, 1) := by decide +kernel
theorem dX12_lets_11 : decode cX12_lets 11 = .ok (.bipush 32, 2) := by decide +kernel
theorem dX12_lets_13 : decode cX12_lets 13 = .ok (.invokestatic 111, 3) := by decide +kernel
theorem dX12_lets_16 : decode cX12_lets 16 = .ok (.ifCond .ne 5, 3) := by decide +kernel
theorem dX12_lets_19 : decode cX12_lets 19 = .ok (.iconst (-1), 1) := by decide +kernel
theorem dX12_lets_20 : decode cX12_lets 20 = .ok (.istore_n 3, 1) := by decide +kernel
theorem dX12_lets_21 : decode cX12_lets 21 = .ok (.iload_n 3, 1) := by decide +kernel
theorem dX12_lets_22 : decode cX12_lets 22 = .ok (.ifCond .eq 11, 3) := by decide +kernel
theorem dX12_lets_25 : decode cX12_lets 25 = .ok (.aload_n 0, 1) := by decide +kernel
theorem dX12_lets_26 : decode cX12_lets 26 = .ok (.iload_n 3, 1) := by decide +kernel
theorem dX12_lets_27 : decode cX12_lets 27 = .ok (.invokevirtual 91, 3) := by decide +kernel
theorem dX12_lets_30 : decode cX12_lets 30 = .ok (.goto 17, 3) := by decide +kernel
theorem dX12_lets_33 : decode cX12_lets 33 = .ok (.aload_n 0, 1) := by decide +kernel
theorem dX12_lets_34 : decode cX12_lets 34 = .ok (.iload_n 1, 1) := by decide +kernel
theorem dX12_lets_35 : decode cX12_lets 35 = .ok (.iload_n 2, 1) := by decide +kernel
theorem dX12_lets_36 : decode cX12_lets 36 = .ok (.invokevirtual 179, 3) := by decide +kernel
theorem dX12_lets_39 : decode cX12_lets 39 = .ok (.ifCond .eq 7, 3) := by decide +kernel
theorem dX12_lets_42 : decode cX12_lets 42 = .ok (.iconst 1, 1) := by decide +kernel
theorem dX12_lets_43 : decode cX12_lets 43 = .ok (.goto 4, 3) := by decide +kernel
theorem dX12_lets_46 : decode cX12_lets 46 = .ok (.iconst 0, 1) := by decide +kernel
theorem dX12_lets_47 : decode cX12_lets 47 = .ok (.ireturn, 1) := by decide +kernel
theorem dX12_lettingOf_0 : decode cX12_lettingOf 0 = .ok (.iconst 0, 1) := by decide +kernel
theorem dX12_lettingOf_1 : decode cX12_lettingOf 1 = .ok (.istore_n 2, 1) := by decide +kernel
theorem dX12_lettingOf_2 : decode cX12_lettingOf 2 = .ok (.iconst 0, 1) := by decide +kernel
theorem dX12_lettingOf_3 : decode cX12_lettingOf 3 = .ok (.istore_n 3, 1) := by decide +kernel
theorem dX12_lettingOf_4 : decode cX12_lettingOf 4 = .ok (.iload_n 3, 1) := by decide +kernel
theorem dX12_lettingOf_5 : decode cX12_lettingOf 5 = .ok (.aload_n 0, 1) := by decide +kernel
theorem dX12_lettingOf_6 : decode cX12_lettingOf 6 = .ok (.getfield 129, 3) := by decide +kernel
theorem dX12_lettingOf_9 : decode cX12_lettingOf 9 = .ok (.if_icmp .ge 26, 3) := by decide +kernel
theorem dX12_lettingOf_12 : decode cX12_lettingOf 12 = .ok (.iload_n 2, 1) := by decide +kernel
theorem dX12_lettingOf_13 : decode cX12_lettingOf 13 = .ok (.aload_n 0, 1) := by decide +kernel
theorem dX12_lettingOf_14 : decode cX12_lettingOf 14 = .ok (.iload_n 3, 1) := by decide +kernel
theorem dX12_lettingOf_15 : decode cX12_lettingOf 15 = .ok (.iload_n 1, 1) := by decide +kernel
theorem dX12_lettingOf_16 : decode cX12_lettingOf 16 = .ok (.invokevirtual 179, 3) := by decide +kernel
theorem dX12_lettingOf_19 : decode cX12_lettingOf 19 = .ok (.ifCond .eq 7, 3) := by decide +kernel
theorem dX12_lettingOf_22 : decode cX12_lettingOf 22 = .ok (.iconst 1, 1) := by decide +kernel
theorem dX12_lettingOf_23 : decode cX12_lettingOf 23 = .ok (.goto 4, 3) := by decide +kernel
theorem dX12_lettingOf_26 : decode cX12_lettingOf 26 = .ok (.iconst 0, 1) := by decide +kernel
theorem dX12_lettingOf_27 : decode cX12_lettingOf 27 = .ok (.iadd, 1) := by decide +kernel
theorem dX12_lettingOf_28 : decode cX12_lettingOf 28 = .ok (.istore_n 2, 1) := by decide +kernel
theorem dX12_lettingOf_29 : decode cX12_lettingOf 29 = .ok (.iinc 3 1, 3) := by decide +kernel
theorem dX12_lettingOf_32 : decode cX12_lettingOf 32 = .ok (.goto (-28), 3) := by decide +kernel
theorem dX12_lettingOf_35 : decode cX12_lettingOf 35 = .ok (.iload_n 2, 1) := by decide +kernel
theorem dX12_lettingOf_36 : decode cX12_lettingOf 36 = .ok (.ireturn, 1) := by decide +kernel
theorem dX12_map_0 : decode cX12_map 0 = .ok (.aload_n 0, 1) := by decide +kernel
theorem dX12_map_1 : decode cX12_map 1 = .ok (.getfield 170, 3) := by decide +kernel
theorem dX12_map_4 : decode cX12_map 4 = .ok (.ifCond .ne 8, 3) := by decide +kernel
theorem dX12_map_7 : decode cX12_map 7 = .ok (.bipush (-5), 2) := by decide +kernel
theorem dX12_map_9 : decode cX12_map 9 = .ok (.goto 17, 3) := by decide +kernel
theorem dX12_map_12 : decode cX12_map 12 = .ok (.iload_n 1, 1) := by decide +kernel
theorem dX12_map_13 : decode cX12_map 13 = .ok (.bipush 32, 2) := by decide +kernel
theorem dX12_map_15 : decode cX12_map 15 = .ok (.invokestatic 111, 3) := by decide +kernel
theorem dX12_map_18 : decode cX12_map 18 = .ok (.ifCond .eq 7, 3) := by decide +kernel
theorem dX12_map_21 : decode cX12_map 21 = .ok (.iconst 0, 1) := by decide +kernel
theorem dX12_map_22 : decode cX12_map 22 = .ok (.goto 4, 3) := by decide +kernel
theorem dX12_map_25 : decode cX12_map 25 = .ok (.iconst (-1), 1) := by decide +kernel
theorem dX12_map_26 : decode cX12_map 26 = .ok (.istore_n 2, 1) := by decide +kernel
theorem dX12_map_27 : decode cX12_map 27 = .ok (.iload_n 2, 1) := by decide +kernel
theorem dX12_map_28 : decode cX12_map 28 = .ok (.ifCond .eq 11, 3) := by decide +kernel
theorem dX12_map_31 : decode cX12_map 31 = .ok (.aload_n 0, 1) := by decide +kernel
theorem dX12_map_32 : decode cX12_map 32 = .ok (.iload_n 2, 1) := by decide +kernel
theorem dX12_map_33 : decode cX12_map 33 = .ok (.invokevirtual 91, 3) := by decide +kernel
theorem dX12_map_36 : decode cX12_map 36 = .ok (.goto 8, 3) := by decide +kernel
theorem dX12_map_39 : decode cX12_map 39 = .ok (.aload_n 0, 1) := by decide +kernel
theorem dX12_map_40 : decode cX12_map 40 = .ok (.iload_n 1, 1) := by decide +kernel
theorem dX12_map_41 : decode cX12_map 41 = .ok (.invokevirtual 182, 3) := by decide +kernel
theorem dX12_map_44 : decode cX12_map 44 = .ok (.ireturn, 1) := by decide +kernel
theorem dX12_all_0 : decode cX12_all 0 = .ok (.aload_n 0, 1) := by decide +kernel
theorem dX12_all_1 : decode cX12_all 1 = .ok (.getfield 170, 3) := by decide +kernel
theorem dX12_all_4 : decode cX12_all 4 = .ok (.ifCond .ne 11, 3) := by decide +kernel
theorem dX12_all_7 : decode cX12_all 7 = .ok (.aload_n 0, 1) := by decide +kernel
theorem dX12_all_8 : decode cX12_all 8 = .ok (.bipush (-5), 2) := by decide +kernel
theorem dX12_all_10 : decode cX12_all 10 = .ok (.invokevirtual 91, 3) := by decide +kernel
theorem dX12_all_13 : decode cX12_all 13 = .ok (.i2l, 1) := by decide +kernel
theorem dX12_all_14 : decode cX12_all 14 = .ok (.lreturn, 1) := by decide +kernel
theorem dX12_all_15 : decode cX12_all 15 = .ok (.ldc2_w 142, 3) := by decide +kernel
theorem dX12_all_18 : decode cX12_all 18 = .ok (.lstore_n 2, 1) := by decide +kernel
theorem dX12_all_19 : decode cX12_all 19 = .ok (.iconst 0, 1) := by decide +kernel
theorem dX12_all_20 : decode cX12_all 20 = .ok (.istore 4, 2) := by decide +kernel
theorem dX12_all_22 : decode cX12_all 22 = .ok (.iload 4, 2) := by decide +kernel
theorem dX12_all_24 : decode cX12_all 24 = .ok (.aload_n 0, 1) := by decide +kernel
theorem dX12_all_25 : decode cX12_all 25 = .ok (.getfield 129, 3) := by decide +kernel
theorem dX12_all_28 : decode cX12_all 28 = .ok (.if_icmp .ge 37, 3) := by decide +kernel
theorem dX12_all_31 : decode cX12_all 31 = .ok (.lload_n 2, 1) := by decide +kernel
theorem dX12_all_32 : decode cX12_all 32 = .ok (.iload_n 1, 1) := by decide +kernel
theorem dX12_all_33 : decode cX12_all 33 = .ok (.ifCond .eq 13, 3) := by decide +kernel
theorem dX12_all_36 : decode cX12_all 36 = .ok (.aload_n 0, 1) := by decide +kernel
theorem dX12_all_37 : decode cX12_all 37 = .ok (.getfield 62, 3) := by decide +kernel
theorem dX12_all_40 : decode cX12_all 40 = .ok (.iload 4, 2) := by decide +kernel
theorem dX12_all_42 : decode cX12_all 42 = .ok (.laload, 1) := by decide +kernel
theorem dX12_all_43 : decode cX12_all 43 = .ok (.goto 14, 3) := by decide +kernel
theorem dX12_all_46 : decode cX12_all 46 = .ok (.aload_n 0, 1) := by decide +kernel
theorem dX12_all_47 : decode cX12_all 47 = .ok (.getfield 62, 3) := by decide +kernel
theorem dX12_all_50 : decode cX12_all 50 = .ok (.iload 4, 2) := by decide +kernel
theorem dX12_all_52 : decode cX12_all 52 = .ok (.laload, 1) := by decide +kernel
theorem dX12_all_53 : decode cX12_all 53 = .ok (.ldc2_w 152, 3) := by decide +kernel
theorem dX12_all_56 : decode cX12_all 56 = .ok (.lxor, 1) := by decide +kernel
theorem dX12_all_57 : decode cX12_all 57 = .ok (.land, 1) := by decide +kernel
theorem dX12_all_58 : decode cX12_all 58 = .ok (.lstore_n 2, 1) := by decide +kernel
theorem dX12_all_59 : decode cX12_all 59 = .ok (.iinc 4 1, 3) := by decide +kernel
theorem dX12_all_62 : decode cX12_all 62 = .ok (.goto (-40), 3) := by decide +kernel
theorem dX12_all_65 : decode cX12_all 65 = .ok (.lload_n 2, 1) := by decide +kernel
theorem dX12_all_66 : decode cX12_all 66 = .ok (.lreturn, 1) := by decide +kernel
theorem dX12_same_0 : decode cX12_same 0 = .ok (.aload_n 0, 1) := by decide +kernel
theorem dX12_same_1 : decode cX12_same 1 = .ok (.iload_n 1, 1) := by decide +kernel
theorem dX12_same_2 : decode cX12_same 2 = .ok (.invokevirtual 176, 3) := by decide +kernel
theorem dX12_same_5 : decode cX12_same 5 = .ok (.ifCond .eq 11, 3) := by decide +kernel
theorem dX12_same_8 : decode cX12_same 8 = .ok (.aload_n 0, 1) := by decide +kernel
theorem dX12_same_9 : decode cX12_same 9 = .ok (.iload_n 1, 1) := by decide +kernel
theorem dX12_same_10 : decode cX12_same 10 = .ok (.invokevirtual 176, 3) := by decide +kernel
theorem dX12_same_13 : decode cX12_same 13 = .ok (.goto 8, 3) := by decide +kernel
theorem dX12_same_16 : decode cX12_same 16 = .ok (.aload_n 0, 1) := by decide +kernel
theorem dX12_same_17 : decode cX12_same 17 = .ok (.iload_n 2, 1) := by decide +kernel
theorem dX12_same_18 : decode cX12_same 18 = .ok (.invokevirtual 176, 3) := by decide +kernel
theorem dX12_same_21 : decode cX12_same 21 = .ok (.istore_n 3, 1) := by decide +kernel
theorem dX12_same_22 : decode cX12_same 22 = .ok (.iload_n 3, 1) := by decide +kernel
theorem dX12_same_23 : decode cX12_same 23 = .ok (.ifCond .eq 11, 3) := by decide +kernel
theorem dX12_same_26 : decode cX12_same 26 = .ok (.aload_n 0, 1) := by decide +kernel
theorem dX12_same_27 : decode cX12_same 27 = .ok (.iload_n 3, 1) := by decide +kernel
theorem dX12_same_28 : decode cX12_same 28 = .ok (.invokevirtual 91, 3) := by decide +kernel
theorem dX12_same_31 : decode cX12_same 31 = .ok (.goto 24, 3) := by decide +kernel
theorem dX12_same_34 : decode cX12_same 34 = .ok (.aload_n 0, 1) := by decide +kernel
theorem dX12_same_35 : decode cX12_same 35 = .ok (.getfield 62, 3) := by decide +kernel
theorem dX12_same_38 : decode cX12_same 38 = .ok (.iload_n 1, 1) := by decide +kernel
theorem dX12_same_39 : decode cX12_same 39 = .ok (.laload, 1) := by decide +kernel
theorem dX12_same_40 : decode cX12_same 40 = .ok (.aload_n 0, 1) := by decide +kernel
theorem dX12_same_41 : decode cX12_same 41 = .ok (.getfield 62, 3) := by decide +kernel
theorem dX12_same_44 : decode cX12_same 44 = .ok (.iload_n 2, 1) := by decide +kernel
theorem dX12_same_45 : decode cX12_same 45 = .ok (.laload, 1) := by decide +kernel
theorem dX12_same_46 : decode cX12_same 46 = .ok (.lcmp, 1) := by decide +kernel
theorem dX12_same_47 : decode cX12_same 47 = .ok (.ifCond .ne 7, 3) := by decide +kernel
theorem dX12_same_50 : decode cX12_same 50 = .ok (.iconst 1, 1) := by decide +kernel
theorem dX12_same_51 : decode cX12_same 51 = .ok (.goto 4, 3) := by decide +kernel
theorem dX12_same_54 : decode cX12_same 54 = .ok (.iconst 0, 1) := by decide +kernel
theorem dX12_same_55 : decode cX12_same 55 = .ok (.ireturn, 1) := by decide +kernel
theorem dX12_findUnlike_0 : decode cX12_findUnlike 0 = .ok (.aload_n 0, 1) := by decide +kernel
theorem dX12_findUnlike_1 : decode cX12_findUnlike 1 = .ok (.iconst 0, 1) := by decide +kernel
theorem dX12_findUnlike_2 : decode cX12_findUnlike 2 = .ok (.putfield 185, 3) := by decide +kernel
theorem dX12_findUnlike_5 : decode cX12_findUnlike 5 = .ok (.iconst 0, 1) := by decide +kernel
theorem dX12_findUnlike_6 : decode cX12_findUnlike 6 = .ok (.istore_n 1, 1) := by decide +kernel
theorem dX12_findUnlike_7 : decode cX12_findUnlike 7 = .ok (.iload_n 1, 1) := by decide +kernel
theorem dX12_findUnlike_8 : decode cX12_findUnlike 8 = .ok (.aload_n 0, 1) := by decide +kernel
theorem dX12_findUnlike_9 : decode cX12_findUnlike 9 = .ok (.getfield 129, 3) := by decide +kernel
theorem dX12_findUnlike_12 : decode cX12_findUnlike 12 = .ok (.if_icmp .ge 85, 3) := by decide +kernel
theorem dX12_findUnlike_15 : decode cX12_findUnlike 15 = .ok (.iconst 0, 1) := by decide +kernel
theorem dX12_findUnlike_16 : decode cX12_findUnlike 16 = .ok (.istore_n 2, 1) := by decide +kernel
theorem dX12_findUnlike_17 : decode cX12_findUnlike 17 = .ok (.iconst 0, 1) := by decide +kernel
theorem dX12_findUnlike_18 : decode cX12_findUnlike 18 = .ok (.istore_n 3, 1) := by decide +kernel
theorem dX12_findUnlike_19 : decode cX12_findUnlike 19 = .ok (.iload_n 3, 1) := by decide +kernel
theorem dX12_findUnlike_20 : decode cX12_findUnlike 20 = .ok (.aload_n 0, 1) := by decide +kernel
theorem dX12_findUnlike_21 : decode cX12_findUnlike 21 = .ok (.getfield 185, 3) := by decide +kernel
theorem dX12_findUnlike_24 : decode cX12_findUnlike 24 = .ok (.if_icmp .ge 35, 3) := by decide +kernel
theorem dX12_findUnlike_27 : decode cX12_findUnlike 27 = .ok (.iload_n 2, 1) := by decide +kernel
theorem dX12_findUnlike_28 : decode cX12_findUnlike 28 = .ok (.ifCond .ne 19, 3) := by decide +kernel
theorem dX12_findUnlike_31 : decode cX12_findUnlike 31 = .ok (.aload_n 0, 1) := by decide +kernel
theorem dX12_findUnlike_32 : decode cX12_findUnlike 32 = .ok (.getfield 72, 3) := by decide +kernel
theorem dX12_findUnlike_35 : decode cX12_findUnlike 35 = .ok (.iload_n 3, 1) := by decide +kernel
theorem dX12_findUnlike_36 : decode cX12_findUnlike 36 = .ok (.laload, 1) := by decide +kernel
theorem dX12_findUnlike_37 : decode cX12_findUnlike 37 = .ok (.aload_n 0, 1) := by decide +kernel
theorem dX12_findUnlike_38 : decode cX12_findUnlike 38 = .ok (.getfield 62, 3) := by decide +kernel
theorem dX12_findUnlike_41 : decode cX12_findUnlike 41 = .ok (.iload_n 1, 1) := by decide +kernel
theorem dX12_findUnlike_42 : decode cX12_findUnlike 42 = .ok (.laload, 1) := by decide +kernel
theorem dX12_findUnlike_43 : decode cX12_findUnlike 43 = .ok (.lcmp, 1) := by decide +kernel
theorem dX12_findUnlike_44 : decode cX12_findUnlike 44 = .ok (.ifCond .ne 7, 3) := by decide +kernel
theorem dX12_findUnlike_47 : decode cX12_findUnlike 47 = .ok (.iconst 1, 1) := by decide +kernel
theorem dX12_findUnlike_48 : decode cX12_findUnlike 48 = .ok (.goto 4, 3) := by decide +kernel
theorem dX12_findUnlike_51 : decode cX12_findUnlike 51 = .ok (.iconst 0, 1) := by decide +kernel
theorem dX12_findUnlike_52 : decode cX12_findUnlike 52 = .ok (.istore_n 2, 1) := by decide +kernel
theorem dX12_findUnlike_53 : decode cX12_findUnlike 53 = .ok (.iinc 3 1, 3) := by decide +kernel
end
section
theorem dX12_findUnlike_56 : decode cX12_findUnlike 56 = .ok (.goto (-37), 3) := by decide +kernel
theorem dX12_findUnlike_59 : decode cX12_findUnlike 59 = .ok (.iload_n 2, 1) := by decide +kernel
theorem dX12_findUnlike_60 : decode cX12_findUnlike 60 = .ok (.ifCond .eq 6, 3) := by decide +kernel
theorem dX12_findUnlike_63 : decode cX12_findUnlike 63 = .ok (.goto 28, 3) := by decide +kernel
theorem dX12_findUnlike_66 : decode cX12_findUnlike 66 = .ok (.aload_n 0, 1) := by decide +kernel
theorem dX12_findUnlike_67 : decode cX12_findUnlike 67 = .ok (.getfield 72, 3) := by decide +kernel
theorem dX12_findUnlike_70 : decode cX12_findUnlike 70 = .ok (.aload_n 0, 1) := by decide +kernel
theorem dX12_findUnlike_71 : decode cX12_findUnlike 71 = .ok (.getfield 185, 3) := by decide +kernel
theorem dX12_findUnlike_74 : decode cX12_findUnlike 74 = .ok (.aload_n 0, 1) := by decide +kernel
theorem dX12_findUnlike_75 : decode cX12_findUnlike 75 = .ok (.getfield 62, 3) := by decide +kernel
theorem dX12_findUnlike_78 : decode cX12_findUnlike 78 = .ok (.iload_n 1, 1) := by decide +kernel
theorem dX12_findUnlike_79 : decode cX12_findUnlike 79 = .ok (.laload, 1) := by decide +kernel
theorem dX12_findUnlike_80 : decode cX12_findUnlike 80 = .ok (.lastore, 1) := by decide +kernel
theorem dX12_findUnlike_81 : decode cX12_findUnlike 81 = .ok (.aload_n 0, 1) := by decide +kernel
theorem dX12_findUnlike_82 : decode cX12_findUnlike 82 = .ok (.dup, 1) := by decide +kernel
theorem dX12_findUnlike_83 : decode cX12_findUnlike 83 = .ok (.getfield 185, 3) := by decide +kernel
theorem dX12_findUnlike_86 : decode cX12_findUnlike 86 = .ok (.iconst 1, 1) := by decide +kernel
theorem dX12_findUnlike_87 : decode cX12_findUnlike 87 = .ok (.iadd, 1) := by decide +kernel
theorem dX12_findUnlike_88 : decode cX12_findUnlike 88 = .ok (.putfield 185, 3) := by decide +kernel
theorem dX12_findUnlike_91 : decode cX12_findUnlike 91 = .ok (.iinc 1 1, 3) := by decide +kernel
theorem dX12_findUnlike_94 : decode cX12_findUnlike 94 = .ok (.goto (-87), 3) := by decide +kernel
theorem dX12_findUnlike_97 : decode cX12_findUnlike 97 = .ok (.return_, 1) := by decide +kernel
theorem dX12_unlike_0 : decode cX12_unlike 0 = .ok (.aload_n 0, 1) := by decide +kernel
theorem dX12_unlike_1 : decode cX12_unlike 1 = .ok (.getfield 170, 3) := by decide +kernel
theorem dX12_unlike_4 : decode cX12_unlike 4 = .ok (.ifCond .ne 10, 3) := by decide +kernel
theorem dX12_unlike_7 : decode cX12_unlike 7 = .ok (.aload_n 0, 1) := by decide +kernel
theorem dX12_unlike_8 : decode cX12_unlike 8 = .ok (.bipush (-5), 2) := by decide +kernel
theorem dX12_unlike_10 : decode cX12_unlike 10 = .ok (.invokevirtual 91, 3) := by decide +kernel
theorem dX12_unlike_13 : decode cX12_unlike 13 = .ok (.ireturn, 1) := by decide +kernel
theorem dX12_unlike_14 : decode cX12_unlike 14 = .ok (.aload_n 0, 1) := by decide +kernel
theorem dX12_unlike_15 : decode cX12_unlike 15 = .ok (.invokevirtual 188, 3) := by decide +kernel
theorem dX12_unlike_18 : decode cX12_unlike 18 = .ok (.aload_n 0, 1) := by decide +kernel
theorem dX12_unlike_19 : decode cX12_unlike 19 = .ok (.getfield 185, 3) := by decide +kernel
theorem dX12_unlike_22 : decode cX12_unlike 22 = .ok (.ireturn, 1) := by decide +kernel
theorem dX12_part_0 : decode cX12_part 0 = .ok (.aload_n 0, 1) := by decide +kernel
theorem dX12_part_1 : decode cX12_part 1 = .ok (.iload_n 1, 1) := by decide +kernel
theorem dX12_part_2 : decode cX12_part 2 = .ok (.invokevirtual 176, 3) := by decide +kernel
theorem dX12_part_5 : decode cX12_part 5 = .ok (.ifCond .eq 11, 3) := by decide +kernel
theorem dX12_part_8 : decode cX12_part 8 = .ok (.aload_n 0, 1) := by decide +kernel
theorem dX12_part_9 : decode cX12_part 9 = .ok (.iload_n 1, 1) := by decide +kernel
theorem dX12_part_10 : decode cX12_part 10 = .ok (.invokevirtual 176, 3) := by decide +kernel
theorem dX12_part_13 : decode cX12_part 13 = .ok (.goto 8, 3) := by decide +kernel
theorem dX12_part_16 : decode cX12_part 16 = .ok (.aload_n 0, 1) := by decide +kernel
theorem dX12_part_17 : decode cX12_part 17 = .ok (.iload_n 2, 1) := by decide +kernel
theorem dX12_part_18 : decode cX12_part 18 = .ok (.invokevirtual 176, 3) := by decide +kernel
theorem dX12_part_21 : decode cX12_part 21 = .ok (.istore_n 3, 1) := by decide +kernel
theorem dX12_part_22 : decode cX12_part 22 = .ok (.iload_n 3, 1) := by decide +kernel
theorem dX12_part_23 : decode cX12_part 23 = .ok (.ifCond .eq 9, 3) := by decide +kernel
theorem dX12_part_26 : decode cX12_part 26 = .ok (.aload_n 0, 1) := by decide +kernel
theorem dX12_part_27 : decode cX12_part 27 = .ok (.iload_n 3, 1) := by decide +kernel
theorem dX12_part_28 : decode cX12_part 28 = .ok (.invokevirtual 91, 3) := by decide +kernel
theorem dX12_part_31 : decode cX12_part 31 = .ok (.ireturn, 1) := by decide +kernel
theorem dX12_part_32 : decode cX12_part 32 = .ok (.iconst 0, 1) := by decide +kernel
theorem dX12_part_33 : decode cX12_part 33 = .ok (.istore 4, 2) := by decide +kernel
theorem dX12_part_35 : decode cX12_part 35 = .ok (.iload 4, 2) := by decide +kernel
theorem dX12_part_37 : decode cX12_part 37 = .ok (.bipush 32, 2) := by decide +kernel
theorem dX12_part_39 : decode cX12_part 39 = .ok (.if_icmp .ge 29, 3) := by decide +kernel
theorem dX12_part_42 : decode cX12_part 42 = .ok (.aload_n 0, 1) := by decide +kernel
theorem dX12_part_43 : decode cX12_part 43 = .ok (.iload_n 1, 1) := by decide +kernel
theorem dX12_part_44 : decode cX12_part 44 = .ok (.iload 4, 2) := by decide +kernel
theorem dX12_part_46 : decode cX12_part 46 = .ok (.invokevirtual 179, 3) := by decide +kernel
theorem dX12_part_49 : decode cX12_part 49 = .ok (.aload_n 0, 1) := by decide +kernel
theorem dX12_part_50 : decode cX12_part 50 = .ok (.iload_n 2, 1) := by decide +kernel
theorem dX12_part_51 : decode cX12_part 51 = .ok (.iload 4, 2) := by decide +kernel
theorem dX12_part_53 : decode cX12_part 53 = .ok (.invokevirtual 179, 3) := by decide +kernel
theorem dX12_part_56 : decode cX12_part 56 = .ok (.if_icmp .eq 6, 3) := by decide +kernel
theorem dX12_part_59 : decode cX12_part 59 = .ok (.iload 4, 2) := by decide +kernel
theorem dX12_part_61 : decode cX12_part 61 = .ok (.ireturn, 1) := by decide +kernel
theorem dX12_part_62 : decode cX12_part 62 = .ok (.iinc 4 1, 3) := by decide +kernel
theorem dX12_part_65 : decode cX12_part 65 = .ok (.goto (-30), 3) := by decide +kernel
theorem dX12_part_68 : decode cX12_part 68 = .ok (.bipush (-9), 2) := by decide +kernel
theorem dX12_part_70 : decode cX12_part 70 = .ok (.ireturn, 1) := by decide +kernel
theorem dX12_idle_0 : decode cX12_idle 0 = .ok (.aload_n 0, 1) := by decide +kernel
theorem dX12_idle_1 : decode cX12_idle 1 = .ok (.iload_n 1, 1) := by decide +kernel
theorem dX12_idle_2 : decode cX12_idle 2 = .ok (.invokevirtual 176, 3) := by decide +kernel
theorem dX12_idle_5 : decode cX12_idle 5 = .ok (.istore_n 2, 1) := by decide +kernel
theorem dX12_idle_6 : decode cX12_idle 6 = .ok (.iload_n 2, 1) := by decide +kernel
theorem dX12_idle_7 : decode cX12_idle 7 = .ok (.ifCond .eq 11, 3) := by decide +kernel
theorem dX12_idle_10 : decode cX12_idle 10 = .ok (.aload_n 0, 1) := by decide +kernel
theorem dX12_idle_11 : decode cX12_idle 11 = .ok (.iload_n 2, 1) := by decide +kernel
theorem dX12_idle_12 : decode cX12_idle 12 = .ok (.invokevirtual 91, 3) := by decide +kernel
theorem dX12_idle_15 : decode cX12_idle 15 = .ok (.goto 9, 3) := by decide +kernel
theorem dX12_idle_18 : decode cX12_idle 18 = .ok (.aload_n 0, 1) := by decide +kernel
theorem dX12_idle_19 : decode cX12_idle 19 = .ok (.getfield 59, 3) := by decide +kernel
theorem dX12_idle_22 : decode cX12_idle 22 = .ok (.iload_n 1, 1) := by decide +kernel
theorem dX12_idle_23 : decode cX12_idle 23 = .ok (.iaload, 1) := by decide +kernel
theorem dX12_idle_24 : decode cX12_idle 24 = .ok (.ireturn, 1) := by decide +kernel
theorem dX12_needless_0 : decode cX12_needless 0 = .ok (.aload_n 0, 1) := by decide +kernel
theorem dX12_needless_1 : decode cX12_needless 1 = .ok (.getfield 170, 3) := by decide +kernel
theorem dX12_needless_4 : decode cX12_needless 4 = .ok (.ifCond .ne 10, 3) := by decide +kernel
theorem dX12_needless_7 : decode cX12_needless 7 = .ok (.aload_n 0, 1) := by decide +kernel
theorem dX12_needless_8 : decode cX12_needless 8 = .ok (.bipush (-5), 2) := by decide +kernel
theorem dX12_needless_10 : decode cX12_needless 10 = .ok (.invokevirtual 91, 3) := by decide +kernel
theorem dX12_needless_13 : decode cX12_needless 13 = .ok (.ireturn, 1) := by decide +kernel
theorem dX12_needless_14 : decode cX12_needless 14 = .ok (.aload_n 0, 1) := by decide +kernel
theorem dX12_needless_15 : decode cX12_needless 15 = .ok (.getfield 59, 3) := by decide +kernel
theorem dX12_needless_18 : decode cX12_needless 18 = .ok (.iconst 0, 1) := by decide +kernel
theorem dX12_needless_19 : decode cX12_needless 19 = .ok (.iaload, 1) := by decide +kernel
theorem dX12_needless_20 : decode cX12_needless 20 = .ok (.istore_n 1, 1) := by decide +kernel
theorem dX12_needless_21 : decode cX12_needless 21 = .ok (.iconst 1, 1) := by decide +kernel
theorem dX12_needless_22 : decode cX12_needless 22 = .ok (.istore_n 2, 1) := by decide +kernel
theorem dX12_needless_23 : decode cX12_needless 23 = .ok (.iload_n 2, 1) := by decide +kernel
theorem dX12_needless_24 : decode cX12_needless 24 = .ok (.aload_n 0, 1) := by decide +kernel
theorem dX12_needless_25 : decode cX12_needless 25 = .ok (.getfield 129, 3) := by decide +kernel
theorem dX12_needless_28 : decode cX12_needless 28 = .ok (.if_icmp .ge 18, 3) := by decide +kernel
theorem dX12_needless_31 : decode cX12_needless 31 = .ok (.iload_n 1, 1) := by decide +kernel
theorem dX12_needless_32 : decode cX12_needless 32 = .ok (.aload_n 0, 1) := by decide +kernel
theorem dX12_needless_33 : decode cX12_needless 33 = .ok (.getfield 59, 3) := by decide +kernel
theorem dX12_needless_36 : decode cX12_needless 36 = .ok (.iload_n 2, 1) := by decide +kernel
theorem dX12_needless_37 : decode cX12_needless 37 = .ok (.iaload, 1) := by decide +kernel
theorem dX12_needless_38 : decode cX12_needless 38 = .ok (.iand, 1) := by decide +kernel
theorem dX12_needless_39 : decode cX12_needless 39 = .ok (.istore_n 1, 1) := by decide +kernel
theorem dX12_needless_40 : decode cX12_needless 40 = .ok (.iinc 2 1, 3) := by decide +kernel
theorem dX12_needless_43 : decode cX12_needless 43 = .ok (.goto (-20), 3) := by decide +kernel
theorem dX12_needless_46 : decode cX12_needless 46 = .ok (.iload_n 1, 1) := by decide +kernel
theorem dX12_needless_47 : decode cX12_needless 47 = .ok (.ireturn, 1) := by decide +kernel
theorem dX12_meets_0 : decode cX12_meets 0 = .ok (.aload_n 0, 1) := by decide +kernel
theorem dX12_meets_1 : decode cX12_meets 1 = .ok (.iload_n 1, 1) := by decide +kernel
theorem dX12_meets_2 : decode cX12_meets 2 = .ok (.invokevirtual 176, 3) := by decide +kernel
theorem dX12_meets_5 : decode cX12_meets 5 = .ok (.istore_n 3, 1) := by decide +kernel
theorem dX12_meets_6 : decode cX12_meets 6 = .ok (.iload_n 3, 1) := by decide +kernel
theorem dX12_meets_7 : decode cX12_meets 7 = .ok (.ifCond .ne 14, 3) := by decide +kernel
theorem dX12_meets_10 : decode cX12_meets 10 = .ok (.iload_n 2, 1) := by decide +kernel
theorem dX12_meets_11 : decode cX12_meets 11 = .ok (.bipush 6, 2) := by decide +kernel
theorem dX12_meets_13 : decode cX12_meets 13 = .ok (.invokestatic 111, 3) := by decide +kernel
theorem dX12_meets_16 : decode cX12_meets 16 = .ok (.ifCond .ne 5, 3) := by decide +kernel
theorem dX12_meets_19 : decode cX12_meets 19 = .ok (.iconst (-1), 1) := by decide +kernel
theorem dX12_meets_20 : decode cX12_meets 20 = .ok (.istore_n 3, 1) := by decide +kernel
theorem dX12_meets_21 : decode cX12_meets 21 = .ok (.iload_n 3, 1) := by decide +kernel
theorem dX12_meets_22 : decode cX12_meets 22 = .ok (.ifCond .eq 11, 3) := by decide +kernel
theorem dX12_meets_25 : decode cX12_meets 25 = .ok (.aload_n 0, 1) := by decide +kernel
theorem dX12_meets_26 : decode cX12_meets 26 = .ok (.iload_n 3, 1) := by decide +kernel
theorem dX12_meets_27 : decode cX12_meets 27 = .ok (.invokevirtual 91, 3) := by decide +kernel
theorem dX12_meets_30 : decode cX12_meets 30 = .ok (.goto 13, 3) := by decide +kernel
theorem dX12_meets_33 : decode cX12_meets 33 = .ok (.aload_n 0, 1) := by decide +kernel
theorem dX12_meets_34 : decode cX12_meets 34 = .ok (.getfield 56, 3) := by decide +kernel
theorem dX12_meets_37 : decode cX12_meets 37 = .ok (.iload_n 1, 1) := by decide +kernel
theorem dX12_meets_38 : decode cX12_meets 38 = .ok (.iaload, 1) := by decide +kernel
theorem dX12_meets_39 : decode cX12_meets 39 = .ok (.iload_n 2, 1) := by decide +kernel
theorem dX12_meets_40 : decode cX12_meets 40 = .ok (.ishr, 1) := by decide +kernel
theorem dX12_meets_41 : decode cX12_meets 41 = .ok (.iconst 1, 1) := by decide +kernel
theorem dX12_meets_42 : decode cX12_meets 42 = .ok (.iand, 1) := by decide +kernel
theorem dX12_meets_43 : decode cX12_meets 43 = .ok (.ireturn, 1) := by decide +kernel
theorem dX12_choose_0 : decode cX12_choose 0 = .ok (.iload_n 1, 1) := by decide +kernel
theorem dX12_choose_1 : decode cX12_choose 1 = .ok (.bipush 6, 2) := by decide +kernel
theorem dX12_choose_3 : decode cX12_choose 3 = .ok (.invokestatic 111, 3) := by decide +kernel
theorem dX12_choose_6 : decode cX12_choose 6 = .ok (.ifCond .ne 9, 3) := by decide +kernel
theorem dX12_choose_9 : decode cX12_choose 9 = .ok (.aload_n 0, 1) := by decide +kernel
theorem dX12_choose_10 : decode cX12_choose 10 = .ok (.iconst (-1), 1) := by decide +kernel
theorem dX12_choose_11 : decode cX12_choose 11 = .ok (.invokevirtual 91, 3) := by decide +kernel
theorem dX12_choose_14 : decode cX12_choose 14 = .ok (.ireturn, 1) := by decide +kernel
theorem dX12_choose_15 : decode cX12_choose 15 = .ok (.iconst 0, 1) := by decide +kernel
theorem dX12_choose_16 : decode cX12_choose 16 = .ok (.istore_n 2, 1) := by decide +kernel
theorem dX12_choose_17 : decode cX12_choose 17 = .ok (.iload_n 2, 1) := by decide +kernel
theorem dX12_choose_18 : decode cX12_choose 18 = .ok (.aload_n 0, 1) := by decide +kernel
theorem dX12_choose_19 : decode cX12_choose 19 = .ok (.getfield 191, 3) := by decide +kernel
theorem dX12_choose_22 : decode cX12_choose 22 = .ok (.if_icmp .ge 26, 3) := by decide +kernel
theorem dX12_choose_25 : decode cX12_choose 25 = .ok (.aload_n 0, 1) := by decide +kernel
theorem dX12_choose_26 : decode cX12_choose 26 = .ok (.getfield 19, 3) := by decide +kernel
theorem dX12_choose_29 : decode cX12_choose 29 = .ok (.iload_n 2, 1) := by decide +kernel
theorem dX12_choose_30 : decode cX12_choose 30 = .ok (.iaload, 1) := by decide +kernel
theorem dX12_choose_31 : decode cX12_choose 31 = .ok (.iload_n 1, 1) := by decide +kernel
theorem dX12_choose_32 : decode cX12_choose 32 = .ok (.if_icmp .ne 10, 3) := by decide +kernel
theorem dX12_choose_35 : decode cX12_choose 35 = .ok (.aload_n 0, 1) := by decide +kernel
theorem dX12_choose_36 : decode cX12_choose 36 = .ok (.bipush (-3), 2) := by decide +kernel
theorem dX12_choose_38 : decode cX12_choose 38 = .ok (.invokevirtual 91, 3) := by decide +kernel
theorem dX12_choose_41 : decode cX12_choose 41 = .ok (.ireturn, 1) := by decide +kernel
theorem dX12_choose_42 : decode cX12_choose 42 = .ok (.iinc 2 1, 3) := by decide +kernel
theorem dX12_choose_45 : decode cX12_choose 45 = .ok (.goto (-28), 3) := by decide +kernel
theorem dX12_choose_48 : decode cX12_choose 48 = .ok (.aload_n 0, 1) := by decide +kernel
theorem dX12_choose_49 : decode cX12_choose 49 = .ok (.getfield 19, 3) := by decide +kernel
theorem dX12_choose_52 : decode cX12_choose 52 = .ok (.aload_n 0, 1) := by decide +kernel
theorem dX12_choose_53 : decode cX12_choose 53 = .ok (.getfield 191, 3) := by decide +kernel
theorem dX12_choose_56 : decode cX12_choose 56 = .ok (.iload_n 1, 1) := by decide +kernel
theorem dX12_choose_57 : decode cX12_choose 57 = .ok (.iastore, 1) := by decide +kernel
theorem dX12_choose_58 : decode cX12_choose 58 = .ok (.aload_n 0, 1) := by decide +kernel
theorem dX12_choose_59 : decode cX12_choose 59 = .ok (.dup, 1) := by decide +kernel
theorem dX12_choose_60 : decode cX12_choose 60 = .ok (.getfield 191, 3) := by decide +kernel
theorem dX12_choose_63 : decode cX12_choose 63 = .ok (.iconst 1, 1) := by decide +kernel
theorem dX12_choose_64 : decode cX12_choose 64 = .ok (.iadd, 1) := by decide +kernel
theorem dX12_choose_65 : decode cX12_choose 65 = .ok (.putfield 191, 3) := by decide +kernel
theorem dX12_choose_68 : decode cX12_choose 68 = .ok (.aload_n 0, 1) := by decide +kernel
theorem dX12_choose_69 : decode cX12_choose 69 = .ok (.getfield 191, 3) := by decide +kernel
theorem dX12_choose_72 : decode cX12_choose 72 = .ok (.ireturn, 1) := by decide +kernel
theorem dX12_unchoose_0 : decode cX12_unchoose 0 = .ok (.aload_n 0, 1) := by decide +kernel
theorem dX12_unchoose_1 : decode cX12_unchoose 1 = .ok (.getfield 191, 3) := by decide +kernel
theorem dX12_unchoose_4 : decode cX12_unchoose 4 = .ok (.istore_n 1, 1) := by decide +kernel
theorem dX12_unchoose_5 : decode cX12_unchoose 5 = .ok (.aload_n 0, 1) := by decide +kernel
theorem dX12_unchoose_6 : decode cX12_unchoose 6 = .ok (.iconst 0, 1) := by decide +kernel
theorem dX12_unchoose_7 : decode cX12_unchoose 7 = .ok (.putfield 191, 3) := by decide +kernel
theorem dX12_unchoose_10 : decode cX12_unchoose 10 = .ok (.iload_n 1, 1) := by decide +kernel
theorem dX12_unchoose_11 : decode cX12_unchoose 11 = .ok (.ireturn, 1) := by decide +kernel
theorem dX12_findOver_0 : decode cX12_findOver 0 = .ok (.iconst 0, 1) := by decide +kernel
theorem dX12_findOver_1 : decode cX12_findOver 1 = .ok (.istore_n 3, 1) := by decide +kernel
theorem dX12_findOver_2 : decode cX12_findOver 2 = .ok (.iload_n 3, 1) := by decide +kernel
theorem dX12_findOver_3 : decode cX12_findOver 3 = .ok (.aload_n 0, 1) := by decide +kernel
theorem dX12_findOver_4 : decode cX12_findOver 4 = .ok (.getfield 129, 3) := by decide +kernel
theorem dX12_findOver_7 : decode cX12_findOver 7 = .ok (.if_icmp .ge 13, 3) := by decide +kernel
theorem dX12_findOver_10 : decode cX12_findOver 10 = .ok (.aload_n 1, 1) := by decide +kernel
theorem dX12_findOver_11 : decode cX12_findOver 11 = .ok (.iload_n 3, 1) := by decide +kernel
theorem dX12_findOver_12 : decode cX12_findOver 12 = .ok (.iconst 1, 1) := by decide +kernel
theorem dX12_findOver_13 : decode cX12_findOver 13 = .ok (.bastore, 1) := by decide +kernel
theorem dX12_findOver_14 : decode cX12_findOver 14 = .ok (.iinc 3 1, 3) := by decide +kernel
theorem dX12_findOver_17 : decode cX12_findOver 17 = .ok (.goto (-15), 3) := by decide +kernel
theorem dX12_findOver_20 : decode cX12_findOver 20 = .ok (.aload_n 0, 1) := by decide +kernel
theorem dX12_findOver_21 : decode cX12_findOver 21 = .ok (.iconst 0, 1) := by decide +kernel
theorem dX12_findOver_22 : decode cX12_findOver 22 = .ok (.putfield 194, 3) := by decide +kernel
theorem dX12_findOver_25 : decode cX12_findOver 25 = .ok (.iconst 0, 1) := by decide +kernel
theorem dX12_findOver_26 : decode cX12_findOver 26 = .ok (.istore_n 3, 1) := by decide +kernel
theorem dX12_findOver_27 : decode cX12_findOver 27 = .ok (.iload_n 3, 1) := by decide +kernel
theorem dX12_findOver_28 : decode cX12_findOver 28 = .ok (.aload_n 0, 1) := by decide +kernel
theorem dX12_findOver_29 : decode cX12_findOver 29 = .ok (.getfield 191, 3) := by decide +kernel
theorem dX12_findOver_32 : decode cX12_findOver 32 = .ok (.if_icmp .ge 155, 3) := by decide +kernel
theorem dX12_findOver_35 : decode cX12_findOver 35 = .ok (.iload_n 3, 1) := by decide +kernel
theorem dX12_findOver_36 : decode cX12_findOver 36 = .ok (.iload_n 2, 1) := by decide +kernel
theorem dX12_findOver_37 : decode cX12_findOver 37 = .ok (.if_icmp .ne 6, 3) := by decide +kernel
theorem dX12_findOver_40 : decode cX12_findOver 40 = .ok (.goto 141, 3) := by decide +kernel
theorem dX12_findOver_43 : decode cX12_findOver 43 = .ok (.iconst 0, 1) := by decide +kernel
theorem dX12_findOver_44 : decode cX12_findOver 44 = .ok (.istore 4, 2) := by decide +kernel
theorem dX12_findOver_46 : decode cX12_findOver 46 = .ok (.iconst 0, 1) := by decide +kernel
theorem dX12_findOver_47 : decode cX12_findOver 47 = .ok (.istore 5, 2) := by decide +kernel
theorem dX12_findOver_49 : decode cX12_findOver 49 = .ok (.iload 5, 2) := by decide +kernel
theorem dX12_findOver_51 : decode cX12_findOver 51 = .ok (.aload_n 0, 1) := by decide +kernel
theorem dX12_findOver_52 : decode cX12_findOver 52 = .ok (.getfield 129, 3) := by decide +kernel
theorem dX12_findOver_55 : decode cX12_findOver 55 = .ok (.if_icmp .ge 48, 3) := by decide +kernel
theorem dX12_findOver_58 : decode cX12_findOver 58 = .ok (.iload 4, 2) := by decide +kernel
theorem dX12_findOver_60 : decode cX12_findOver 60 = .ok (.ifCond .ne 30, 3) := by decide +kernel
theorem dX12_findOver_63 : decode cX12_findOver 63 = .ok (.aload_n 1, 1) := by decide +kernel
theorem dX12_findOver_64 : decode cX12_findOver 64 = .ok (.iload 5, 2) := by decide +kernel
theorem dX12_findOver_66 : decode cX12_findOver 66 = .ok (.baload, 1) := by decide +kernel
theorem dX12_findOver_67 : decode cX12_findOver 67 = .ok (.ifCond .eq 27, 3) := by decide +kernel
theorem dX12_findOver_70 : decode cX12_findOver 70 = .ok (.aload_n 0, 1) := by decide +kernel
theorem dX12_findOver_71 : decode cX12_findOver 71 = .ok (.getfield 56, 3) := by decide +kernel
theorem dX12_findOver_74 : decode cX12_findOver 74 = .ok (.iload 5, 2) := by decide +kernel
theorem dX12_findOver_76 : decode cX12_findOver 76 = .ok (.iaload, 1) := by decide +kernel
theorem dX12_findOver_77 : decode cX12_findOver 77 = .ok (.aload_n 0, 1) := by decide +kernel
theorem dX12_findOver_78 : decode cX12_findOver 78 = .ok (.getfield 19, 3) := by decide +kernel
theorem dX12_findOver_81 : decode cX12_findOver 81 = .ok (.iload_n 3, 1) := by decide +kernel
theorem dX12_findOver_82 : decode cX12_findOver 82 = .ok (.iaload, 1) := by decide +kernel
theorem dX12_findOver_83 : decode cX12_findOver 83 = .ok (.ishr, 1) := by decide +kernel
theorem dX12_findOver_84 : decode cX12_findOver 84 = .ok (.iconst 1, 1) := by decide +kernel
theorem dX12_findOver_85 : decode cX12_findOver 85 = .ok (.iand, 1) := by decide +kernel
theorem dX12_findOver_86 : decode cX12_findOver 86 = .ok (.iconst 1, 1) := by decide +kernel
theorem dX12_findOver_87 : decode cX12_findOver 87 = .ok (.if_icmp .ne 7, 3) := by decide +kernel
theorem dX12_findOver_90 : decode cX12_findOver 90 = .ok (.iconst 1, 1) := by decide +kernel
theorem dX12_findOver_91 : decode cX12_findOver 91 = .ok (.goto 4, 3) := by decide +kernel
theorem dX12_findOver_94 : decode cX12_findOver 94 = .ok (.iconst 0, 1) := by decide +kernel
theorem dX12_findOver_95 : decode cX12_findOver 95 = .ok (.istore 4, 2) := by decide +kernel
theorem dX12_findOver_97 : decode cX12_findOver 97 = .ok (.iinc 5 1, 3) := by decide +kernel
theorem dX12_findOver_100 : decode cX12_findOver 100 = .ok (.goto (-51), 3) := by decide +kernel
theorem dX12_findOver_103 : decode cX12_findOver 103 = .ok (.aload_n 0, 1) := by decide +kernel
theorem dX12_findOver_104 : decode cX12_findOver 104 = .ok (.dup, 1) := by decide +kernel
theorem dX12_findOver_105 : decode cX12_findOver 105 = .ok (.getfield 194, 3) := by decide +kernel
theorem dX12_findOver_108 : decode cX12_findOver 108 = .ok (.iload 4, 2) := by decide +kernel
theorem dX12_findOver_110 : decode cX12_findOver 110 = .ok (.ifCond .eq 7, 3) := by decide +kernel
theorem dX12_findOver_113 : decode cX12_findOver 113 = .ok (.iconst 0, 1) := by decide +kernel
theorem dX12_findOver_114 : decode cX12_findOver 114 = .ok (.goto 4, 3) := by decide +kernel
theorem dX12_findOver_117 : decode cX12_findOver 117 = .ok (.iconst 1, 1) := by decide +kernel
theorem dX12_findOver_118 : decode cX12_findOver 118 = .ok (.iadd, 1) := by decide +kernel
theorem dX12_findOver_119 : decode cX12_findOver 119 = .ok (.putfield 194, 3) := by decide +kernel
theorem dX12_findOver_122 : decode cX12_findOver 122 = .ok (.iconst 0, 1) := by decide +kernel
theorem dX12_findOver_123 : decode cX12_findOver 123 = .ok (.istore 5, 2) := by decide +kernel
theorem dX12_findOver_125 : decode cX12_findOver 125 = .ok (.iload 5, 2) := by decide +kernel
theorem dX12_findOver_127 : decode cX12_findOver 127 = .ok (.aload_n 0, 1) := by decide +kernel
theorem dX12_findOver_128 : decode cX12_findOver 128 = .ok (.getfield 129, 3) := by decide +kernel
theorem dX12_findOver_131 : decode cX12_findOver 131 = .ok (.if_icmp .ge 50, 3) := by decide +kernel
theorem dX12_findOver_134 : decode cX12_findOver 134 = .ok (.iload 4, 2) := by decide +kernel
theorem dX12_findOver_136 : decode cX12_findOver 136 = .ok (.ifCond .eq 45, 3) := by decide +kernel
theorem dX12_findOver_139 : decode cX12_findOver 139 = .ok (.aload_n 1, 1) := by decide +kernel
theorem dX12_findOver_140 : decode cX12_findOver 140 = .ok (.iload 5, 2) := by decide +kernel
theorem dX12_findOver_142 : decode cX12_findOver 142 = .ok (.aload_n 1, 1) := by decide +kernel
theorem dX12_findOver_143 : decode cX12_findOver 143 = .ok (.iload 5, 2) := by decide +kernel
theorem dX12_findOver_145 : decode cX12_findOver 145 = .ok (.baload, 1) := by decide +kernel
theorem dX12_findOver_146 : decode cX12_findOver 146 = .ok (.ifCond .eq 27, 3) := by decide +kernel
theorem dX12_findOver_149 : decode cX12_findOver 149 = .ok (.aload_n 0, 1) := by decide +kernel
theorem dX12_findOver_150 : decode cX12_findOver 150 = .ok (.getfield 56, 3) := by decide +kernel
theorem dX12_findOver_153 : decode cX12_findOver 153 = .ok (.iload 5, 2) := by decide +kernel
theorem dX12_findOver_155 : decode cX12_findOver 155 = .ok (.iaload, 1) := by decide +kernel
theorem dX12_findOver_156 : decode cX12_findOver 156 = .ok (.aload_n 0, 1) := by decide +kernel
theorem dX12_findOver_157 : decode cX12_findOver 157 = .ok (.getfield 19, 3) := by decide +kernel
theorem dX12_findOver_160 : decode cX12_findOver 160 = .ok (.iload_n 3, 1) := by decide +kernel
theorem dX12_findOver_161 : decode cX12_findOver 161 = .ok (.iaload, 1) := by decide +kernel
theorem dX12_findOver_162 : decode cX12_findOver 162 = .ok (.ishr, 1) := by decide +kernel
theorem dX12_findOver_163 : decode cX12_findOver 163 = .ok (.iconst 1, 1) := by decide +kernel
theorem dX12_findOver_164 : decode cX12_findOver 164 = .ok (.iand, 1) := by decide +kernel
theorem dX12_findOver_165 : decode cX12_findOver 165 = .ok (.iconst 1, 1) := by decide +kernel
theorem dX12_findOver_166 : decode cX12_findOver 166 = .ok (.if_icmp .ne 7, 3) := by decide +kernel
theorem dX12_findOver_169 : decode cX12_findOver 169 = .ok (.iconst 1, 1) := by decide +kernel
theorem dX12_findOver_170 : decode cX12_findOver 170 = .ok (.goto 4, 3) := by decide +kernel
theorem dX12_findOver_173 : decode cX12_findOver 173 = .ok (.iconst 0, 1) := by decide +kernel
theorem dX12_findOver_174 : decode cX12_findOver 174 = .ok (.bastore, 1) := by decide +kernel
theorem dX12_findOver_175 : decode cX12_findOver 175 = .ok (.iinc 5 1, 3) := by decide +kernel
theorem dX12_findOver_178 : decode cX12_findOver 178 = .ok (.goto (-53), 3) := by decide +kernel
theorem dX12_findOver_181 : decode cX12_findOver 181 = .ok (.iinc 3 1, 3) := by decide +kernel
theorem dX12_findOver_184 : decode cX12_findOver 184 = .ok (.goto (-157), 3) := by decide +kernel
theorem dX12_findOver_187 : decode cX12_findOver 187 = .ok (.return_, 1) := by decide +kernel
theorem dX12_leftOver_0 : decode cX12_leftOver 0 = .ok (.aload_n 0, 1) := by decide +kernel
theorem dX12_leftOver_1 : decode cX12_leftOver 1 = .ok (.getfield 170, 3) := by decide +kernel
theorem dX12_leftOver_4 : decode cX12_leftOver 4 = .ok (.ifCond .ne 8, 3) := by decide +kernel
theorem dX12_leftOver_7 : decode cX12_leftOver 7 = .ok (.bipush (-5), 2) := by decide +kernel
theorem dX12_leftOver_9 : decode cX12_leftOver 9 = .ok (.goto 13, 3) := by decide +kernel
theorem dX12_leftOver_12 : decode cX12_leftOver 12 = .ok (.iload_n 1, 1) := by decide +kernel
theorem dX12_leftOver_13 : decode cX12_leftOver 13 = .ok (.iconst (-1), 1) := by decide +kernel
theorem dX12_leftOver_14 : decode cX12_leftOver 14 = .ok (.if_icmp .ge 7, 3) := by decide +kernel
theorem dX12_leftOver_17 : decode cX12_leftOver 17 = .ok (.iconst (-1), 1) := by decide +kernel
theorem dX12_leftOver_18 : decode cX12_leftOver 18 = .ok (.goto 4, 3) := by decide +kernel
theorem dX12_leftOver_21 : decode cX12_leftOver 21 = .ok (.iconst 0, 1) := by decide +kernel
theorem dX12_leftOver_22 : decode cX12_leftOver 22 = .ok (.istore_n 2, 1) := by decide +kernel
theorem dX12_leftOver_23 : decode cX12_leftOver 23 = .ok (.iload_n 2, 1) := by decide +kernel
theorem dX12_leftOver_24 : decode cX12_leftOver 24 = .ok (.ifCond .eq 9, 3) := by decide +kernel
theorem dX12_leftOver_27 : decode cX12_leftOver 27 = .ok (.aload_n 0, 1) := by decide +kernel
theorem dX12_leftOver_28 : decode cX12_leftOver 28 = .ok (.iload_n 2, 1) := by decide +kernel
theorem dX12_leftOver_29 : decode cX12_leftOver 29 = .ok (.invokevirtual 91, 3) := by decide +kernel
theorem dX12_leftOver_32 : decode cX12_leftOver 32 = .ok (.ireturn, 1) := by decide +kernel
theorem dX12_leftOver_33 : decode cX12_leftOver 33 = .ok (.aload_n 0, 1) := by decide +kernel
theorem dX12_leftOver_34 : decode cX12_leftOver 34 = .ok (.aload_n 0, 1) := by decide +kernel
theorem dX12_leftOver_35 : decode cX12_leftOver 35 = .ok (.getfield 75, 3) := by decide +kernel
theorem dX12_leftOver_38 : decode cX12_leftOver 38 = .ok (.bipush (-9), 2) := by decide +kernel
theorem dX12_leftOver_40 : decode cX12_leftOver 40 = .ok (.invokevirtual 197, 3) := by decide +kernel
theorem dX12_leftOver_43 : decode cX12_leftOver 43 = .ok (.iconst 0, 1) := by decide +kernel
theorem dX12_leftOver_44 : decode cX12_leftOver 44 = .ok (.istore_n 3, 1) := by decide +kernel
theorem dX12_leftOver_45 : decode cX12_leftOver 45 = .ok (.iconst 0, 1) := by decide +kernel
theorem dX12_leftOver_46 : decode cX12_leftOver 46 = .ok (.istore 4, 2) := by decide +kernel
theorem dX12_leftOver_48 : decode cX12_leftOver 48 = .ok (.iload 4, 2) := by decide +kernel
theorem dX12_leftOver_50 : decode cX12_leftOver 50 = .ok (.aload_n 0, 1) := by decide +kernel
theorem dX12_leftOver_51 : decode cX12_leftOver 51 = .ok (.getfield 129, 3) := by decide +kernel
theorem dX12_leftOver_54 : decode cX12_leftOver 54 = .ok (.if_icmp .ge 33, 3) := by decide +kernel
theorem dX12_leftOver_57 : decode cX12_leftOver 57 = .ok (.aload_n 0, 1) := by decide +kernel
theorem dX12_leftOver_58 : decode cX12_leftOver 58 = .ok (.getfield 75, 3) := by decide +kernel
theorem dX12_leftOver_61 : decode cX12_leftOver 61 = .ok (.iload 4, 2) := by decide +kernel
theorem dX12_leftOver_63 : decode cX12_leftOver 63 = .ok (.baload, 1) := by decide +kernel
theorem dX12_leftOver_64 : decode cX12_leftOver 64 = .ok (.ifCond .ne 6, 3) := by decide +kernel
theorem dX12_leftOver_67 : decode cX12_leftOver 67 = .ok (.goto 14, 3) := by decide +kernel
theorem dX12_leftOver_70 : decode cX12_leftOver 70 = .ok (.iload_n 3, 1) := by decide +kernel
theorem dX12_leftOver_71 : decode cX12_leftOver 71 = .ok (.iload_n 1, 1) := by decide +kernel
theorem dX12_leftOver_72 : decode cX12_leftOver 72 = .ok (.if_icmp .ne 6, 3) := by decide +kernel
theorem dX12_leftOver_75 : decode cX12_leftOver 75 = .ok (.iload 4, 2) := by decide +kernel
theorem dX12_leftOver_77 : decode cX12_leftOver 77 = .ok (.ireturn, 1) := by decide +kernel
theorem dX12_leftOver_78 : decode cX12_leftOver 78 = .ok (.iinc 3 1, 3) := by decide +kernel
theorem dX12_leftOver_81 : decode cX12_leftOver 81 = .ok (.iinc 4 1, 3) := by decide +kernel
theorem dX12_leftOver_84 : decode cX12_leftOver 84 = .ok (.goto (-36), 3) := by decide +kernel
theorem dX12_leftOver_87 : decode cX12_leftOver 87 = .ok (.iload_n 1, 1) := by decide +kernel
theorem dX12_leftOver_88 : decode cX12_leftOver 88 = .ok (.ifCond .ge 7, 3) := by decide +kernel
theorem dX12_leftOver_91 : decode cX12_leftOver 91 = .ok (.iload_n 3, 1) := by decide +kernel
theorem dX12_leftOver_92 : decode cX12_leftOver 92 = .ok (.goto 5, 3) := by decide +kernel
theorem dX12_leftOver_95 : decode cX12_leftOver 95 = .ok (.bipush (-9), 2) := by decide +kernel
theorem dX12_leftOver_97 : decode cX12_leftOver 97 = .ok (.ireturn, 1) := by decide +kernel
theorem dX12_passedOver_0 : decode cX12_passedOver 0 = .ok (.aload_n 0, 1) := by decide +kernel
theorem dX12_passedOver_1 : decode cX12_passedOver 1 = .ok (.getfield 170, 3) := by decide +kernel
theorem dX12_passedOver_4 : decode cX12_passedOver 4 = .ok (.ifCond .ne 10, 3) := by decide +kernel
theorem dX12_passedOver_7 : decode cX12_passedOver 7 = .ok (.aload_n 0, 1) := by decide +kernel
theorem dX12_passedOver_8 : decode cX12_passedOver 8 = .ok (.bipush (-5), 2) := by decide +kernel
theorem dX12_passedOver_10 : decode cX12_passedOver 10 = .ok (.invokevirtual 91, 3) := by decide +kernel
theorem dX12_passedOver_13 : decode cX12_passedOver 13 = .ok (.ireturn, 1) := by decide +kernel
theorem dX12_passedOver_14 : decode cX12_passedOver 14 = .ok (.aload_n 0, 1) := by decide +kernel
theorem dX12_passedOver_15 : decode cX12_passedOver 15 = .ok (.aload_n 0, 1) := by decide +kernel
theorem dX12_passedOver_16 : decode cX12_passedOver 16 = .ok (.getfield 75, 3) := by decide +kernel
theorem dX12_passedOver_19 : decode cX12_passedOver 19 = .ok (.bipush (-9), 2) := by decide +kernel
theorem dX12_passedOver_21 : decode cX12_passedOver 21 = .ok (.invokevirtual 197, 3) := by decide +kernel
theorem dX12_passedOver_24 : decode cX12_passedOver 24 = .ok (.aload_n 0, 1) := by decide +kernel
theorem dX12_passedOver_25 : decode cX12_passedOver 25 = .ok (.getfield 194, 3) := by decide +kernel
theorem dX12_passedOver_28 : decode cX12_passedOver 28 = .ok (.ireturn, 1) := by decide +kernel
theorem dX12_quarrel_0 : decode cX12_quarrel 0 = .ok (.aload_n 0, 1) := by decide +kernel
theorem dX12_quarrel_1 : decode cX12_quarrel 1 = .ok (.getfield 170, 3) := by decide +kernel
theorem dX12_quarrel_4 : decode cX12_quarrel 4 = .ok (.ifCond .ne 8, 3) := by decide +kernel
theorem dX12_quarrel_7 : decode cX12_quarrel 7 = .ok (.bipush (-5), 2) := by decide +kernel
theorem dX12_quarrel_9 : decode cX12_quarrel 9 = .ok (.goto 31, 3) := by decide +kernel
theorem dX12_quarrel_12 : decode cX12_quarrel 12 = .ok (.iload_n 1, 1) := by decide +kernel
theorem dX12_quarrel_13 : decode cX12_quarrel 13 = .ok (.bipush 6, 2) := by decide +kernel
theorem dX12_quarrel_15 : decode cX12_quarrel 15 = .ok (.invokestatic 111, 3) := by decide +kernel
theorem dX12_quarrel_18 : decode cX12_quarrel 18 = .ok (.ifCond .eq 21, 3) := by decide +kernel
theorem dX12_quarrel_21 : decode cX12_quarrel 21 = .ok (.iload_n 2, 1) := by decide +kernel
theorem dX12_quarrel_22 : decode cX12_quarrel 22 = .ok (.bipush 6, 2) := by decide +kernel
theorem dX12_quarrel_24 : decode cX12_quarrel 24 = .ok (.invokestatic 111, 3) := by decide +kernel
theorem dX12_quarrel_27 : decode cX12_quarrel 27 = .ok (.ifCond .eq 12, 3) := by decide +kernel
theorem dX12_quarrel_30 : decode cX12_quarrel 30 = .ok (.iload_n 1, 1) := by decide +kernel
theorem dX12_quarrel_31 : decode cX12_quarrel 31 = .ok (.iload_n 2, 1) := by decide +kernel
theorem dX12_quarrel_32 : decode cX12_quarrel 32 = .ok (.if_icmp .eq 7, 3) := by decide +kernel
theorem dX12_quarrel_35 : decode cX12_quarrel 35 = .ok (.iconst 0, 1) := by decide +kernel
theorem dX12_quarrel_36 : decode cX12_quarrel 36 = .ok (.goto 4, 3) := by decide +kernel
theorem dX12_quarrel_39 : decode cX12_quarrel 39 = .ok (.iconst (-1), 1) := by decide +kernel
theorem dX12_quarrel_40 : decode cX12_quarrel 40 = .ok (.istore_n 3, 1) := by decide +kernel
theorem dX12_quarrel_41 : decode cX12_quarrel 41 = .ok (.iload_n 3, 1) := by decide +kernel
theorem dX12_quarrel_42 : decode cX12_quarrel 42 = .ok (.ifCond .eq 9, 3) := by decide +kernel
theorem dX12_quarrel_45 : decode cX12_quarrel 45 = .ok (.aload_n 0, 1) := by decide +kernel
theorem dX12_quarrel_46 : decode cX12_quarrel 46 = .ok (.iload_n 3, 1) := by decide +kernel
theorem dX12_quarrel_47 : decode cX12_quarrel 47 = .ok (.invokevirtual 91, 3) := by decide +kernel
theorem dX12_quarrel_50 : decode cX12_quarrel 50 = .ok (.ireturn, 1) := by decide +kernel
theorem dX12_quarrel_51 : decode cX12_quarrel 51 = .ok (.iconst 0, 1) := by decide +kernel
theorem dX12_quarrel_52 : decode cX12_quarrel 52 = .ok (.istore 4, 2) := by decide +kernel
theorem dX12_quarrel_54 : decode cX12_quarrel 54 = .ok (.iconst 0, 1) := by decide +kernel
theorem dX12_quarrel_55 : decode cX12_quarrel 55 = .ok (.istore 5, 2) := by decide +kernel
theorem dX12_quarrel_57 : decode cX12_quarrel 57 = .ok (.iconst 0, 1) := by decide +kernel
theorem dX12_quarrel_58 : decode cX12_quarrel 58 = .ok (.istore 6, 2) := by decide +kernel
theorem dX12_quarrel_60 : decode cX12_quarrel 60 = .ok (.iload 6, 2) := by decide +kernel
theorem dX12_quarrel_62 : decode cX12_quarrel 62 = .ok (.aload_n 0, 1) := by decide +kernel
theorem dX12_quarrel_63 : decode cX12_quarrel 63 = .ok (.getfield 129, 3) := by decide +kernel
theorem dX12_quarrel_66 : decode cX12_quarrel 66 = .ok (.if_icmp .ge 99, 3) := by decide +kernel
theorem dX12_quarrel_69 : decode cX12_quarrel 69 = .ok (.aload_n 0, 1) := by decide +kernel
theorem dX12_quarrel_70 : decode cX12_quarrel 70 = .ok (.getfield 56, 3) := by decide +kernel
theorem dX12_quarrel_73 : decode cX12_quarrel 73 = .ok (.iload 6, 2) := by decide +kernel
theorem dX12_quarrel_75 : decode cX12_quarrel 75 = .ok (.iaload, 1) := by decide +kernel
theorem dX12_quarrel_76 : decode cX12_quarrel 76 = .ok (.iload_n 1, 1) := by decide +kernel
theorem dX12_quarrel_77 : decode cX12_quarrel 77 = .ok (.ishr, 1) := by decide +kernel
theorem dX12_quarrel_78 : decode cX12_quarrel 78 = .ok (.iconst 1, 1) := by decide +kernel
theorem dX12_quarrel_79 : decode cX12_quarrel 79 = .ok (.iand, 1) := by decide +kernel
theorem dX12_quarrel_80 : decode cX12_quarrel 80 = .ok (.iconst 1, 1) := by decide +kernel
theorem dX12_quarrel_81 : decode cX12_quarrel 81 = .ok (.if_icmp .ne 7, 3) := by decide +kernel
theorem dX12_quarrel_84 : decode cX12_quarrel 84 = .ok (.iconst 1, 1) := by decide +kernel
theorem dX12_quarrel_85 : decode cX12_quarrel 85 = .ok (.goto 4, 3) := by decide +kernel
theorem dX12_quarrel_88 : decode cX12_quarrel 88 = .ok (.iconst 0, 1) := by decide +kernel
theorem dX12_quarrel_89 : decode cX12_quarrel 89 = .ok (.istore 7, 2) := by decide +kernel
theorem dX12_quarrel_91 : decode cX12_quarrel 91 = .ok (.aload_n 0, 1) := by decide +kernel
theorem dX12_quarrel_92 : decode cX12_quarrel 92 = .ok (.getfield 56, 3) := by decide +kernel
theorem dX12_quarrel_95 : decode cX12_quarrel 95 = .ok (.iload 6, 2) := by decide +kernel
theorem dX12_quarrel_97 : decode cX12_quarrel 97 = .ok (.iaload, 1) := by decide +kernel
theorem dX12_quarrel_98 : decode cX12_quarrel 98 = .ok (.iload_n 2, 1) := by decide +kernel
theorem dX12_quarrel_99 : decode cX12_quarrel 99 = .ok (.ishr, 1) := by decide +kernel
theorem dX12_quarrel_100 : decode cX12_quarrel 100 = .ok (.iconst 1, 1) := by decide +kernel
theorem dX12_quarrel_101 : decode cX12_quarrel 101 = .ok (.iand, 1) := by decide +kernel
theorem dX12_quarrel_102 : decode cX12_quarrel 102 = .ok (.iconst 1, 1) := by decide +kernel
theorem dX12_quarrel_103 : decode cX12_quarrel 103 = .ok (.if_icmp .ne 7, 3) := by decide +kernel
theorem dX12_quarrel_106 : decode cX12_quarrel 106 = .ok (.iconst 1, 1) := by decide +kernel
theorem dX12_quarrel_107 : decode cX12_quarrel 107 = .ok (.goto 4, 3) := by decide +kernel
theorem dX12_quarrel_110 : decode cX12_quarrel 110 = .ok (.iconst 0, 1) := by decide +kernel
theorem dX12_quarrel_111 : decode cX12_quarrel 111 = .ok (.istore 8, 2) := by decide +kernel
theorem dX12_quarrel_113 : decode cX12_quarrel 113 = .ok (.iload 7, 2) := by decide +kernel
theorem dX12_quarrel_115 : decode cX12_quarrel 115 = .ok (.ifCond .eq 10, 3) := by decide +kernel
theorem dX12_quarrel_118 : decode cX12_quarrel 118 = .ok (.iload 8, 2) := by decide +kernel
theorem dX12_quarrel_120 : decode cX12_quarrel 120 = .ok (.ifCond .eq 5, 3) := by decide +kernel
theorem dX12_quarrel_123 : decode cX12_quarrel 123 = .ok (.iconst 0, 1) := by decide +kernel
theorem dX12_quarrel_124 : decode cX12_quarrel 124 = .ok (.ireturn, 1) := by decide +kernel
theorem dX12_quarrel_125 : decode cX12_quarrel 125 = .ok (.iload 4, 2) := by decide +kernel
theorem dX12_quarrel_127 : decode cX12_quarrel 127 = .ok (.ifCond .ne 8, 3) := by decide +kernel
theorem dX12_quarrel_130 : decode cX12_quarrel 130 = .ok (.iload 7, 2) := by decide +kernel
theorem dX12_quarrel_132 : decode cX12_quarrel 132 = .ok (.ifCond .eq 7, 3) := by decide +kernel
theorem dX12_quarrel_135 : decode cX12_quarrel 135 = .ok (.iconst 1, 1) := by decide +kernel
theorem dX12_quarrel_136 : decode cX12_quarrel 136 = .ok (.goto 4, 3) := by decide +kernel
theorem dX12_quarrel_139 : decode cX12_quarrel 139 = .ok (.iconst 0, 1) := by decide +kernel
theorem dX12_quarrel_140 : decode cX12_quarrel 140 = .ok (.istore 4, 2) := by decide +kernel
theorem dX12_quarrel_142 : decode cX12_quarrel 142 = .ok (.iload 5, 2) := by decide +kernel
theorem dX12_quarrel_144 : decode cX12_quarrel 144 = .ok (.ifCond .ne 8, 3) := by decide +kernel
theorem dX12_quarrel_147 : decode cX12_quarrel 147 = .ok (.iload 8, 2) := by decide +kernel
theorem dX12_quarrel_149 : decode cX12_quarrel 149 = .ok (.ifCond .eq 7, 3) := by decide +kernel
theorem dX12_quarrel_152 : decode cX12_quarrel 152 = .ok (.iconst 1, 1) := by decide +kernel
theorem dX12_quarrel_153 : decode cX12_quarrel 153 = .ok (.goto 4, 3) := by decide +kernel
theorem dX12_quarrel_156 : decode cX12_quarrel 156 = .ok (.iconst 0, 1) := by decide +kernel
theorem dX12_quarrel_157 : decode cX12_quarrel 157 = .ok (.istore 5, 2) := by decide +kernel
theorem dX12_quarrel_159 : decode cX12_quarrel 159 = .ok (.iinc 6 1, 3) := by decide +kernel
theorem dX12_quarrel_162 : decode cX12_quarrel 162 = .ok (.goto (-102), 3) := by decide +kernel
theorem dX12_quarrel_165 : decode cX12_quarrel 165 = .ok (.iload 4, 2) := by decide +kernel
theorem dX12_quarrel_167 : decode cX12_quarrel 167 = .ok (.ifCond .eq 12, 3) := by decide +kernel
theorem dX12_quarrel_170 : decode cX12_quarrel 170 = .ok (.iload 5, 2) := by decide +kernel
theorem dX12_quarrel_172 : decode cX12_quarrel 172 = .ok (.ifCond .eq 7, 3) := by decide +kernel
theorem dX12_quarrel_175 : decode cX12_quarrel 175 = .ok (.iconst 1, 1) := by decide +kernel
theorem dX12_quarrel_176 : decode cX12_quarrel 176 = .ok (.goto 4, 3) := by decide +kernel
theorem dX12_quarrel_179 : decode cX12_quarrel 179 = .ok (.iconst 0, 1) := by decide +kernel
theorem dX12_quarrel_180 : decode cX12_quarrel 180 = .ok (.ireturn, 1) := by decide +kernel
theorem dX12_hangs_0 : decode cX12_hangs 0 = .ok (.aload_n 0, 1) := by decide +kernel
theorem dX12_hangs_1 : decode cX12_hangs 1 = .ok (.getfield 170, 3) := by decide +kernel
theorem dX12_hangs_4 : decode cX12_hangs 4 = .ok (.ifCond .ne 10, 3) := by decide +kernel
theorem dX12_hangs_7 : decode cX12_hangs 7 = .ok (.aload_n 0, 1) := by decide +kernel
theorem dX12_hangs_8 : decode cX12_hangs 8 = .ok (.bipush (-5), 2) := by decide +kernel
theorem dX12_hangs_10 : decode cX12_hangs 10 = .ok (.invokevirtual 91, 3) := by decide +kernel
theorem dX12_hangs_13 : decode cX12_hangs 13 = .ok (.ireturn, 1) := by decide +kernel
theorem dX12_hangs_14 : decode cX12_hangs 14 = .ok (.iconst 0, 1) := by decide +kernel
theorem dX12_hangs_15 : decode cX12_hangs 15 = .ok (.istore_n 1, 1) := by decide +kernel
theorem dX12_hangs_16 : decode cX12_hangs 16 = .ok (.aload_n 0, 1) := by decide +kernel
theorem dX12_hangs_17 : decode cX12_hangs 17 = .ok (.aload_n 0, 1) := by decide +kernel
theorem dX12_hangs_18 : decode cX12_hangs 18 = .ok (.getfield 75, 3) := by decide +kernel
theorem dX12_hangs_21 : decode cX12_hangs 21 = .ok (.bipush (-9), 2) := by decide +kernel
theorem dX12_hangs_23 : decode cX12_hangs 23 = .ok (.invokevirtual 197, 3) := by decide +kernel
theorem dX12_hangs_26 : decode cX12_hangs 26 = .ok (.iconst 0, 1) := by decide +kernel
theorem dX12_hangs_27 : decode cX12_hangs 27 = .ok (.istore_n 2, 1) := by decide +kernel
theorem dX12_hangs_28 : decode cX12_hangs 28 = .ok (.iload_n 2, 1) := by decide +kernel
theorem dX12_hangs_29 : decode cX12_hangs 29 = .ok (.aload_n 0, 1) := by decide +kernel
theorem dX12_hangs_30 : decode cX12_hangs 30 = .ok (.getfield 191, 3) := by decide +kernel
theorem dX12_hangs_33 : decode cX12_hangs 33 = .ok (.if_icmp .ge 84, 3) := by decide +kernel
theorem dX12_hangs_36 : decode cX12_hangs 36 = .ok (.aload_n 0, 1) := by decide +kernel
theorem dX12_hangs_37 : decode cX12_hangs 37 = .ok (.aload_n 0, 1) := by decide +kernel
theorem dX12_hangs_38 : decode cX12_hangs 38 = .ok (.getfield 79, 3) := by decide +kernel
theorem dX12_hangs_41 : decode cX12_hangs 41 = .ok (.iload_n 2, 1) := by decide +kernel
theorem dX12_hangs_42 : decode cX12_hangs 42 = .ok (.invokevirtual 197, 3) := by decide +kernel
theorem dX12_hangs_45 : decode cX12_hangs 45 = .ok (.iconst 1, 1) := by decide +kernel
theorem dX12_hangs_46 : decode cX12_hangs 46 = .ok (.istore_n 3, 1) := by decide +kernel
theorem dX12_hangs_47 : decode cX12_hangs 47 = .ok (.iconst 0, 1) := by decide +kernel
theorem dX12_hangs_48 : decode cX12_hangs 48 = .ok (.istore 4, 2) := by decide +kernel
theorem dX12_hangs_50 : decode cX12_hangs 50 = .ok (.iload 4, 2) := by decide +kernel
theorem dX12_hangs_52 : decode cX12_hangs 52 = .ok (.aload_n 0, 1) := by decide +kernel
theorem dX12_hangs_53 : decode cX12_hangs 53 = .ok (.getfield 129, 3) := by decide +kernel
theorem dX12_hangs_56 : decode cX12_hangs 56 = .ok (.if_icmp .ge 36, 3) := by decide +kernel
theorem dX12_hangs_59 : decode cX12_hangs 59 = .ok (.iload_n 3, 1) := by decide +kernel
theorem dX12_hangs_60 : decode cX12_hangs 60 = .ok (.ifCond .eq 24, 3) := by decide +kernel
theorem dX12_hangs_63 : decode cX12_hangs 63 = .ok (.aload_n 0, 1) := by decide +kernel
theorem dX12_hangs_64 : decode cX12_hangs 64 = .ok (.getfield 75, 3) := by decide +kernel
theorem dX12_hangs_67 : decode cX12_hangs 67 = .ok (.iload 4, 2) := by decide +kernel
theorem dX12_hangs_69 : decode cX12_hangs 69 = .ok (.baload, 1) := by decide +kernel
theorem dX12_hangs_70 : decode cX12_hangs 70 = .ok (.aload_n 0, 1) := by decide +kernel
theorem dX12_hangs_71 : decode cX12_hangs 71 = .ok (.getfield 79, 3) := by decide +kernel
theorem dX12_hangs_74 : decode cX12_hangs 74 = .ok (.iload 4, 2) := by decide +kernel
theorem dX12_hangs_76 : decode cX12_hangs 76 = .ok (.baload, 1) := by decide +kernel
theorem dX12_hangs_77 : decode cX12_hangs 77 = .ok (.if_icmp .ne 7, 3) := by decide +kernel
theorem dX12_hangs_80 : decode cX12_hangs 80 = .ok (.iconst 1, 1) := by decide +kernel
theorem dX12_hangs_81 : decode cX12_hangs 81 = .ok (.goto 4, 3) := by decide +kernel
theorem dX12_hangs_84 : decode cX12_hangs 84 = .ok (.iconst 0, 1) := by decide +kernel
theorem dX12_hangs_85 : decode cX12_hangs 85 = .ok (.istore_n 3, 1) := by decide +kernel
theorem dX12_hangs_86 : decode cX12_hangs 86 = .ok (.iinc 4 1, 3) := by decide +kernel
theorem dX12_hangs_89 : decode cX12_hangs 89 = .ok (.goto (-39), 3) := by decide +kernel
theorem dX12_hangs_92 : decode cX12_hangs 92 = .ok (.iload_n 1, 1) := by decide +kernel
theorem dX12_hangs_93 : decode cX12_hangs 93 = .ok (.iload_n 3, 1) := by decide +kernel
theorem dX12_hangs_94 : decode cX12_hangs 94 = .ok (.ifCond .eq 7, 3) := by decide +kernel
theorem dX12_hangs_97 : decode cX12_hangs 97 = .ok (.iconst 0, 1) := by decide +kernel
theorem dX12_hangs_98 : decode cX12_hangs 98 = .ok (.goto 11, 3) := by decide +kernel
theorem dX12_hangs_101 : decode cX12_hangs 101 = .ok (.iconst 1, 1) := by decide +kernel
theorem dX12_hangs_102 : decode cX12_hangs 102 = .ok (.aload_n 0, 1) := by decide +kernel
theorem dX12_hangs_103 : decode cX12_hangs 103 = .ok (.getfield 19, 3) := by decide +kernel
theorem dX12_hangs_106 : decode cX12_hangs 106 = .ok (.iload_n 2, 1) := by decide +kernel
theorem dX12_hangs_107 : decode cX12_hangs 107 = .ok (.iaload, 1) := by decide +kernel
theorem dX12_hangs_108 : decode cX12_hangs 108 = .ok (.ishl, 1) := by decide +kernel
theorem dX12_hangs_109 : decode cX12_hangs 109 = .ok (.ior, 1) := by decide +kernel
theorem dX12_hangs_110 : decode cX12_hangs 110 = .ok (.istore_n 1, 1) := by decide +kernel
theorem dX12_hangs_111 : decode cX12_hangs 111 = .ok (.iinc 2 1, 3) := by decide +kernel
theorem dX12_hangs_114 : decode cX12_hangs 114 = .ok (.goto (-86), 3) := by decide +kernel
theorem dX12_hangs_117 : decode cX12_hangs 117 = .ok (.iload_n 1, 1) := by decide +kernel
theorem dX12_hangs_118 : decode cX12_hangs 118 = .ok (.ireturn, 1) := by decide +kernel
theorem dX12_test_0 : decode cX12_test 0 = .ok (.aload_n 0, 1) := by decide +kernel
theorem dX12_test_1 : decode cX12_test 1 = .ok (.getfield 170, 3) := by decide +kernel
theorem dX12_test_4 : decode cX12_test 4 = .ok (.ifCond .ne 10, 3) := by decide +kernel
theorem dX12_test_7 : decode cX12_test 7 = .ok (.aload_n 0, 1) := by decide +kernel
theorem dX12_test_8 : decode cX12_test 8 = .ok (.bipush (-5), 2) := by decide +kernel
theorem dX12_test_10 : decode cX12_test 10 = .ok (.invokevirtual 91, 3) := by decide +kernel
theorem dX12_test_13 : decode cX12_test 13 = .ok (.ireturn, 1) := by decide +kernel
theorem dX12_test_14 : decode cX12_test 14 = .ok (.bipush (-9), 2) := by decide +kernel
theorem dX12_test_16 : decode cX12_test 16 = .ok (.istore_n 1, 1) := by decide +kernel
theorem dX12_test_17 : decode cX12_test 17 = .ok (.iconst 0, 1) := by decide +kernel
theorem dX12_test_18 : decode cX12_test 18 = .ok (.istore_n 2, 1) := by decide +kernel
theorem dX12_test_19 : decode cX12_test 19 = .ok (.iconst 0, 1) := by decide +kernel
theorem dX12_test_20 : decode cX12_test 20 = .ok (.istore_n 3, 1) := by decide +kernel
theorem dX12_test_21 : decode cX12_test 21 = .ok (.iload_n 3, 1) := by decide +kernel
theorem dX12_test_22 : decode cX12_test 22 = .ok (.bipush 32, 2) := by decide +kernel
theorem dX12_test_24 : decode cX12_test 24 = .ok (.if_icmp .ge 56, 3) := by decide +kernel
theorem dX12_test_27 : decode cX12_test 27 = .ok (.iconst 2, 1) := by decide +kernel
theorem dX12_test_28 : decode cX12_test 28 = .ok (.aload_n 0, 1) := by decide +kernel
theorem dX12_test_29 : decode cX12_test 29 = .ok (.iload_n 3, 1) := by decide +kernel
theorem dX12_test_30 : decode cX12_test 30 = .ok (.invokevirtual 182, 3) := by decide +kernel
theorem dX12_test_33 : decode cX12_test 33 = .ok (.imul, 1) := by decide +kernel
theorem dX12_test_34 : decode cX12_test 34 = .ok (.aload_n 0, 1) := by decide +kernel
theorem dX12_test_35 : decode cX12_test 35 = .ok (.getfield 129, 3) := by decide +kernel
theorem dX12_test_38 : decode cX12_test 38 = .ok (.isub, 1) := by decide +kernel
theorem dX12_test_39 : decode cX12_test 39 = .ok (.istore 4, 2) := by decide +kernel
theorem dX12_test_41 : decode cX12_test 41 = .ok (.iload 4, 2) := by decide +kernel
theorem dX12_test_43 : decode cX12_test 43 = .ok (.ifCond .ge 9, 3) := by decide +kernel
theorem dX12_test_46 : decode cX12_test 46 = .ok (.iload 4, 2) := by decide +kernel
theorem dX12_test_48 : decode cX12_test 48 = .ok (.ineg, 1) := by decide +kernel
theorem dX12_test_49 : decode cX12_test 49 = .ok (.goto 5, 3) := by decide +kernel
theorem dX12_test_52 : decode cX12_test 52 = .ok (.iload 4, 2) := by decide +kernel
theorem dX12_test_54 : decode cX12_test 54 = .ok (.istore 4, 2) := by decide +kernel
theorem dX12_test_56 : decode cX12_test 56 = .ok (.iload_n 1, 1) := by decide +kernel
theorem dX12_test_57 : decode cX12_test 57 = .ok (.ifCond .lt 12, 3) := by decide +kernel
theorem dX12_test_60 : decode cX12_test 60 = .ok (.iload 4, 2) := by decide +kernel
theorem dX12_test_62 : decode cX12_test 62 = .ok (.iload_n 2, 1) := by decide +kernel
theorem dX12_test_63 : decode cX12_test 63 = .ok (.if_icmp .lt 6, 3) := by decide +kernel
theorem dX12_test_66 : decode cX12_test 66 = .ok (.goto 8, 3) := by decide +kernel
theorem dX12_test_69 : decode cX12_test 69 = .ok (.iload_n 3, 1) := by decide +kernel
theorem dX12_test_70 : decode cX12_test 70 = .ok (.istore_n 1, 1) := by decide +kernel
theorem dX12_test_71 : decode cX12_test 71 = .ok (.iload 4, 2) := by decide +kernel
theorem dX12_test_73 : decode cX12_test 73 = .ok (.istore_n 2, 1) := by decide +kernel
theorem dX12_test_74 : decode cX12_test 74 = .ok (.iinc 3 1, 3) := by decide +kernel
theorem dX12_test_77 : decode cX12_test 77 = .ok (.goto (-56), 3) := by decide +kernel
theorem dX12_test_80 : decode cX12_test 80 = .ok (.iload_n 1, 1) := by decide +kernel
theorem dX12_test_81 : decode cX12_test 81 = .ok (.ireturn, 1) := by decide +kernel
theorem dX12_isParted_0 : decode cX12_isParted 0 = .ok (.iconst 0, 1) := by decide +kernel
theorem dX12_isParted_1 : decode cX12_isParted 1 = .ok (.istore_n 3, 1) := by decide +kernel
theorem dX12_isParted_2 : decode cX12_isParted 2 = .ok (.iload_n 3, 1) := by decide +kernel
theorem dX12_isParted_3 : decode cX12_isParted 3 = .ok (.aload_n 0, 1) := by decide +kernel
theorem dX12_isParted_4 : decode cX12_isParted 4 = .ok (.getfield 185, 3) := by decide +kernel
theorem dX12_isParted_7 : decode cX12_isParted 7 = .ok (.if_icmp .ge 47, 3) := by decide +kernel
theorem dX12_isParted_10 : decode cX12_isParted 10 = .ok (.iconst 0, 1) := by decide +kernel
theorem dX12_isParted_11 : decode cX12_isParted 11 = .ok (.istore 4, 2) := by decide +kernel
theorem dX12_isParted_13 : decode cX12_isParted 13 = .ok (.iload 4, 2) := by decide +kernel
theorem dX12_isParted_15 : decode cX12_isParted 15 = .ok (.iload_n 3, 1) := by decide +kernel
theorem dX12_isParted_16 : decode cX12_isParted 16 = .ok (.if_icmp .ge 32, 3) := by decide +kernel
theorem dX12_isParted_19 : decode cX12_isParted 19 = .ok (.aload_n 0, 1) := by decide +kernel
theorem dX12_isParted_20 : decode cX12_isParted 20 = .ok (.getfield 72, 3) := by decide +kernel
theorem dX12_isParted_23 : decode cX12_isParted 23 = .ok (.iload_n 3, 1) := by decide +kernel
theorem dX12_isParted_24 : decode cX12_isParted 24 = .ok (.laload, 1) := by decide +kernel
theorem dX12_isParted_25 : decode cX12_isParted 25 = .ok (.aload_n 0, 1) := by decide +kernel
theorem dX12_isParted_26 : decode cX12_isParted 26 = .ok (.getfield 72, 3) := by decide +kernel
theorem dX12_isParted_29 : decode cX12_isParted 29 = .ok (.iload 4, 2) := by decide +kernel
theorem dX12_isParted_31 : decode cX12_isParted 31 = .ok (.laload, 1) := by decide +kernel
theorem dX12_isParted_32 : decode cX12_isParted 32 = .ok (.lxor, 1) := by decide +kernel
theorem dX12_isParted_33 : decode cX12_isParted 33 = .ok (.lload_n 1, 1) := by decide +kernel
theorem dX12_isParted_34 : decode cX12_isParted 34 = .ok (.land, 1) := by decide +kernel
theorem dX12_isParted_35 : decode cX12_isParted 35 = .ok (.lconst 0, 1) := by decide +kernel
theorem dX12_isParted_36 : decode cX12_isParted 36 = .ok (.lcmp, 1) := by decide +kernel
theorem dX12_isParted_37 : decode cX12_isParted 37 = .ok (.ifCond .ne 5, 3) := by decide +kernel
theorem dX12_isParted_40 : decode cX12_isParted 40 = .ok (.iconst 0, 1) := by decide +kernel
theorem dX12_isParted_41 : decode cX12_isParted 41 = .ok (.ireturn, 1) := by decide +kernel
theorem dX12_isParted_42 : decode cX12_isParted 42 = .ok (.iinc 4 1, 3) := by decide +kernel
theorem dX12_isParted_45 : decode cX12_isParted 45 = .ok (.goto (-32), 3) := by decide +kernel
theorem dX12_isParted_48 : decode cX12_isParted 48 = .ok (.iinc 3 1, 3) := by decide +kernel
theorem dX12_isParted_51 : decode cX12_isParted 51 = .ok (.goto (-49), 3) := by decide +kernel
theorem dX12_isParted_54 : decode cX12_isParted 54 = .ok (.iconst 1, 1) := by decide +kernel
theorem dX12_isParted_55 : decode cX12_isParted 55 = .ok (.ireturn, 1) := by decide +kernel
theorem dX12_isPartedBy_0 : decode cX12_isPartedBy 0 = .ok (.iload_n 1, 1) := by decide +kernel
theorem dX12_isPartedBy_1 : decode cX12_isPartedBy 1 = .ok (.ifCond .ne 9, 3) := by decide +kernel
theorem dX12_isPartedBy_4 : decode cX12_isPartedBy 4 = .ok (.aload_n 0, 1) := by decide +kernel
theorem dX12_isPartedBy_5 : decode cX12_isPartedBy 5 = .ok (.lload_n 3, 1) := by decide +kernel
theorem dX12_isPartedBy_6 : decode cX12_isPartedBy 6 = .ok (.invokevirtual 201, 3) := by decide +kernel
theorem dX12_isPartedBy_9 : decode cX12_isPartedBy 9 = .ok (.ireturn, 1) := by decide +kernel
theorem dX12_isPartedBy_10 : decode cX12_isPartedBy 10 = .ok (.iload_n 2, 1) := by decide +kernel
theorem dX12_isPartedBy_11 : decode cX12_isPartedBy 11 = .ok (.istore 5, 2) := by decide +kernel
theorem dX12_isPartedBy_13 : decode cX12_isPartedBy 13 = .ok (.iload 5, 2) := by decide +kernel
theorem dX12_isPartedBy_15 : decode cX12_isPartedBy 15 = .ok (.bipush 32, 2) := by decide +kernel
theorem dX12_isPartedBy_17 : decode cX12_isPartedBy 17 = .ok (.if_icmp .ge 31, 3) := by decide +kernel
theorem dX12_isPartedBy_20 : decode cX12_isPartedBy 20 = .ok (.aload_n 0, 1) := by decide +kernel
theorem dX12_isPartedBy_21 : decode cX12_isPartedBy 21 = .ok (.iload_n 1, 1) := by decide +kernel
theorem dX12_isPartedBy_22 : decode cX12_isPartedBy 22 = .ok (.iconst 1, 1) := by decide +kernel
theorem dX12_isPartedBy_23 : decode cX12_isPartedBy 23 = .ok (.isub, 1) := by decide +kernel
theorem dX12_isPartedBy_24 : decode cX12_isPartedBy 24 = .ok (.iload 5, 2) := by decide +kernel
theorem dX12_isPartedBy_26 : decode cX12_isPartedBy 26 = .ok (.iconst 1, 1) := by decide +kernel
theorem dX12_isPartedBy_27 : decode cX12_isPartedBy 27 = .ok (.iadd, 1) := by decide +kernel
theorem dX12_isPartedBy_28 : decode cX12_isPartedBy 28 = .ok (.lload_n 3, 1) := by decide +kernel
theorem dX12_isPartedBy_29 : decode cX12_isPartedBy 29 = .ok (.lconst 1, 1) := by decide +kernel
theorem dX12_isPartedBy_30 : decode cX12_isPartedBy 30 = .ok (.iload 5, 2) := by decide +kernel
theorem dX12_isPartedBy_32 : decode cX12_isPartedBy 32 = .ok (.lshl, 1) := by decide +kernel
theorem dX12_isPartedBy_33 : decode cX12_isPartedBy 33 = .ok (.lor, 1) := by decide +kernel
theorem dX12_isPartedBy_34 : decode cX12_isPartedBy 34 = .ok (.invokevirtual 205, 3) := by decide +kernel
theorem dX12_isPartedBy_37 : decode cX12_isPartedBy 37 = .ok (.ifCond .eq 5, 3) := by decide +kernel
theorem dX12_isPartedBy_40 : decode cX12_isPartedBy 40 = .ok (.iconst 1, 1) := by decide +kernel
theorem dX12_isPartedBy_41 : decode cX12_isPartedBy 41 = .ok (.ireturn, 1) := by decide +kernel
theorem dX12_isPartedBy_42 : decode cX12_isPartedBy 42 = .ok (.iinc 5 1, 3) := by decide +kernel
theorem dX12_isPartedBy_45 : decode cX12_isPartedBy 45 = .ok (.goto (-32), 3) := by decide +kernel
theorem dX12_isPartedBy_48 : decode cX12_isPartedBy 48 = .ok (.iconst 0, 1) := by decide +kernel
theorem dX12_isPartedBy_49 : decode cX12_isPartedBy 49 = .ok (.ireturn, 1) := by decide +kernel
theorem dX12_fewest_0 : decode cX12_fewest 0 = .ok (.aload_n 0, 1) := by decide +kernel
theorem dX12_fewest_1 : decode cX12_fewest 1 = .ok (.getfield 170, 3) := by decide +kernel
theorem dX12_fewest_4 : decode cX12_fewest 4 = .ok (.ifCond .ne 10, 3) := by decide +kernel
theorem dX12_fewest_7 : decode cX12_fewest 7 = .ok (.aload_n 0, 1) := by decide +kernel
theorem dX12_fewest_8 : decode cX12_fewest 8 = .ok (.bipush (-5), 2) := by decide +kernel
theorem dX12_fewest_10 : decode cX12_fewest 10 = .ok (.invokevirtual 91, 3) := by decide +kernel
theorem dX12_fewest_13 : decode cX12_fewest 13 = .ok (.ireturn, 1) := by decide +kernel
theorem dX12_fewest_14 : decode cX12_fewest 14 = .ok (.aload_n 0, 1) := by decide +kernel
theorem dX12_fewest_15 : decode cX12_fewest 15 = .ok (.invokevirtual 188, 3) := by decide +kernel
theorem dX12_fewest_18 : decode cX12_fewest 18 = .ok (.aload_n 0, 1) := by decide +kernel
theorem dX12_fewest_19 : decode cX12_fewest 19 = .ok (.getfield 185, 3) := by decide +kernel
theorem dX12_fewest_22 : decode cX12_fewest 22 = .ok (.bipush 8, 2) := by decide +kernel
theorem dX12_fewest_24 : decode cX12_fewest 24 = .ok (.if_icmp .le 6, 3) := by decide +kernel
theorem dX12_fewest_27 : decode cX12_fewest 27 = .ok (.bipush (-9), 2) := by decide +kernel
theorem dX12_fewest_29 : decode cX12_fewest 29 = .ok (.ireturn, 1) := by decide +kernel
theorem dX12_fewest_30 : decode cX12_fewest 30 = .ok (.iconst 0, 1) := by decide +kernel
theorem dX12_fewest_31 : decode cX12_fewest 31 = .ok (.istore_n 1, 1) := by decide +kernel
theorem dX12_fewest_32 : decode cX12_fewest 32 = .ok (.iload_n 1, 1) := by decide +kernel
theorem dX12_fewest_33 : decode cX12_fewest 33 = .ok (.iconst 4, 1) := by decide +kernel
theorem dX12_fewest_34 : decode cX12_fewest 34 = .ok (.if_icmp .ge 21, 3) := by decide +kernel
theorem dX12_fewest_37 : decode cX12_fewest 37 = .ok (.aload_n 0, 1) := by decide +kernel
theorem dX12_fewest_38 : decode cX12_fewest 38 = .ok (.iload_n 1, 1) := by decide +kernel
theorem dX12_fewest_39 : decode cX12_fewest 39 = .ok (.iconst 0, 1) := by decide +kernel
theorem dX12_fewest_40 : decode cX12_fewest 40 = .ok (.lconst 0, 1) := by decide +kernel
theorem dX12_fewest_41 : decode cX12_fewest 41 = .ok (.invokevirtual 205, 3) := by decide +kernel
theorem dX12_fewest_44 : decode cX12_fewest 44 = .ok (.ifCond .eq 5, 3) := by decide +kernel
theorem dX12_fewest_47 : decode cX12_fewest 47 = .ok (.iload_n 1, 1) := by decide +kernel
theorem dX12_fewest_48 : decode cX12_fewest 48 = .ok (.ireturn, 1) := by decide +kernel
theorem dX12_fewest_49 : decode cX12_fewest 49 = .ok (.iinc 1 1, 3) := by decide +kernel
theorem dX12_fewest_52 : decode cX12_fewest 52 = .ok (.goto (-20), 3) := by decide +kernel
theorem dX12_fewest_55 : decode cX12_fewest 55 = .ok (.bipush (-9), 2) := by decide +kernel
theorem dX12_fewest_57 : decode cX12_fewest 57 = .ok (.ireturn, 1) := by decide +kernel
theorem dX12_bracket_0 : decode cX12_bracket 0 = .ok (.iload_n 1, 1) := by decide +kernel
theorem dX12_bracket_1 : decode cX12_bracket 1 = .ok (.aload_n 0, 1) := by decide +kernel
theorem dX12_bracket_2 : decode cX12_bracket 2 = .ok (.getfield 85, 3) := by decide +kernel
theorem dX12_bracket_5 : decode cX12_bracket 5 = .ok (.invokestatic 111, 3) := by decide +kernel
theorem dX12_bracket_8 : decode cX12_bracket 8 = .ok (.ifCond .eq 19, 3) := by decide +kernel
theorem dX12_bracket_11 : decode cX12_bracket 11 = .ok (.iload_n 2, 1) := by decide +kernel
theorem dX12_bracket_12 : decode cX12_bracket 12 = .ok (.aload_n 0, 1) := by decide +kernel
theorem dX12_bracket_13 : decode cX12_bracket 13 = .ok (.getfield 85, 3) := by decide +kernel
theorem dX12_bracket_16 : decode cX12_bracket 16 = .ok (.invokestatic 111, 3) := by decide +kernel
theorem dX12_bracket_19 : decode cX12_bracket 19 = .ok (.ifCond .eq 8, 3) := by decide +kernel
theorem dX12_bracket_22 : decode cX12_bracket 22 = .ok (.iload_n 2, 1) := by decide +kernel
theorem dX12_bracket_23 : decode cX12_bracket 23 = .ok (.iload_n 1, 1) := by decide +kernel
theorem dX12_bracket_24 : decode cX12_bracket 24 = .ok (.if_icmp .ge 9, 3) := by decide +kernel
theorem dX12_bracket_27 : decode cX12_bracket 27 = .ok (.aload_n 0, 1) := by decide +kernel
theorem dX12_bracket_28 : decode cX12_bracket 28 = .ok (.iconst (-1), 1) := by decide +kernel
theorem dX12_bracket_29 : decode cX12_bracket 29 = .ok (.invokevirtual 91, 3) := by decide +kernel
theorem dX12_bracket_32 : decode cX12_bracket 32 = .ok (.ireturn, 1) := by decide +kernel
theorem dX12_bracket_33 : decode cX12_bracket 33 = .ok (.iconst 0, 1) := by decide +kernel
theorem dX12_bracket_34 : decode cX12_bracket 34 = .ok (.istore_n 3, 1) := by decide +kernel
theorem dX12_bracket_35 : decode cX12_bracket 35 = .ok (.iconst 0, 1) := by decide +kernel
theorem dX12_bracket_36 : decode cX12_bracket 36 = .ok (.istore 4, 2) := by decide +kernel
theorem dX12_bracket_38 : decode cX12_bracket 38 = .ok (.iconst 0, 1) := by decide +kernel
theorem dX12_bracket_39 : decode cX12_bracket 39 = .ok (.istore 5, 2) := by decide +kernel
theorem dX12_bracket_41 : decode cX12_bracket 41 = .ok (.iconst 0, 1) := by decide +kernel
theorem dX12_bracket_42 : decode cX12_bracket 42 = .ok (.istore 6, 2) := by decide +kernel
theorem dX12_bracket_44 : decode cX12_bracket 44 = .ok (.iload 6, 2) := by decide +kernel
theorem dX12_bracket_46 : decode cX12_bracket 46 = .ok (.aload_n 0, 1) := by decide +kernel
theorem dX12_bracket_47 : decode cX12_bracket 47 = .ok (.getfield 85, 3) := by decide +kernel
theorem dX12_bracket_50 : decode cX12_bracket 50 = .ok (.if_icmp .ge 135, 3) := by decide +kernel
theorem dX12_bracket_53 : decode cX12_bracket 53 = .ok (.iload 6, 2) := by decide +kernel
theorem dX12_bracket_55 : decode cX12_bracket 55 = .ok (.iload_n 1, 1) := by decide +kernel
theorem dX12_bracket_56 : decode cX12_bracket 56 = .ok (.if_icmp .ne 33, 3) := by decide +kernel
theorem dX12_bracket_59 : decode cX12_bracket 59 = .ok (.aload_n 0, 1) := by decide +kernel
theorem dX12_bracket_60 : decode cX12_bracket 60 = .ok (.getfield 82, 3) := by decide +kernel
theorem dX12_bracket_63 : decode cX12_bracket 63 = .ok (.iload_n 3, 1) := by decide +kernel
theorem dX12_bracket_64 : decode cX12_bracket 64 = .ok (.bipush 40, 2) := by decide +kernel
theorem dX12_bracket_66 : decode cX12_bracket 66 = .ok (.iastore, 1) := by decide +kernel
theorem dX12_bracket_67 : decode cX12_bracket 67 = .ok (.iinc 3 1, 3) := by decide +kernel
theorem dX12_bracket_70 : decode cX12_bracket 70 = .ok (.iinc 4 1, 3) := by decide +kernel
theorem dX12_bracket_73 : decode cX12_bracket 73 = .ok (.iload 4, 2) := by decide +kernel
theorem dX12_bracket_75 : decode cX12_bracket 75 = .ok (.iload 5, 2) := by decide +kernel
theorem dX12_bracket_77 : decode cX12_bracket 77 = .ok (.if_icmp .le 8, 3) := by decide +kernel
theorem dX12_bracket_80 : decode cX12_bracket 80 = .ok (.iload 4, 2) := by decide +kernel
theorem dX12_bracket_82 : decode cX12_bracket 82 = .ok (.goto 5, 3) := by decide +kernel
theorem dX12_bracket_85 : decode cX12_bracket 85 = .ok (.iload 5, 2) := by decide +kernel
theorem dX12_bracket_87 : decode cX12_bracket 87 = .ok (.istore 5, 2) := by decide +kernel
theorem dX12_bracket_89 : decode cX12_bracket 89 = .ok (.aload_n 0, 1) := by decide +kernel
theorem dX12_bracket_90 : decode cX12_bracket 90 = .ok (.getfield 82, 3) := by decide +kernel
theorem dX12_bracket_93 : decode cX12_bracket 93 = .ok (.iload_n 3, 1) := by decide +kernel
theorem dX12_bracket_94 : decode cX12_bracket 94 = .ok (.aload_n 0, 1) := by decide +kernel
theorem dX12_bracket_95 : decode cX12_bracket 95 = .ok (.getfield 13, 3) := by decide +kernel
theorem dX12_bracket_98 : decode cX12_bracket 98 = .ok (.iload 6, 2) := by decide +kernel
theorem dX12_bracket_100 : decode cX12_bracket 100 = .ok (.iaload, 1) := by decide +kernel
theorem dX12_bracket_101 : decode cX12_bracket 101 = .ok (.iastore, 1) := by decide +kernel
theorem dX12_bracket_102 : decode cX12_bracket 102 = .ok (.iinc 3 1, 3) := by decide +kernel
theorem dX12_bracket_105 : decode cX12_bracket 105 = .ok (.iload 4, 2) := by decide +kernel
theorem dX12_bracket_107 : decode cX12_bracket 107 = .ok (.aload_n 0, 1) := by decide +kernel
theorem dX12_bracket_108 : decode cX12_bracket 108 = .ok (.getfield 13, 3) := by decide +kernel
theorem dX12_bracket_111 : decode cX12_bracket 111 = .ok (.iload 6, 2) := by decide +kernel
theorem dX12_bracket_113 : decode cX12_bracket 113 = .ok (.iaload, 1) := by decide +kernel
theorem dX12_bracket_114 : decode cX12_bracket 114 = .ok (.bipush 40, 2) := by decide +kernel
theorem dX12_bracket_116 : decode cX12_bracket 116 = .ok (.if_icmp .ne 7, 3) := by decide +kernel
theorem dX12_bracket_119 : decode cX12_bracket 119 = .ok (.iconst 1, 1) := by decide +kernel
theorem dX12_bracket_120 : decode cX12_bracket 120 = .ok (.goto 20, 3) := by decide +kernel
theorem dX12_bracket_123 : decode cX12_bracket 123 = .ok (.aload_n 0, 1) := by decide +kernel
theorem dX12_bracket_124 : decode cX12_bracket 124 = .ok (.getfield 13, 3) := by decide +kernel
theorem dX12_bracket_127 : decode cX12_bracket 127 = .ok (.iload 6, 2) := by decide +kernel
theorem dX12_bracket_129 : decode cX12_bracket 129 = .ok (.iaload, 1) := by decide +kernel
theorem dX12_bracket_130 : decode cX12_bracket 130 = .ok (.bipush 41, 2) := by decide +kernel
theorem dX12_bracket_132 : decode cX12_bracket 132 = .ok (.if_icmp .ne 7, 3) := by decide +kernel
theorem dX12_bracket_135 : decode cX12_bracket 135 = .ok (.iconst (-1), 1) := by decide +kernel
theorem dX12_bracket_136 : decode cX12_bracket 136 = .ok (.goto 4, 3) := by decide +kernel
theorem dX12_bracket_139 : decode cX12_bracket 139 = .ok (.iconst 0, 1) := by decide +kernel
theorem dX12_bracket_140 : decode cX12_bracket 140 = .ok (.iadd, 1) := by decide +kernel
theorem dX12_bracket_141 : decode cX12_bracket 141 = .ok (.istore 4, 2) := by decide +kernel
theorem dX12_bracket_143 : decode cX12_bracket 143 = .ok (.iload 4, 2) := by decide +kernel
theorem dX12_bracket_145 : decode cX12_bracket 145 = .ok (.iload 5, 2) := by decide +kernel
theorem dX12_bracket_147 : decode cX12_bracket 147 = .ok (.if_icmp .le 8, 3) := by decide +kernel
theorem dX12_bracket_150 : decode cX12_bracket 150 = .ok (.iload 4, 2) := by decide +kernel
theorem dX12_bracket_152 : decode cX12_bracket 152 = .ok (.goto 5, 3) := by decide +kernel
theorem dX12_bracket_155 : decode cX12_bracket 155 = .ok (.iload 5, 2) := by decide +kernel
theorem dX12_bracket_157 : decode cX12_bracket 157 = .ok (.istore 5, 2) := by decide +kernel
theorem dX12_bracket_159 : decode cX12_bracket 159 = .ok (.iload 6, 2) := by decide +kernel
theorem dX12_bracket_161 : decode cX12_bracket 161 = .ok (.iload_n 2, 1) := by decide +kernel
theorem dX12_bracket_162 : decode cX12_bracket 162 = .ok (.if_icmp .ne 17, 3) := by decide +kernel
theorem dX12_bracket_165 : decode cX12_bracket 165 = .ok (.aload_n 0, 1) := by decide +kernel
theorem dX12_bracket_166 : decode cX12_bracket 166 = .ok (.getfield 82, 3) := by decide +kernel
theorem dX12_bracket_169 : decode cX12_bracket 169 = .ok (.iload_n 3, 1) := by decide +kernel
theorem dX12_bracket_170 : decode cX12_bracket 170 = .ok (.bipush 41, 2) := by decide +kernel
theorem dX12_bracket_172 : decode cX12_bracket 172 = .ok (.iastore, 1) := by decide +kernel
theorem dX12_bracket_173 : decode cX12_bracket 173 = .ok (.iinc 3 1, 3) := by decide +kernel
theorem dX12_bracket_176 : decode cX12_bracket 176 = .ok (.iinc 4 (-1), 3) := by decide +kernel
theorem dX12_bracket_179 : decode cX12_bracket 179 = .ok (.iinc 6 1, 3) := by decide +kernel
theorem dX12_bracket_182 : decode cX12_bracket 182 = .ok (.goto (-138), 3) := by decide +kernel
theorem dX12_bracket_185 : decode cX12_bracket 185 = .ok (.iload_n 3, 1) := by decide +kernel
theorem dX12_bracket_186 : decode cX12_bracket 186 = .ok (.bipush 21, 2) := by decide +kernel
theorem dX12_bracket_188 : decode cX12_bracket 188 = .ok (.if_icmp .gt 9, 3) := by decide +kernel
theorem dX12_bracket_191 : decode cX12_bracket 191 = .ok (.iload 5, 2) := by decide +kernel
theorem dX12_bracket_193 : decode cX12_bracket 193 = .ok (.iconst 4, 1) := by decide +kernel
theorem dX12_bracket_194 : decode cX12_bracket 194 = .ok (.if_icmp .le 10, 3) := by decide +kernel
theorem dX12_bracket_197 : decode cX12_bracket 197 = .ok (.aload_n 0, 1) := by decide +kernel
theorem dX12_bracket_198 : decode cX12_bracket 198 = .ok (.bipush (-6), 2) := by decide +kernel
theorem dX12_bracket_200 : decode cX12_bracket 200 = .ok (.invokevirtual 91, 3) := by decide +kernel
theorem dX12_bracket_203 : decode cX12_bracket 203 = .ok (.ireturn, 1) := by decide +kernel
theorem dX12_bracket_204 : decode cX12_bracket 204 = .ok (.aload_n 0, 1) := by decide +kernel
theorem dX12_bracket_205 : decode cX12_bracket 205 = .ok (.getfield 82, 3) := by decide +kernel
theorem dX12_bracket_208 : decode cX12_bracket 208 = .ok (.iload_n 3, 1) := by decide +kernel
theorem dX12_bracket_209 : decode cX12_bracket 209 = .ok (.invokestatic 107, 3) := by decide +kernel
theorem dX12_bracket_212 : decode cX12_bracket 212 = .ok (.ifCond .lt 10, 3) := by decide +kernel
theorem dX12_bracket_215 : decode cX12_bracket 215 = .ok (.aload_n 0, 1) := by decide +kernel
theorem dX12_bracket_216 : decode cX12_bracket 216 = .ok (.bipush (-3), 2) := by decide +kernel
theorem dX12_bracket_218 : decode cX12_bracket 218 = .ok (.invokevirtual 91, 3) := by decide +kernel
theorem dX12_bracket_221 : decode cX12_bracket 221 = .ok (.ireturn, 1) := by decide +kernel
theorem dX12_bracket_222 : decode cX12_bracket 222 = .ok (.iconst 0, 1) := by decide +kernel
theorem dX12_bracket_223 : decode cX12_bracket 223 = .ok (.istore 6, 2) := by decide +kernel
theorem dX12_bracket_225 : decode cX12_bracket 225 = .ok (.iload 6, 2) := by decide +kernel
theorem dX12_bracket_227 : decode cX12_bracket 227 = .ok (.iload_n 3, 1) := by decide +kernel
theorem dX12_bracket_228 : decode cX12_bracket 228 = .ok (.if_icmp .ge 23, 3) := by decide +kernel
theorem dX12_bracket_231 : decode cX12_bracket 231 = .ok (.aload_n 0, 1) := by decide +kernel
theorem dX12_bracket_232 : decode cX12_bracket 232 = .ok (.getfield 13, 3) := by decide +kernel
theorem dX12_bracket_235 : decode cX12_bracket 235 = .ok (.iload 6, 2) := by decide +kernel
theorem dX12_bracket_237 : decode cX12_bracket 237 = .ok (.aload_n 0, 1) := by decide +kernel
theorem dX12_bracket_238 : decode cX12_bracket 238 = .ok (.getfield 82, 3) := by decide +kernel
theorem dX12_bracket_241 : decode cX12_bracket 241 = .ok (.iload 6, 2) := by decide +kernel
theorem dX12_bracket_243 : decode cX12_bracket 243 = .ok (.iaload, 1) := by decide +kernel
theorem dX12_bracket_244 : decode cX12_bracket 244 = .ok (.iastore, 1) := by decide +kernel
theorem dX12_bracket_245 : decode cX12_bracket 245 = .ok (.iinc 6 1, 3) := by decide +kernel
theorem dX12_bracket_248 : decode cX12_bracket 248 = .ok (.goto (-23), 3) := by decide +kernel
theorem dX12_bracket_251 : decode cX12_bracket 251 = .ok (.aload_n 0, 1) := by decide +kernel
theorem dX12_bracket_252 : decode cX12_bracket 252 = .ok (.iload_n 3, 1) := by decide +kernel
theorem dX12_bracket_253 : decode cX12_bracket 253 = .ok (.putfield 85, 3) := by decide +kernel
theorem dX12_bracket_256 : decode cX12_bracket 256 = .ok (.aload_n 0, 1) := by decide +kernel
theorem dX12_bracket_257 : decode cX12_bracket 257 = .ok (.invokevirtual 88, 3) := by decide +kernel
theorem dX12_bracket_260 : decode cX12_bracket 260 = .ok (.aload_n 0, 1) := by decide +kernel
theorem dX12_bracket_261 : decode cX12_bracket 261 = .ok (.getfield 85, 3) := by decide +kernel
theorem dX12_bracket_264 : decode cX12_bracket 264 = .ok (.ireturn, 1) := by decide +kernel
theorem dX12_has_0 : decode cX12_has 0 = .ok (.iconst 0, 1) := by decide +kernel
theorem dX12_has_1 : decode cX12_has 1 = .ok (.istore 4, 2) := by decide +kernel
theorem dX12_has_3 : decode cX12_has 3 = .ok (.iload 4, 2) := by decide +kernel
theorem dX12_has_5 : decode cX12_has 5 = .ok (.aload_n 0, 1) := by decide +kernel
theorem dX12_has_6 : decode cX12_has 6 = .ok (.getfield 53, 3) := by decide +kernel
theorem dX12_has_9 : decode cX12_has 9 = .ok (.iload_n 1, 1) := by decide +kernel
theorem dX12_has_10 : decode cX12_has 10 = .ok (.iaload, 1) := by decide +kernel
theorem dX12_has_11 : decode cX12_has 11 = .ok (.if_icmp .ge 43, 3) := by decide +kernel
theorem dX12_has_14 : decode cX12_has 14 = .ok (.aload_n 0, 1) := by decide +kernel
theorem dX12_has_15 : decode cX12_has 15 = .ok (.getfield 47, 3) := by decide +kernel
theorem dX12_has_18 : decode cX12_has 18 = .ok (.bipush 21, 2) := by decide +kernel
theorem dX12_has_20 : decode cX12_has 20 = .ok (.iload_n 1, 1) := by decide +kernel
theorem dX12_has_21 : decode cX12_has 21 = .ok (.imul, 1) := by decide +kernel
theorem dX12_has_22 : decode cX12_has 22 = .ok (.iload 4, 2) := by decide +kernel
theorem dX12_has_24 : decode cX12_has 24 = .ok (.iadd, 1) := by decide +kernel
theorem dX12_has_25 : decode cX12_has 25 = .ok (.iaload, 1) := by decide +kernel
theorem dX12_has_26 : decode cX12_has 26 = .ok (.iload_n 2, 1) := by decide +kernel
theorem dX12_has_27 : decode cX12_has 27 = .ok (.if_icmp .ne 21, 3) := by decide +kernel
theorem dX12_has_30 : decode cX12_has 30 = .ok (.aload_n 0, 1) := by decide +kernel
theorem dX12_has_31 : decode cX12_has 31 = .ok (.getfield 50, 3) := by decide +kernel
theorem dX12_has_34 : decode cX12_has 34 = .ok (.bipush 21, 2) := by decide +kernel
theorem dX12_has_36 : decode cX12_has 36 = .ok (.iload_n 1, 1) := by decide +kernel
theorem dX12_has_37 : decode cX12_has 37 = .ok (.imul, 1) := by decide +kernel
theorem dX12_has_38 : decode cX12_has 38 = .ok (.iload 4, 2) := by decide +kernel
theorem dX12_has_40 : decode cX12_has 40 = .ok (.iadd, 1) := by decide +kernel
theorem dX12_has_41 : decode cX12_has 41 = .ok (.iaload, 1) := by decide +kernel
theorem dX12_has_42 : decode cX12_has 42 = .ok (.iload_n 3, 1) := by decide +kernel
theorem dX12_has_43 : decode cX12_has 43 = .ok (.if_icmp .ne 5, 3) := by decide +kernel
theorem dX12_has_46 : decode cX12_has 46 = .ok (.iconst 1, 1) := by decide +kernel
theorem dX12_has_47 : decode cX12_has 47 = .ok (.ireturn, 1) := by decide +kernel
theorem dX12_has_48 : decode cX12_has 48 = .ok (.iinc 4 1, 3) := by decide +kernel
theorem dX12_has_51 : decode cX12_has 51 = .ok (.goto (-48), 3) := by decide +kernel
theorem dX12_has_54 : decode cX12_has 54 = .ok (.iconst 0, 1) := by decide +kernel
theorem dX12_has_55 : decode cX12_has 55 = .ok (.ireturn, 1) := by decide +kernel
theorem dX12_isMark_0 : decode cX12_isMark 0 = .ok (.aload_n 0, 1) := by decide +kernel
theorem dX12_isMark_1 : decode cX12_isMark 1 = .ok (.getfield 44, 3) := by decide +kernel
theorem dX12_isMark_4 : decode cX12_isMark 4 = .ok (.bipush 21, 2) := by decide +kernel
theorem dX12_isMark_6 : decode cX12_isMark 6 = .ok (.iload_n 1, 1) := by decide +kernel
theorem dX12_isMark_7 : decode cX12_isMark 7 = .ok (.imul, 1) := by decide +kernel
theorem dX12_isMark_8 : decode cX12_isMark 8 = .ok (.iload_n 2, 1) := by decide +kernel
theorem dX12_isMark_9 : decode cX12_isMark 9 = .ok (.iadd, 1) := by decide +kernel
theorem dX12_isMark_10 : decode cX12_isMark 10 = .ok (.iaload, 1) := by decide +kernel
theorem dX12_isMark_11 : decode cX12_isMark 11 = .ok (.ifCond .eq 40, 3) := by decide +kernel
theorem dX12_isMark_14 : decode cX12_isMark 14 = .ok (.aload_n 0, 1) := by decide +kernel
theorem dX12_isMark_15 : decode cX12_isMark 15 = .ok (.getfield 44, 3) := by decide +kernel
theorem dX12_isMark_18 : decode cX12_isMark 18 = .ok (.bipush 21, 2) := by decide +kernel
theorem dX12_isMark_20 : decode cX12_isMark 20 = .ok (.iload_n 1, 1) := by decide +kernel
theorem dX12_isMark_21 : decode cX12_isMark 21 = .ok (.imul, 1) := by decide +kernel
theorem dX12_isMark_22 : decode cX12_isMark 22 = .ok (.iload_n 2, 1) := by decide +kernel
theorem dX12_isMark_23 : decode cX12_isMark 23 = .ok (.iadd, 1) := by decide +kernel
theorem dX12_isMark_24 : decode cX12_isMark 24 = .ok (.iaload, 1) := by decide +kernel
theorem dX12_isMark_25 : decode cX12_isMark 25 = .ok (.iconst 2, 1) := by decide +kernel
theorem dX12_isMark_26 : decode cX12_isMark 26 = .ok (.if_icmp .eq 25, 3) := by decide +kernel
theorem dX12_isMark_29 : decode cX12_isMark 29 = .ok (.aload_n 0, 1) := by decide +kernel
theorem dX12_isMark_30 : decode cX12_isMark 30 = .ok (.getfield 50, 3) := by decide +kernel
theorem dX12_isMark_33 : decode cX12_isMark 33 = .ok (.bipush 21, 2) := by decide +kernel
theorem dX12_isMark_35 : decode cX12_isMark 35 = .ok (.iload_n 1, 1) := by decide +kernel
theorem dX12_isMark_36 : decode cX12_isMark 36 = .ok (.imul, 1) := by decide +kernel
theorem dX12_isMark_37 : decode cX12_isMark 37 = .ok (.iload_n 2, 1) := by decide +kernel
theorem dX12_isMark_38 : decode cX12_isMark 38 = .ok (.iadd, 1) := by decide +kernel
theorem dX12_isMark_39 : decode cX12_isMark 39 = .ok (.iaload, 1) := by decide +kernel
theorem dX12_isMark_40 : decode cX12_isMark 40 = .ok (.aload_n 0, 1) := by decide +kernel
theorem dX12_isMark_41 : decode cX12_isMark 41 = .ok (.getfield 85, 3) := by decide +kernel
theorem dX12_isMark_44 : decode cX12_isMark 44 = .ok (.if_icmp .ge 7, 3) := by decide +kernel
theorem dX12_isMark_47 : decode cX12_isMark 47 = .ok (.iconst 1, 1) := by decide +kernel
theorem dX12_isMark_48 : decode cX12_isMark 48 = .ok (.goto 4, 3) := by decide +kernel
theorem dX12_isMark_51 : decode cX12_isMark 51 = .ok (.iconst 0, 1) := by decide +kernel
theorem dX12_isMark_52 : decode cX12_isMark 52 = .ok (.ireturn, 1) := by decide +kernel
theorem dX12_isMended_0 : decode cX12_isMended 0 = .ok (.iconst 0, 1) := by decide +kernel
theorem dX12_isMended_1 : decode cX12_isMended 1 = .ok (.istore 4, 2) := by decide +kernel
theorem dX12_isMended_3 : decode cX12_isMended 3 = .ok (.iload 4, 2) := by decide +kernel
theorem dX12_isMended_5 : decode cX12_isMended 5 = .ok (.aload_n 0, 1) := by decide +kernel
theorem dX12_isMended_6 : decode cX12_isMended 6 = .ok (.getfield 129, 3) := by decide +kernel
theorem dX12_isMended_9 : decode cX12_isMended 9 = .ok (.if_icmp .ge 125, 3) := by decide +kernel
theorem dX12_isMended_12 : decode cX12_isMended 12 = .ok (.aload_n 0, 1) := by decide +kernel
theorem dX12_isMended_13 : decode cX12_isMended 13 = .ok (.getfield 62, 3) := by decide +kernel
theorem dX12_isMended_16 : decode cX12_isMended 16 = .ok (.iload 4, 2) := by decide +kernel
theorem dX12_isMended_18 : decode cX12_isMended 18 = .ok (.laload, 1) := by decide +kernel
theorem dX12_isMended_19 : decode cX12_isMended 19 = .ok (.aload_n 0, 1) := by decide +kernel
theorem dX12_isMended_20 : decode cX12_isMended 20 = .ok (.getfield 62, 3) := by decide +kernel
theorem dX12_isMended_23 : decode cX12_isMended 23 = .ok (.iload_n 1, 1) := by decide +kernel
theorem dX12_isMended_24 : decode cX12_isMended 24 = .ok (.laload, 1) := by decide +kernel
theorem dX12_isMended_25 : decode cX12_isMended 25 = .ok (.lcmp, 1) := by decide +kernel
theorem dX12_isMended_26 : decode cX12_isMended 26 = .ok (.ifCond .ne 6, 3) := by decide +kernel
theorem dX12_isMended_29 : decode cX12_isMended 29 = .ok (.goto 99, 3) := by decide +kernel
theorem dX12_isMended_32 : decode cX12_isMended 32 = .ok (.iload_n 2, 1) := by decide +kernel
theorem dX12_isMended_33 : decode cX12_isMended 33 = .ok (.ifCond .lt 34, 3) := by decide +kernel
theorem dX12_isMended_36 : decode cX12_isMended 36 = .ok (.aload_n 0, 1) := by decide +kernel
theorem dX12_isMended_37 : decode cX12_isMended 37 = .ok (.iload 4, 2) := by decide +kernel
theorem dX12_isMended_39 : decode cX12_isMended 39 = .ok (.aload_n 0, 1) := by decide +kernel
theorem dX12_isMended_40 : decode cX12_isMended 40 = .ok (.getfield 47, 3) := by decide +kernel
theorem dX12_isMended_43 : decode cX12_isMended 43 = .ok (.bipush 21, 2) := by decide +kernel
theorem dX12_isMended_45 : decode cX12_isMended 45 = .ok (.iload_n 1, 1) := by decide +kernel
theorem dX12_isMended_46 : decode cX12_isMended 46 = .ok (.imul, 1) := by decide +kernel
theorem dX12_isMended_47 : decode cX12_isMended 47 = .ok (.iload_n 2, 1) := by decide +kernel
theorem dX12_isMended_48 : decode cX12_isMended 48 = .ok (.iadd, 1) := by decide +kernel
theorem dX12_isMended_49 : decode cX12_isMended 49 = .ok (.iaload, 1) := by decide +kernel
end
section
theorem dX12_isMended_50 : decode cX12_isMended 50 = .ok (.aload_n 0, 1) := by decide +kernel
theorem dX12_isMended_51 : decode cX12_isMended 51 = .ok (.getfield 50, 3) := by decide +kernel
theorem dX12_isMended_54 : decode cX12_isMended 54 = .ok (.bipush 21, 2) := by decide +kernel
theorem dX12_isMended_56 : decode cX12_isMended 56 = .ok (.iload_n 1, 1) := by decide +kernel
theorem dX12_isMended_57 : decode cX12_isMended 57 = .ok (.imul, 1) := by decide +kernel
theorem dX12_isMended_58 : decode cX12_isMended 58 = .ok (.iload_n 2, 1) := by decide +kernel
theorem dX12_isMended_59 : decode cX12_isMended 59 = .ok (.iadd, 1) := by decide +kernel
theorem dX12_isMended_60 : decode cX12_isMended 60 = .ok (.iaload, 1) := by decide +kernel
theorem dX12_isMended_61 : decode cX12_isMended 61 = .ok (.invokevirtual 209, 3) := by decide +kernel
theorem dX12_isMended_64 : decode cX12_isMended 64 = .ok (.ifCond .eq 7, 3) := by decide +kernel
theorem dX12_isMended_67 : decode cX12_isMended 67 = .ok (.iconst 1, 1) := by decide +kernel
theorem dX12_isMended_68 : decode cX12_isMended 68 = .ok (.goto 4, 3) := by decide +kernel
theorem dX12_isMended_71 : decode cX12_isMended 71 = .ok (.iconst 0, 1) := by decide +kernel
theorem dX12_isMended_72 : decode cX12_isMended 72 = .ok (.istore 5, 2) := by decide +kernel
theorem dX12_isMended_74 : decode cX12_isMended 74 = .ok (.iload_n 3, 1) := by decide +kernel
theorem dX12_isMended_75 : decode cX12_isMended 75 = .ok (.ifCond .lt 34, 3) := by decide +kernel
theorem dX12_isMended_78 : decode cX12_isMended 78 = .ok (.aload_n 0, 1) := by decide +kernel
theorem dX12_isMended_79 : decode cX12_isMended 79 = .ok (.iload 4, 2) := by decide +kernel
theorem dX12_isMended_81 : decode cX12_isMended 81 = .ok (.aload_n 0, 1) := by decide +kernel
theorem dX12_isMended_82 : decode cX12_isMended 82 = .ok (.getfield 47, 3) := by decide +kernel
theorem dX12_isMended_85 : decode cX12_isMended 85 = .ok (.bipush 21, 2) := by decide +kernel
theorem dX12_isMended_87 : decode cX12_isMended 87 = .ok (.iload_n 1, 1) := by decide +kernel
theorem dX12_isMended_88 : decode cX12_isMended 88 = .ok (.imul, 1) := by decide +kernel
theorem dX12_isMended_89 : decode cX12_isMended 89 = .ok (.iload_n 3, 1) := by decide +kernel
theorem dX12_isMended_90 : decode cX12_isMended 90 = .ok (.iadd, 1) := by decide +kernel
theorem dX12_isMended_91 : decode cX12_isMended 91 = .ok (.iaload, 1) := by decide +kernel
theorem dX12_isMended_92 : decode cX12_isMended 92 = .ok (.aload_n 0, 1) := by decide +kernel
theorem dX12_isMended_93 : decode cX12_isMended 93 = .ok (.getfield 50, 3) := by decide +kernel
theorem dX12_isMended_96 : decode cX12_isMended 96 = .ok (.bipush 21, 2) := by decide +kernel
theorem dX12_isMended_98 : decode cX12_isMended 98 = .ok (.iload_n 1, 1) := by decide +kernel
theorem dX12_isMended_99 : decode cX12_isMended 99 = .ok (.imul, 1) := by decide +kernel
theorem dX12_isMended_100 : decode cX12_isMended 100 = .ok (.iload_n 3, 1) := by decide +kernel
theorem dX12_isMended_101 : decode cX12_isMended 101 = .ok (.iadd, 1) := by decide +kernel
theorem dX12_isMended_102 : decode cX12_isMended 102 = .ok (.iaload, 1) := by decide +kernel
theorem dX12_isMended_103 : decode cX12_isMended 103 = .ok (.invokevirtual 209, 3) := by decide +kernel
theorem dX12_isMended_106 : decode cX12_isMended 106 = .ok (.ifCond .eq 7, 3) := by decide +kernel
theorem dX12_isMended_109 : decode cX12_isMended 109 = .ok (.iconst 1, 1) := by decide +kernel
theorem dX12_isMended_110 : decode cX12_isMended 110 = .ok (.goto 4, 3) := by decide +kernel
theorem dX12_isMended_113 : decode cX12_isMended 113 = .ok (.iconst 0, 1) := by decide +kernel
theorem dX12_isMended_114 : decode cX12_isMended 114 = .ok (.istore 6, 2) := by decide +kernel
theorem dX12_isMended_116 : decode cX12_isMended 116 = .ok (.iload 5, 2) := by decide +kernel
theorem dX12_isMended_118 : decode cX12_isMended 118 = .ok (.ifCond .eq 10, 3) := by decide +kernel
theorem dX12_isMended_121 : decode cX12_isMended 121 = .ok (.iload 6, 2) := by decide +kernel
theorem dX12_isMended_123 : decode cX12_isMended 123 = .ok (.ifCond .eq 5, 3) := by decide +kernel
theorem dX12_isMended_126 : decode cX12_isMended 126 = .ok (.iconst 0, 1) := by decide +kernel
theorem dX12_isMended_127 : decode cX12_isMended 127 = .ok (.ireturn, 1) := by decide +kernel
theorem dX12_isMended_128 : decode cX12_isMended 128 = .ok (.iinc 4 1, 3) := by decide +kernel
theorem dX12_isMended_131 : decode cX12_isMended 131 = .ok (.goto (-128), 3) := by decide +kernel
theorem dX12_isMended_134 : decode cX12_isMended 134 = .ok (.iconst 1, 1) := by decide +kernel
theorem dX12_isMended_135 : decode cX12_isMended 135 = .ok (.ireturn, 1) := by decide +kernel
theorem dX12_mend_0 : decode cX12_mend 0 = .ok (.aload_n 0, 1) := by decide +kernel
theorem dX12_mend_1 : decode cX12_mend 1 = .ok (.iload_n 1, 1) := by decide +kernel
theorem dX12_mend_2 : decode cX12_mend 2 = .ok (.invokevirtual 176, 3) := by decide +kernel
theorem dX12_mend_5 : decode cX12_mend 5 = .ok (.istore_n 2, 1) := by decide +kernel
theorem dX12_mend_6 : decode cX12_mend 6 = .ok (.iload_n 2, 1) := by decide +kernel
theorem dX12_mend_7 : decode cX12_mend 7 = .ok (.ifCond .eq 9, 3) := by decide +kernel
theorem dX12_mend_10 : decode cX12_mend 10 = .ok (.aload_n 0, 1) := by decide +kernel
theorem dX12_mend_11 : decode cX12_mend 11 = .ok (.iload_n 2, 1) := by decide +kernel
theorem dX12_mend_12 : decode cX12_mend 12 = .ok (.invokevirtual 91, 3) := by decide +kernel
theorem dX12_mend_15 : decode cX12_mend 15 = .ok (.ireturn, 1) := by decide +kernel
theorem dX12_mend_16 : decode cX12_mend 16 = .ok (.aload_n 0, 1) := by decide +kernel
theorem dX12_mend_17 : decode cX12_mend 17 = .ok (.iload_n 1, 1) := by decide +kernel
theorem dX12_mend_18 : decode cX12_mend 18 = .ok (.bipush (-9), 2) := by decide +kernel
theorem dX12_mend_20 : decode cX12_mend 20 = .ok (.bipush (-9), 2) := by decide +kernel
theorem dX12_mend_22 : decode cX12_mend 22 = .ok (.invokevirtual 213, 3) := by decide +kernel
theorem dX12_mend_25 : decode cX12_mend 25 = .ok (.ifCond .eq 5, 3) := by decide +kernel
theorem dX12_mend_28 : decode cX12_mend 28 = .ok (.iconst 0, 1) := by decide +kernel
theorem dX12_mend_29 : decode cX12_mend 29 = .ok (.ireturn, 1) := by decide +kernel
theorem dX12_mend_30 : decode cX12_mend 30 = .ok (.iconst 0, 1) := by decide +kernel
theorem dX12_mend_31 : decode cX12_mend 31 = .ok (.istore_n 3, 1) := by decide +kernel
theorem dX12_mend_32 : decode cX12_mend 32 = .ok (.iload_n 3, 1) := by decide +kernel
theorem dX12_mend_33 : decode cX12_mend 33 = .ok (.aload_n 0, 1) := by decide +kernel
theorem dX12_mend_34 : decode cX12_mend 34 = .ok (.getfield 53, 3) := by decide +kernel
theorem dX12_mend_37 : decode cX12_mend 37 = .ok (.iload_n 1, 1) := by decide +kernel
theorem dX12_mend_38 : decode cX12_mend 38 = .ok (.iaload, 1) := by decide +kernel
theorem dX12_mend_39 : decode cX12_mend 39 = .ok (.if_icmp .ge 31, 3) := by decide +kernel
theorem dX12_mend_42 : decode cX12_mend 42 = .ok (.aload_n 0, 1) := by decide +kernel
theorem dX12_mend_43 : decode cX12_mend 43 = .ok (.iload_n 1, 1) := by decide +kernel
theorem dX12_mend_44 : decode cX12_mend 44 = .ok (.iload_n 3, 1) := by decide +kernel
theorem dX12_mend_45 : decode cX12_mend 45 = .ok (.invokevirtual 216, 3) := by decide +kernel
theorem dX12_mend_48 : decode cX12_mend 48 = .ok (.ifCond .eq 16, 3) := by decide +kernel
theorem dX12_mend_51 : decode cX12_mend 51 = .ok (.aload_n 0, 1) := by decide +kernel
theorem dX12_mend_52 : decode cX12_mend 52 = .ok (.iload_n 1, 1) := by decide +kernel
theorem dX12_mend_53 : decode cX12_mend 53 = .ok (.iload_n 3, 1) := by decide +kernel
theorem dX12_mend_54 : decode cX12_mend 54 = .ok (.bipush (-9), 2) := by decide +kernel
theorem dX12_mend_56 : decode cX12_mend 56 = .ok (.invokevirtual 213, 3) := by decide +kernel
theorem dX12_mend_59 : decode cX12_mend 59 = .ok (.ifCond .eq 5, 3) := by decide +kernel
theorem dX12_mend_62 : decode cX12_mend 62 = .ok (.iconst 1, 1) := by decide +kernel
theorem dX12_mend_63 : decode cX12_mend 63 = .ok (.ireturn, 1) := by decide +kernel
theorem dX12_mend_64 : decode cX12_mend 64 = .ok (.iinc 3 1, 3) := by decide +kernel
theorem dX12_mend_67 : decode cX12_mend 67 = .ok (.goto (-35), 3) := by decide +kernel
theorem dX12_mend_70 : decode cX12_mend 70 = .ok (.iconst 0, 1) := by decide +kernel
theorem dX12_mend_71 : decode cX12_mend 71 = .ok (.istore_n 3, 1) := by decide +kernel
theorem dX12_mend_72 : decode cX12_mend 72 = .ok (.iload_n 3, 1) := by decide +kernel
theorem dX12_mend_73 : decode cX12_mend 73 = .ok (.aload_n 0, 1) := by decide +kernel
theorem dX12_mend_74 : decode cX12_mend 74 = .ok (.getfield 53, 3) := by decide +kernel
theorem dX12_mend_77 : decode cX12_mend 77 = .ok (.iload_n 1, 1) := by decide +kernel
theorem dX12_mend_78 : decode cX12_mend 78 = .ok (.iaload, 1) := by decide +kernel
theorem dX12_mend_79 : decode cX12_mend 79 = .ok (.if_icmp .ge 56, 3) := by decide +kernel
theorem dX12_mend_82 : decode cX12_mend 82 = .ok (.iconst 0, 1) := by decide +kernel
theorem dX12_mend_83 : decode cX12_mend 83 = .ok (.istore 4, 2) := by decide +kernel
theorem dX12_mend_85 : decode cX12_mend 85 = .ok (.iload 4, 2) := by decide +kernel
theorem dX12_mend_87 : decode cX12_mend 87 = .ok (.iload_n 3, 1) := by decide +kernel
theorem dX12_mend_88 : decode cX12_mend 88 = .ok (.if_icmp .ge 41, 3) := by decide +kernel
theorem dX12_mend_91 : decode cX12_mend 91 = .ok (.aload_n 0, 1) := by decide +kernel
theorem dX12_mend_92 : decode cX12_mend 92 = .ok (.iload_n 1, 1) := by decide +kernel
theorem dX12_mend_93 : decode cX12_mend 93 = .ok (.iload_n 3, 1) := by decide +kernel
theorem dX12_mend_94 : decode cX12_mend 94 = .ok (.invokevirtual 216, 3) := by decide +kernel
theorem dX12_mend_97 : decode cX12_mend 97 = .ok (.ifCond .eq 26, 3) := by decide +kernel
theorem dX12_mend_100 : decode cX12_mend 100 = .ok (.aload_n 0, 1) := by decide +kernel
theorem dX12_mend_101 : decode cX12_mend 101 = .ok (.iload_n 1, 1) := by decide +kernel
theorem dX12_mend_102 : decode cX12_mend 102 = .ok (.iload 4, 2) := by decide +kernel
theorem dX12_mend_104 : decode cX12_mend 104 = .ok (.invokevirtual 216, 3) := by decide +kernel
theorem dX12_mend_107 : decode cX12_mend 107 = .ok (.ifCond .eq 16, 3) := by decide +kernel
theorem dX12_mend_110 : decode cX12_mend 110 = .ok (.aload_n 0, 1) := by decide +kernel
theorem dX12_mend_111 : decode cX12_mend 111 = .ok (.iload_n 1, 1) := by decide +kernel
theorem dX12_mend_112 : decode cX12_mend 112 = .ok (.iload_n 3, 1) := by decide +kernel
theorem dX12_mend_113 : decode cX12_mend 113 = .ok (.iload 4, 2) := by decide +kernel
theorem dX12_mend_115 : decode cX12_mend 115 = .ok (.invokevirtual 213, 3) := by decide +kernel
theorem dX12_mend_118 : decode cX12_mend 118 = .ok (.ifCond .eq 5, 3) := by decide +kernel
theorem dX12_mend_121 : decode cX12_mend 121 = .ok (.iconst 2, 1) := by decide +kernel
theorem dX12_mend_122 : decode cX12_mend 122 = .ok (.ireturn, 1) := by decide +kernel
theorem dX12_mend_123 : decode cX12_mend 123 = .ok (.iinc 4 1, 3) := by decide +kernel
theorem dX12_mend_126 : decode cX12_mend 126 = .ok (.goto (-41), 3) := by decide +kernel
theorem dX12_mend_129 : decode cX12_mend 129 = .ok (.iinc 3 1, 3) := by decide +kernel
theorem dX12_mend_132 : decode cX12_mend 132 = .ok (.goto (-60), 3) := by decide +kernel
theorem dX12_mend_135 : decode cX12_mend 135 = .ok (.bipush (-9), 2) := by decide +kernel
theorem dX12_mend_137 : decode cX12_mend 137 = .ok (.ireturn, 1) := by decide +kernel
theorem dX12_aim_0 : decode cX12_aim 0 = .ok (.iload_n 1, 1) := by decide +kernel
theorem dX12_aim_1 : decode cX12_aim 1 = .ok (.bipush 32, 2) := by decide +kernel
theorem dX12_aim_3 : decode cX12_aim 3 = .ok (.invokestatic 111, 3) := by decide +kernel
theorem dX12_aim_6 : decode cX12_aim 6 = .ok (.ifCond .eq 14, 3) := by decide +kernel
theorem dX12_aim_9 : decode cX12_aim 9 = .ok (.iload_n 2, 1) := by decide +kernel
theorem dX12_aim_10 : decode cX12_aim 10 = .ok (.bipush (-99), 2) := by decide +kernel
theorem dX12_aim_12 : decode cX12_aim 12 = .ok (.bipush 99, 2) := by decide +kernel
theorem dX12_aim_14 : decode cX12_aim 14 = .ok (.invokestatic 219, 3) := by decide +kernel
theorem dX12_aim_17 : decode cX12_aim 17 = .ok (.goto 4, 3) := by decide +kernel
theorem dX12_aim_20 : decode cX12_aim 20 = .ok (.iconst (-1), 1) := by decide +kernel
theorem dX12_aim_21 : decode cX12_aim 21 = .ok (.istore_n 3, 1) := by decide +kernel
theorem dX12_aim_22 : decode cX12_aim 22 = .ok (.iload_n 3, 1) := by decide +kernel
theorem dX12_aim_23 : decode cX12_aim 23 = .ok (.ifCond .ne 15, 3) := by decide +kernel
theorem dX12_aim_26 : decode cX12_aim 26 = .ok (.aload_n 0, 1) := by decide +kernel
theorem dX12_aim_27 : decode cX12_aim 27 = .ok (.getfield 223, 3) := by decide +kernel
theorem dX12_aim_30 : decode cX12_aim 30 = .ok (.bipush 8, 2) := by decide +kernel
theorem dX12_aim_32 : decode cX12_aim 32 = .ok (.if_icmp .ne 6, 3) := by decide +kernel
theorem dX12_aim_35 : decode cX12_aim 35 = .ok (.bipush (-6), 2) := by decide +kernel
theorem dX12_aim_37 : decode cX12_aim 37 = .ok (.istore_n 3, 1) := by decide +kernel
theorem dX12_aim_38 : decode cX12_aim 38 = .ok (.iload_n 3, 1) := by decide +kernel
theorem dX12_aim_39 : decode cX12_aim 39 = .ok (.ifCond .eq 9, 3) := by decide +kernel
theorem dX12_aim_42 : decode cX12_aim 42 = .ok (.aload_n 0, 1) := by decide +kernel
theorem dX12_aim_43 : decode cX12_aim 43 = .ok (.iload_n 3, 1) := by decide +kernel
theorem dX12_aim_44 : decode cX12_aim 44 = .ok (.invokevirtual 91, 3) := by decide +kernel
theorem dX12_aim_47 : decode cX12_aim 47 = .ok (.ireturn, 1) := by decide +kernel
theorem dX12_aim_48 : decode cX12_aim 48 = .ok (.aload_n 0, 1) := by decide +kernel
theorem dX12_aim_49 : decode cX12_aim 49 = .ok (.getfield 22, 3) := by decide +kernel
theorem dX12_aim_52 : decode cX12_aim 52 = .ok (.aload_n 0, 1) := by decide +kernel
theorem dX12_aim_53 : decode cX12_aim 53 = .ok (.getfield 223, 3) := by decide +kernel
theorem dX12_aim_56 : decode cX12_aim 56 = .ok (.iload_n 1, 1) := by decide +kernel
theorem dX12_aim_57 : decode cX12_aim 57 = .ok (.iastore, 1) := by decide +kernel
theorem dX12_aim_58 : decode cX12_aim 58 = .ok (.aload_n 0, 1) := by decide +kernel
theorem dX12_aim_59 : decode cX12_aim 59 = .ok (.getfield 25, 3) := by decide +kernel
theorem dX12_aim_62 : decode cX12_aim 62 = .ok (.aload_n 0, 1) := by decide +kernel
theorem dX12_aim_63 : decode cX12_aim 63 = .ok (.getfield 223, 3) := by decide +kernel
theorem dX12_aim_66 : decode cX12_aim 66 = .ok (.iload_n 2, 1) := by decide +kernel
theorem dX12_aim_67 : decode cX12_aim 67 = .ok (.iastore, 1) := by decide +kernel
theorem dX12_aim_68 : decode cX12_aim 68 = .ok (.aload_n 0, 1) := by decide +kernel
theorem dX12_aim_69 : decode cX12_aim 69 = .ok (.dup, 1) := by decide +kernel
theorem dX12_aim_70 : decode cX12_aim 70 = .ok (.getfield 223, 3) := by decide +kernel
theorem dX12_aim_73 : decode cX12_aim 73 = .ok (.iconst 1, 1) := by decide +kernel
theorem dX12_aim_74 : decode cX12_aim 74 = .ok (.iadd, 1) := by decide +kernel
theorem dX12_aim_75 : decode cX12_aim 75 = .ok (.putfield 223, 3) := by decide +kernel
theorem dX12_aim_78 : decode cX12_aim 78 = .ok (.aload_n 0, 1) := by decide +kernel
theorem dX12_aim_79 : decode cX12_aim 79 = .ok (.getfield 223, 3) := by decide +kernel
theorem dX12_aim_82 : decode cX12_aim 82 = .ok (.ireturn, 1) := by decide +kernel
theorem dX12_servesBy_0 : decode cX12_servesBy 0 = .ok (.iconst 0, 1) := by decide +kernel
theorem dX12_servesBy_1 : decode cX12_servesBy 1 = .ok (.istore_n 2, 1) := by decide +kernel
theorem dX12_servesBy_2 : decode cX12_servesBy 2 = .ok (.iconst 0, 1) := by decide +kernel
theorem dX12_servesBy_3 : decode cX12_servesBy 3 = .ok (.istore_n 3, 1) := by decide +kernel
theorem dX12_servesBy_4 : decode cX12_servesBy 4 = .ok (.iload_n 3, 1) := by decide +kernel
theorem dX12_servesBy_5 : decode cX12_servesBy 5 = .ok (.aload_n 0, 1) := by decide +kernel
theorem dX12_servesBy_6 : decode cX12_servesBy 6 = .ok (.getfield 223, 3) := by decide +kernel
theorem dX12_servesBy_9 : decode cX12_servesBy 9 = .ok (.if_icmp .ge 36, 3) := by decide +kernel
theorem dX12_servesBy_12 : decode cX12_servesBy 12 = .ok (.iload_n 2, 1) := by decide +kernel
theorem dX12_servesBy_13 : decode cX12_servesBy 13 = .ok (.aload_n 0, 1) := by decide +kernel
theorem dX12_servesBy_14 : decode cX12_servesBy 14 = .ok (.iload_n 1, 1) := by decide +kernel
theorem dX12_servesBy_15 : decode cX12_servesBy 15 = .ok (.aload_n 0, 1) := by decide +kernel
theorem dX12_servesBy_16 : decode cX12_servesBy 16 = .ok (.getfield 22, 3) := by decide +kernel
theorem dX12_servesBy_19 : decode cX12_servesBy 19 = .ok (.iload_n 3, 1) := by decide +kernel
theorem dX12_servesBy_20 : decode cX12_servesBy 20 = .ok (.iaload, 1) := by decide +kernel
theorem dX12_servesBy_21 : decode cX12_servesBy 21 = .ok (.invokevirtual 179, 3) := by decide +kernel
theorem dX12_servesBy_24 : decode cX12_servesBy 24 = .ok (.ifCond .eq 12, 3) := by decide +kernel
theorem dX12_servesBy_27 : decode cX12_servesBy 27 = .ok (.aload_n 0, 1) := by decide +kernel
theorem dX12_servesBy_28 : decode cX12_servesBy 28 = .ok (.getfield 25, 3) := by decide +kernel
theorem dX12_servesBy_31 : decode cX12_servesBy 31 = .ok (.iload_n 3, 1) := by decide +kernel
theorem dX12_servesBy_32 : decode cX12_servesBy 32 = .ok (.iaload, 1) := by decide +kernel
theorem dX12_servesBy_33 : decode cX12_servesBy 33 = .ok (.goto 4, 3) := by decide +kernel
theorem dX12_servesBy_36 : decode cX12_servesBy 36 = .ok (.iconst 0, 1) := by decide +kernel
theorem dX12_servesBy_37 : decode cX12_servesBy 37 = .ok (.iadd, 1) := by decide +kernel
theorem dX12_servesBy_38 : decode cX12_servesBy 38 = .ok (.istore_n 2, 1) := by decide +kernel
theorem dX12_servesBy_39 : decode cX12_servesBy 39 = .ok (.iinc 3 1, 3) := by decide +kernel
theorem dX12_servesBy_42 : decode cX12_servesBy 42 = .ok (.goto (-38), 3) := by decide +kernel
theorem dX12_servesBy_45 : decode cX12_servesBy 45 = .ok (.iload_n 2, 1) := by decide +kernel
theorem dX12_servesBy_46 : decode cX12_servesBy 46 = .ok (.ireturn, 1) := by decide +kernel
theorem dX12_serves_0 : decode cX12_serves 0 = .ok (.aload_n 0, 1) := by decide +kernel
theorem dX12_serves_1 : decode cX12_serves 1 = .ok (.iload_n 1, 1) := by decide +kernel
theorem dX12_serves_2 : decode cX12_serves 2 = .ok (.invokevirtual 176, 3) := by decide +kernel
theorem dX12_serves_5 : decode cX12_serves 5 = .ok (.istore_n 2, 1) := by decide +kernel
theorem dX12_serves_6 : decode cX12_serves 6 = .ok (.iload_n 2, 1) := by decide +kernel
theorem dX12_serves_7 : decode cX12_serves 7 = .ok (.ifCond .eq 14, 3) := by decide +kernel
theorem dX12_serves_10 : decode cX12_serves 10 = .ok (.ldc 226, 2) := by decide +kernel
theorem dX12_serves_12 : decode cX12_serves 12 = .ok (.aload_n 0, 1) := by decide +kernel
theorem dX12_serves_13 : decode cX12_serves 13 = .ok (.iload_n 2, 1) := by decide +kernel
theorem dX12_serves_14 : decode cX12_serves 14 = .ok (.invokevirtual 91, 3) := by decide +kernel
theorem dX12_serves_17 : decode cX12_serves 17 = .ok (.isub, 1) := by decide +kernel
theorem dX12_serves_18 : decode cX12_serves 18 = .ok (.goto 8, 3) := by decide +kernel
theorem dX12_serves_21 : decode cX12_serves 21 = .ok (.aload_n 0, 1) := by decide +kernel
theorem dX12_serves_22 : decode cX12_serves 22 = .ok (.iload_n 1, 1) := by decide +kernel
theorem dX12_serves_23 : decode cX12_serves 23 = .ok (.invokevirtual 227, 3) := by decide +kernel
theorem dX12_serves_26 : decode cX12_serves 26 = .ok (.ireturn, 1) := by decide +kernel
theorem dX12_best_0 : decode cX12_best 0 = .ok (.aload_n 0, 1) := by decide +kernel
theorem dX12_best_1 : decode cX12_best 1 = .ok (.getfield 170, 3) := by decide +kernel
theorem dX12_best_4 : decode cX12_best 4 = .ok (.ifCond .ne 10, 3) := by decide +kernel
theorem dX12_best_7 : decode cX12_best 7 = .ok (.aload_n 0, 1) := by decide +kernel
theorem dX12_best_8 : decode cX12_best 8 = .ok (.bipush (-5), 2) := by decide +kernel
theorem dX12_best_10 : decode cX12_best 10 = .ok (.invokevirtual 91, 3) := by decide +kernel
theorem dX12_best_13 : decode cX12_best 13 = .ok (.ireturn, 1) := by decide +kernel
theorem dX12_best_14 : decode cX12_best 14 = .ok (.iconst 0, 1) := by decide +kernel
theorem dX12_best_15 : decode cX12_best 15 = .ok (.istore_n 1, 1) := by decide +kernel
theorem dX12_best_16 : decode cX12_best 16 = .ok (.iconst 1, 1) := by decide +kernel
theorem dX12_best_17 : decode cX12_best 17 = .ok (.istore_n 2, 1) := by decide +kernel
theorem dX12_best_18 : decode cX12_best 18 = .ok (.iload_n 2, 1) := by decide +kernel
theorem dX12_best_19 : decode cX12_best 19 = .ok (.aload_n 0, 1) := by decide +kernel
theorem dX12_best_20 : decode cX12_best 20 = .ok (.getfield 129, 3) := by decide +kernel
theorem dX12_best_23 : decode cX12_best 23 = .ok (.if_icmp .ge 28, 3) := by decide +kernel
theorem dX12_best_26 : decode cX12_best 26 = .ok (.aload_n 0, 1) := by decide +kernel
theorem dX12_best_27 : decode cX12_best 27 = .ok (.iload_n 2, 1) := by decide +kernel
theorem dX12_best_28 : decode cX12_best 28 = .ok (.invokevirtual 227, 3) := by decide +kernel
theorem dX12_best_31 : decode cX12_best 31 = .ok (.aload_n 0, 1) := by decide +kernel
theorem dX12_best_32 : decode cX12_best 32 = .ok (.iload_n 1, 1) := by decide +kernel
theorem dX12_best_33 : decode cX12_best 33 = .ok (.invokevirtual 227, 3) := by decide +kernel
theorem dX12_best_36 : decode cX12_best 36 = .ok (.if_icmp .le 7, 3) := by decide +kernel
theorem dX12_best_39 : decode cX12_best 39 = .ok (.iload_n 2, 1) := by decide +kernel
theorem dX12_best_40 : decode cX12_best 40 = .ok (.goto 4, 3) := by decide +kernel
theorem dX12_best_43 : decode cX12_best 43 = .ok (.iload_n 1, 1) := by decide +kernel
theorem dX12_best_44 : decode cX12_best 44 = .ok (.istore_n 1, 1) := by decide +kernel
theorem dX12_best_45 : decode cX12_best 45 = .ok (.iinc 2 1, 3) := by decide +kernel
theorem dX12_best_48 : decode cX12_best 48 = .ok (.goto (-30), 3) := by decide +kernel
theorem dX12_best_51 : decode cX12_best 51 = .ok (.iload_n 1, 1) := by decide +kernel
theorem dX12_best_52 : decode cX12_best 52 = .ok (.ireturn, 1) := by decide +kernel
theorem dX12_image_0 : decode cX12_image 0 = .ok (.iconst 0, 1) := by decide +kernel
theorem dX12_image_1 : decode cX12_image 1 = .ok (.istore_n 1, 1) := by decide +kernel
theorem dX12_image_2 : decode cX12_image 2 = .ok (.iload_n 1, 1) := by decide +kernel
theorem dX12_image_3 : decode cX12_image 3 = .ok (.bipush 21, 2) := by decide +kernel
theorem dX12_image_5 : decode cX12_image 5 = .ok (.if_icmp .ge 21, 3) := by decide +kernel
theorem dX12_image_8 : decode cX12_image 8 = .ok (.aload_n 0, 1) := by decide +kernel
theorem dX12_image_9 : decode cX12_image 9 = .ok (.getfield 28, 3) := by decide +kernel
theorem dX12_image_12 : decode cX12_image 12 = .ok (.iload_n 1, 1) := by decide +kernel
theorem dX12_image_13 : decode cX12_image 13 = .ok (.aload_n 0, 1) := by decide +kernel
theorem dX12_image_14 : decode cX12_image 14 = .ok (.getfield 13, 3) := by decide +kernel
theorem dX12_image_17 : decode cX12_image 17 = .ok (.iload_n 1, 1) := by decide +kernel
theorem dX12_image_18 : decode cX12_image 18 = .ok (.iaload, 1) := by decide +kernel
theorem dX12_image_19 : decode cX12_image 19 = .ok (.iastore, 1) := by decide +kernel
theorem dX12_image_20 : decode cX12_image 20 = .ok (.iinc 1 1, 3) := by decide +kernel
theorem dX12_image_23 : decode cX12_image 23 = .ok (.goto (-21), 3) := by decide +kernel
theorem dX12_image_26 : decode cX12_image 26 = .ok (.iconst 0, 1) := by decide +kernel
theorem dX12_image_27 : decode cX12_image 27 = .ok (.istore_n 1, 1) := by decide +kernel
theorem dX12_image_28 : decode cX12_image 28 = .ok (.iload_n 1, 1) := by decide +kernel
theorem dX12_image_29 : decode cX12_image 29 = .ok (.bipush 6, 2) := by decide +kernel
theorem dX12_image_31 : decode cX12_image 31 = .ok (.if_icmp .ge 21, 3) := by decide +kernel
theorem dX12_image_34 : decode cX12_image 34 = .ok (.aload_n 0, 1) := by decide +kernel
theorem dX12_image_35 : decode cX12_image 35 = .ok (.getfield 31, 3) := by decide +kernel
theorem dX12_image_38 : decode cX12_image 38 = .ok (.iload_n 1, 1) := by decide +kernel
theorem dX12_image_39 : decode cX12_image 39 = .ok (.aload_n 0, 1) := by decide +kernel
theorem dX12_image_40 : decode cX12_image 40 = .ok (.getfield 19, 3) := by decide +kernel
theorem dX12_image_43 : decode cX12_image 43 = .ok (.iload_n 1, 1) := by decide +kernel
theorem dX12_image_44 : decode cX12_image 44 = .ok (.iaload, 1) := by decide +kernel
theorem dX12_image_45 : decode cX12_image 45 = .ok (.iastore, 1) := by decide +kernel
theorem dX12_image_46 : decode cX12_image 46 = .ok (.iinc 1 1, 3) := by decide +kernel
theorem dX12_image_49 : decode cX12_image 49 = .ok (.goto (-21), 3) := by decide +kernel
theorem dX12_image_52 : decode cX12_image 52 = .ok (.iconst 0, 1) := by decide +kernel
theorem dX12_image_53 : decode cX12_image 53 = .ok (.istore_n 1, 1) := by decide +kernel
theorem dX12_image_54 : decode cX12_image 54 = .ok (.iload_n 1, 1) := by decide +kernel
theorem dX12_image_55 : decode cX12_image 55 = .ok (.bipush 8, 2) := by decide +kernel
theorem dX12_image_57 : decode cX12_image 57 = .ok (.if_icmp .ge 33, 3) := by decide +kernel
theorem dX12_image_60 : decode cX12_image 60 = .ok (.aload_n 0, 1) := by decide +kernel
theorem dX12_image_61 : decode cX12_image 61 = .ok (.getfield 34, 3) := by decide +kernel
theorem dX12_image_64 : decode cX12_image 64 = .ok (.iload_n 1, 1) := by decide +kernel
theorem dX12_image_65 : decode cX12_image 65 = .ok (.aload_n 0, 1) := by decide +kernel
theorem dX12_image_66 : decode cX12_image 66 = .ok (.getfield 22, 3) := by decide +kernel
theorem dX12_image_69 : decode cX12_image 69 = .ok (.iload_n 1, 1) := by decide +kernel
theorem dX12_image_70 : decode cX12_image 70 = .ok (.iaload, 1) := by decide +kernel
theorem dX12_image_71 : decode cX12_image 71 = .ok (.iastore, 1) := by decide +kernel
theorem dX12_image_72 : decode cX12_image 72 = .ok (.aload_n 0, 1) := by decide +kernel
theorem dX12_image_73 : decode cX12_image 73 = .ok (.getfield 37, 3) := by decide +kernel
theorem dX12_image_76 : decode cX12_image 76 = .ok (.iload_n 1, 1) := by decide +kernel
theorem dX12_image_77 : decode cX12_image 77 = .ok (.aload_n 0, 1) := by decide +kernel
theorem dX12_image_78 : decode cX12_image 78 = .ok (.getfield 25, 3) := by decide +kernel
theorem dX12_image_81 : decode cX12_image 81 = .ok (.iload_n 1, 1) := by decide +kernel
theorem dX12_image_82 : decode cX12_image 82 = .ok (.iaload, 1) := by decide +kernel
theorem dX12_image_83 : decode cX12_image 83 = .ok (.iastore, 1) := by decide +kernel
theorem dX12_image_84 : decode cX12_image 84 = .ok (.iinc 1 1, 3) := by decide +kernel
theorem dX12_image_87 : decode cX12_image 87 = .ok (.goto (-33), 3) := by decide +kernel
theorem dX12_image_90 : decode cX12_image 90 = .ok (.aload_n 0, 1) := by decide +kernel
theorem dX12_image_91 : decode cX12_image 91 = .ok (.aload_n 0, 1) := by decide +kernel
theorem dX12_image_92 : decode cX12_image 92 = .ok (.getfield 85, 3) := by decide +kernel
theorem dX12_image_95 : decode cX12_image 95 = .ok (.putfield 230, 3) := by decide +kernel
theorem dX12_image_98 : decode cX12_image 98 = .ok (.aload_n 0, 1) := by decide +kernel
theorem dX12_image_99 : decode cX12_image 99 = .ok (.aload_n 0, 1) := by decide +kernel
theorem dX12_image_100 : decode cX12_image 100 = .ok (.getfield 191, 3) := by decide +kernel
theorem dX12_image_103 : decode cX12_image 103 = .ok (.putfield 233, 3) := by decide +kernel
theorem dX12_image_106 : decode cX12_image 106 = .ok (.aload_n 0, 1) := by decide +kernel
theorem dX12_image_107 : decode cX12_image 107 = .ok (.aload_n 0, 1) := by decide +kernel
theorem dX12_image_108 : decode cX12_image 108 = .ok (.getfield 223, 3) := by decide +kernel
theorem dX12_image_111 : decode cX12_image 111 = .ok (.putfield 236, 3) := by decide +kernel
theorem dX12_image_114 : decode cX12_image 114 = .ok (.aload_n 0, 1) := by decide +kernel
theorem dX12_image_115 : decode cX12_image 115 = .ok (.iconst 1, 1) := by decide +kernel
theorem dX12_image_116 : decode cX12_image 116 = .ok (.putfield 239, 3) := by decide +kernel
theorem dX12_image_119 : decode cX12_image 119 = .ok (.aload_n 0, 1) := by decide +kernel
theorem dX12_image_120 : decode cX12_image 120 = .ok (.getfield 85, 3) := by decide +kernel
theorem dX12_image_123 : decode cX12_image 123 = .ok (.ireturn, 1) := by decide +kernel
theorem dX12_on_0 : decode cX12_on 0 = .ok (.aload_n 0, 1) := by decide +kernel
theorem dX12_on_1 : decode cX12_on 1 = .ok (.getfield 239, 3) := by decide +kernel
theorem dX12_on_4 : decode cX12_on 4 = .ok (.ifCond .ne 10, 3) := by decide +kernel
theorem dX12_on_7 : decode cX12_on 7 = .ok (.aload_n 0, 1) := by decide +kernel
theorem dX12_on_8 : decode cX12_on 8 = .ok (.bipush (-3), 2) := by decide +kernel
theorem dX12_on_10 : decode cX12_on 10 = .ok (.invokevirtual 91, 3) := by decide +kernel
theorem dX12_on_13 : decode cX12_on 13 = .ok (.ireturn, 1) := by decide +kernel
theorem dX12_on_14 : decode cX12_on 14 = .ok (.iconst 0, 1) := by decide +kernel
theorem dX12_on_15 : decode cX12_on 15 = .ok (.istore_n 1, 1) := by decide +kernel
theorem dX12_on_16 : decode cX12_on 16 = .ok (.iload_n 1, 1) := by decide +kernel
theorem dX12_on_17 : decode cX12_on 17 = .ok (.bipush 21, 2) := by decide +kernel
theorem dX12_on_19 : decode cX12_on 19 = .ok (.if_icmp .ge 21, 3) := by decide +kernel
theorem dX12_on_22 : decode cX12_on 22 = .ok (.aload_n 0, 1) := by decide +kernel
theorem dX12_on_23 : decode cX12_on 23 = .ok (.getfield 13, 3) := by decide +kernel
theorem dX12_on_26 : decode cX12_on 26 = .ok (.iload_n 1, 1) := by decide +kernel
theorem dX12_on_27 : decode cX12_on 27 = .ok (.aload_n 0, 1) := by decide +kernel
theorem dX12_on_28 : decode cX12_on 28 = .ok (.getfield 28, 3) := by decide +kernel
theorem dX12_on_31 : decode cX12_on 31 = .ok (.iload_n 1, 1) := by decide +kernel
theorem dX12_on_32 : decode cX12_on 32 = .ok (.iaload, 1) := by decide +kernel
theorem dX12_on_33 : decode cX12_on 33 = .ok (.iastore, 1) := by decide +kernel
theorem dX12_on_34 : decode cX12_on 34 = .ok (.iinc 1 1, 3) := by decide +kernel
theorem dX12_on_37 : decode cX12_on 37 = .ok (.goto (-21), 3) := by decide +kernel
theorem dX12_on_40 : decode cX12_on 40 = .ok (.iconst 0, 1) := by decide +kernel
theorem dX12_on_41 : decode cX12_on 41 = .ok (.istore_n 1, 1) := by decide +kernel
theorem dX12_on_42 : decode cX12_on 42 = .ok (.iload_n 1, 1) := by decide +kernel
theorem dX12_on_43 : decode cX12_on 43 = .ok (.bipush 6, 2) := by decide +kernel
theorem dX12_on_45 : decode cX12_on 45 = .ok (.if_icmp .ge 21, 3) := by decide +kernel
theorem dX12_on_48 : decode cX12_on 48 = .ok (.aload_n 0, 1) := by decide +kernel
theorem dX12_on_49 : decode cX12_on 49 = .ok (.getfield 19, 3) := by decide +kernel
theorem dX12_on_52 : decode cX12_on 52 = .ok (.iload_n 1, 1) := by decide +kernel
theorem dX12_on_53 : decode cX12_on 53 = .ok (.aload_n 0, 1) := by decide +kernel
theorem dX12_on_54 : decode cX12_on 54 = .ok (.getfield 31, 3) := by decide +kernel
theorem dX12_on_57 : decode cX12_on 57 = .ok (.iload_n 1, 1) := by decide +kernel
theorem dX12_on_58 : decode cX12_on 58 = .ok (.iaload, 1) := by decide +kernel
theorem dX12_on_59 : decode cX12_on 59 = .ok (.iastore, 1) := by decide +kernel
theorem dX12_on_60 : decode cX12_on 60 = .ok (.iinc 1 1, 3) := by decide +kernel
theorem dX12_on_63 : decode cX12_on 63 = .ok (.goto (-21), 3) := by decide +kernel
theorem dX12_on_66 : decode cX12_on 66 = .ok (.iconst 0, 1) := by decide +kernel
theorem dX12_on_67 : decode cX12_on 67 = .ok (.istore_n 1, 1) := by decide +kernel
theorem dX12_on_68 : decode cX12_on 68 = .ok (.iload_n 1, 1) := by decide +kernel
theorem dX12_on_69 : decode cX12_on 69 = .ok (.bipush 8, 2) := by decide +kernel
theorem dX12_on_71 : decode cX12_on 71 = .ok (.if_icmp .ge 33, 3) := by decide +kernel
theorem dX12_on_74 : decode cX12_on 74 = .ok (.aload_n 0, 1) := by decide +kernel
theorem dX12_on_75 : decode cX12_on 75 = .ok (.getfield 22, 3) := by decide +kernel
theorem dX12_on_78 : decode cX12_on 78 = .ok (.iload_n 1, 1) := by decide +kernel
theorem dX12_on_79 : decode cX12_on 79 = .ok (.aload_n 0, 1) := by decide +kernel
theorem dX12_on_80 : decode cX12_on 80 = .ok (.getfield 34, 3) := by decide +kernel
theorem dX12_on_83 : decode cX12_on 83 = .ok (.iload_n 1, 1) := by decide +kernel
theorem dX12_on_84 : decode cX12_on 84 = .ok (.iaload, 1) := by decide +kernel
theorem dX12_on_85 : decode cX12_on 85 = .ok (.iastore, 1) := by decide +kernel
theorem dX12_on_86 : decode cX12_on 86 = .ok (.aload_n 0, 1) := by decide +kernel
theorem dX12_on_87 : decode cX12_on 87 = .ok (.getfield 25, 3) := by decide +kernel
theorem dX12_on_90 : decode cX12_on 90 = .ok (.iload_n 1, 1) := by decide +kernel
theorem dX12_on_91 : decode cX12_on 91 = .ok (.aload_n 0, 1) := by decide +kernel
theorem dX12_on_92 : decode cX12_on 92 = .ok (.getfield 37, 3) := by decide +kernel
theorem dX12_on_95 : decode cX12_on 95 = .ok (.iload_n 1, 1) := by decide +kernel
theorem dX12_on_96 : decode cX12_on 96 = .ok (.iaload, 1) := by decide +kernel
theorem dX12_on_97 : decode cX12_on 97 = .ok (.iastore, 1) := by decide +kernel
theorem dX12_on_98 : decode cX12_on 98 = .ok (.iinc 1 1, 3) := by decide +kernel
theorem dX12_on_101 : decode cX12_on 101 = .ok (.goto (-33), 3) := by decide +kernel
theorem dX12_on_104 : decode cX12_on 104 = .ok (.aload_n 0, 1) := by decide +kernel
theorem dX12_on_105 : decode cX12_on 105 = .ok (.aload_n 0, 1) := by decide +kernel
theorem dX12_on_106 : decode cX12_on 106 = .ok (.getfield 230, 3) := by decide +kernel
theorem dX12_on_109 : decode cX12_on 109 = .ok (.putfield 85, 3) := by decide +kernel
theorem dX12_on_112 : decode cX12_on 112 = .ok (.aload_n 0, 1) := by decide +kernel
theorem dX12_on_113 : decode cX12_on 113 = .ok (.aload_n 0, 1) := by decide +kernel
theorem dX12_on_114 : decode cX12_on 114 = .ok (.getfield 233, 3) := by decide +kernel
theorem dX12_on_117 : decode cX12_on 117 = .ok (.putfield 191, 3) := by decide +kernel
theorem dX12_on_120 : decode cX12_on 120 = .ok (.aload_n 0, 1) := by decide +kernel
theorem dX12_on_121 : decode cX12_on 121 = .ok (.aload_n 0, 1) := by decide +kernel
theorem dX12_on_122 : decode cX12_on 122 = .ok (.getfield 236, 3) := by decide +kernel
theorem dX12_on_125 : decode cX12_on 125 = .ok (.putfield 223, 3) := by decide +kernel
theorem dX12_on_128 : decode cX12_on 128 = .ok (.aload_n 0, 1) := by decide +kernel
theorem dX12_on_129 : decode cX12_on 129 = .ok (.invokevirtual 88, 3) := by decide +kernel
theorem dX12_on_132 : decode cX12_on 132 = .ok (.aload_n 0, 1) := by decide +kernel
theorem dX12_on_133 : decode cX12_on 133 = .ok (.getfield 85, 3) := by decide +kernel
theorem dX12_on_136 : decode cX12_on 136 = .ok (.ireturn, 1) := by decide +kernel
theorem dX12_count_0 : decode cX12_count 0 = .ok (.iload_n 1, 1) := by decide +kernel
theorem dX12_count_1 : decode cX12_count 1 = .ok (.bipush 10, 2) := by decide +kernel
theorem dX12_count_3 : decode cX12_count 3 = .ok (.if_icmp .le 19, 3) := by decide +kernel
theorem dX12_count_6 : decode cX12_count 6 = .ok (.iload_n 1, 1) := by decide +kernel
theorem dX12_count_7 : decode cX12_count 7 = .ok (.bipush 17, 2) := by decide +kernel
theorem dX12_count_9 : decode cX12_count 9 = .ok (.if_icmp .ge 13, 3) := by decide +kernel
theorem dX12_count_12 : decode cX12_count 12 = .ok (.aload_n 0, 1) := by decide +kernel
theorem dX12_count_13 : decode cX12_count 13 = .ok (.getfield 7, 3) := by decide +kernel
theorem dX12_count_16 : decode cX12_count 16 = .ok (.iload_n 1, 1) := by decide +kernel
theorem dX12_count_17 : decode cX12_count 17 = .ok (.bipush 10, 2) := by decide +kernel
theorem dX12_count_19 : decode cX12_count 19 = .ok (.isub, 1) := by decide +kernel
theorem dX12_count_20 : decode cX12_count 20 = .ok (.iaload, 1) := by decide +kernel
theorem dX12_count_21 : decode cX12_count 21 = .ok (.ireturn, 1) := by decide +kernel
theorem dX12_count_22 : decode cX12_count 22 = .ok (.iconst 0, 1) := by decide +kernel
theorem dX12_count_23 : decode cX12_count 23 = .ok (.istore_n 2, 1) := by decide +kernel
theorem dX12_count_24 : decode cX12_count 24 = .ok (.iload_n 1, 1) := by decide +kernel
theorem dX12_count_25 : decode cX12_count 25 = .ok (.tableswitch 93 0 4 #[35, 40, 45, 50, 55], 35) := by decide +kernel
theorem dX12_count_60 : decode cX12_count 60 = .ok (.aload_n 0, 1) := by decide +kernel
theorem dX12_count_61 : decode cX12_count 61 = .ok (.getfield 85, 3) := by decide +kernel
theorem dX12_count_64 : decode cX12_count 64 = .ok (.ireturn, 1) := by decide +kernel
theorem dX12_count_65 : decode cX12_count 65 = .ok (.aload_n 0, 1) := by decide +kernel
theorem dX12_count_66 : decode cX12_count 66 = .ok (.getfield 191, 3) := by decide +kernel
theorem dX12_count_69 : decode cX12_count 69 = .ok (.ireturn, 1) := by decide +kernel
theorem dX12_count_70 : decode cX12_count 70 = .ok (.aload_n 0, 1) := by decide +kernel
theorem dX12_count_71 : decode cX12_count 71 = .ok (.getfield 223, 3) := by decide +kernel
theorem dX12_count_74 : decode cX12_count 74 = .ok (.ireturn, 1) := by decide +kernel
theorem dX12_count_75 : decode cX12_count 75 = .ok (.aload_n 0, 1) := by decide +kernel
theorem dX12_count_76 : decode cX12_count 76 = .ok (.getfield 95, 3) := by decide +kernel
theorem dX12_count_79 : decode cX12_count 79 = .ok (.ireturn, 1) := by decide +kernel
theorem dX12_count_80 : decode cX12_count 80 = .ok (.iconst 0, 1) := by decide +kernel
theorem dX12_count_81 : decode cX12_count 81 = .ok (.istore_n 3, 1) := by decide +kernel
theorem dX12_count_82 : decode cX12_count 82 = .ok (.iload_n 3, 1) := by decide +kernel
theorem dX12_count_83 : decode cX12_count 83 = .ok (.aload_n 0, 1) := by decide +kernel
theorem dX12_count_84 : decode cX12_count 84 = .ok (.getfield 85, 3) := by decide +kernel
theorem dX12_count_87 : decode cX12_count 87 = .ok (.if_icmp .ge 29, 3) := by decide +kernel
theorem dX12_count_90 : decode cX12_count 90 = .ok (.iload_n 2, 1) := by decide +kernel
theorem dX12_count_91 : decode cX12_count 91 = .ok (.aload_n 0, 1) := by decide +kernel
theorem dX12_count_92 : decode cX12_count 92 = .ok (.getfield 13, 3) := by decide +kernel
theorem dX12_count_95 : decode cX12_count 95 = .ok (.iload_n 3, 1) := by decide +kernel
theorem dX12_count_96 : decode cX12_count 96 = .ok (.iaload, 1) := by decide +kernel
theorem dX12_count_97 : decode cX12_count 97 = .ok (.invokestatic 103, 3) := by decide +kernel
theorem dX12_count_100 : decode cX12_count 100 = .ok (.ifCond .eq 7, 3) := by decide +kernel
theorem dX12_count_103 : decode cX12_count 103 = .ok (.iconst 1, 1) := by decide +kernel
theorem dX12_count_104 : decode cX12_count 104 = .ok (.goto 4, 3) := by decide +kernel
theorem dX12_count_107 : decode cX12_count 107 = .ok (.iconst 0, 1) := by decide +kernel
theorem dX12_count_108 : decode cX12_count 108 = .ok (.iadd, 1) := by decide +kernel
theorem dX12_count_109 : decode cX12_count 109 = .ok (.istore_n 2, 1) := by decide +kernel
theorem dX12_count_110 : decode cX12_count 110 = .ok (.iinc 3 1, 3) := by decide +kernel
theorem dX12_count_113 : decode cX12_count 113 = .ok (.goto (-31), 3) := by decide +kernel
theorem dX12_count_116 : decode cX12_count 116 = .ok (.iload_n 2, 1) := by decide +kernel
theorem dX12_count_117 : decode cX12_count 117 = .ok (.ireturn, 1) := by decide +kernel
theorem dX12_count_118 : decode cX12_count 118 = .ok (.bipush (-9), 2) := by decide +kernel
theorem dX12_count_120 : decode cX12_count 120 = .ok (.ireturn, 1) := by decide +kernel
theorem dL_law_0 : decode cL_law 0 = .ok (.new 7, 3) := by decide +kernel
theorem dL_law_3 : decode cL_law 3 = .ok (.dup, 1) := by decide +kernel
theorem dL_law_4 : decode cL_law 4 = .ok (.invokespecial 9, 3) := by decide +kernel
theorem dL_law_7 : decode cL_law 7 = .ok (.astore_n 1, 1) := by decide +kernel
theorem dL_law_8 : decode cL_law 8 = .ok (.new 10, 3) := by decide +kernel
theorem dL_law_11 : decode cL_law 11 = .ok (.dup, 1) := by decide +kernel
theorem dL_law_12 : decode cL_law 12 = .ok (.invokespecial 12, 3) := by decide +kernel
theorem dL_law_15 : decode cL_law 15 = .ok (.astore_n 2, 1) := by decide +kernel
theorem dL_law_16 : decode cL_law 16 = .ok (.iconst 0, 1) := by decide +kernel
theorem dL_law_17 : decode cL_law 17 = .ok (.istore_n 3, 1) := by decide +kernel
theorem dL_law_18 : decode cL_law 18 = .ok (.iload_n 3, 1) := by decide +kernel
theorem dL_law_19 : decode cL_law 19 = .ok (.aload_n 0, 1) := by decide +kernel
theorem dL_law_20 : decode cL_law 20 = .ok (.arraylength, 1) := by decide +kernel
theorem dL_law_21 : decode cL_law 21 = .ok (.iconst 4, 1) := by decide +kernel
theorem dL_law_22 : decode cL_law 22 = .ok (.isub, 1) := by decide +kernel
theorem dL_law_23 : decode cL_law 23 = .ok (.if_icmp .gt 924, 3) := by decide +kernel
theorem dL_law_26 : decode cL_law 26 = .ok (.aload_n 0, 1) := by decide +kernel
theorem dL_law_27 : decode cL_law 27 = .ok (.iload_n 3, 1) := by decide +kernel
theorem dL_law_28 : decode cL_law 28 = .ok (.iaload, 1) := by decide +kernel
theorem dL_law_29 : decode cL_law 29 = .ok (.bipush 31, 2) := by decide +kernel
theorem dL_law_31 : decode cL_law 31 = .ok (.iand, 1) := by decide +kernel
theorem dL_law_32 : decode cL_law 32 = .ok (.tableswitch 909 0 31 #[144, 207, 220, 243, 257, 280, 323, 347, 380, 403, 443, 476, 489, 522, 545, 558, 591, 614, 627, 650, 663, 696, 709, 722, 735, 768, 791, 824, 847, 860, 873, 886], 144) := by decide +kernel
theorem dL_law_176 : decode cL_law 176 = .ok (.aload_n 1, 1) := by decide +kernel
theorem dL_law_177 : decode cL_law 177 = .ok (.aload_n 0, 1) := by decide +kernel
theorem dL_law_178 : decode cL_law 178 = .ok (.iload_n 3, 1) := by decide +kernel
theorem dL_law_179 : decode cL_law 179 = .ok (.iconst 1, 1) := by decide +kernel
theorem dL_law_180 : decode cL_law 180 = .ok (.iadd, 1) := by decide +kernel
theorem dL_law_181 : decode cL_law 181 = .ok (.iaload, 1) := by decide +kernel
theorem dL_law_182 : decode cL_law 182 = .ok (.aload_n 0, 1) := by decide +kernel
theorem dL_law_183 : decode cL_law 183 = .ok (.iload_n 3, 1) := by decide +kernel
theorem dL_law_184 : decode cL_law 184 = .ok (.iconst 2, 1) := by decide +kernel
theorem dL_law_185 : decode cL_law 185 = .ok (.iadd, 1) := by decide +kernel
theorem dL_law_186 : decode cL_law 186 = .ok (.iaload, 1) := by decide +kernel
theorem dL_law_187 : decode cL_law 187 = .ok (.i2l, 1) := by decide +kernel
theorem dL_law_188 : decode cL_law 188 = .ok (.bipush 32, 2) := by decide +kernel
theorem dL_law_190 : decode cL_law 190 = .ok (.lshl, 1) := by decide +kernel
theorem dL_law_191 : decode cL_law 191 = .ok (.aload_n 0, 1) := by decide +kernel
theorem dL_law_192 : decode cL_law 192 = .ok (.iload_n 3, 1) := by decide +kernel
theorem dL_law_193 : decode cL_law 193 = .ok (.iconst 3, 1) := by decide +kernel
theorem dL_law_194 : decode cL_law 194 = .ok (.iadd, 1) := by decide +kernel
theorem dL_law_195 : decode cL_law 195 = .ok (.iaload, 1) := by decide +kernel
theorem dL_law_196 : decode cL_law 196 = .ok (.i2l, 1) := by decide +kernel
theorem dL_law_197 : decode cL_law 197 = .ok (.ldc2_w 13, 3) := by decide +kernel
theorem dL_law_200 : decode cL_law 200 = .ok (.land, 1) := by decide +kernel
theorem dL_law_201 : decode cL_law 201 = .ok (.lor, 1) := by decide +kernel
theorem dL_law_202 : decode cL_law 202 = .ok (.invokevirtual 15, 3) := by decide +kernel
theorem dL_law_205 : decode cL_law 205 = .ok (.aload_n 2, 1) := by decide +kernel
theorem dL_law_206 : decode cL_law 206 = .ok (.aload_n 0, 1) := by decide +kernel
theorem dL_law_207 : decode cL_law 207 = .ok (.iload_n 3, 1) := by decide +kernel
theorem dL_law_208 : decode cL_law 208 = .ok (.iconst 1, 1) := by decide +kernel
theorem dL_law_209 : decode cL_law 209 = .ok (.iadd, 1) := by decide +kernel
theorem dL_law_210 : decode cL_law 210 = .ok (.iaload, 1) := by decide +kernel
theorem dL_law_211 : decode cL_law 211 = .ok (.aload_n 0, 1) := by decide +kernel
theorem dL_law_212 : decode cL_law 212 = .ok (.iload_n 3, 1) := by decide +kernel
theorem dL_law_213 : decode cL_law 213 = .ok (.iconst 2, 1) := by decide +kernel
theorem dL_law_214 : decode cL_law 214 = .ok (.iadd, 1) := by decide +kernel
theorem dL_law_215 : decode cL_law 215 = .ok (.iaload, 1) := by decide +kernel
theorem dL_law_216 : decode cL_law 216 = .ok (.i2l, 1) := by decide +kernel
theorem dL_law_217 : decode cL_law 217 = .ok (.bipush 32, 2) := by decide +kernel
theorem dL_law_219 : decode cL_law 219 = .ok (.lshl, 1) := by decide +kernel
theorem dL_law_220 : decode cL_law 220 = .ok (.aload_n 0, 1) := by decide +kernel
theorem dL_law_221 : decode cL_law 221 = .ok (.iload_n 3, 1) := by decide +kernel
theorem dL_law_222 : decode cL_law 222 = .ok (.iconst 3, 1) := by decide +kernel
theorem dL_law_223 : decode cL_law 223 = .ok (.iadd, 1) := by decide +kernel
theorem dL_law_224 : decode cL_law 224 = .ok (.iaload, 1) := by decide +kernel
theorem dL_law_225 : decode cL_law 225 = .ok (.i2l, 1) := by decide +kernel
theorem dL_law_226 : decode cL_law 226 = .ok (.ldc2_w 13, 3) := by decide +kernel
theorem dL_law_229 : decode cL_law 229 = .ok (.land, 1) := by decide +kernel
theorem dL_law_230 : decode cL_law 230 = .ok (.lor, 1) := by decide +kernel
theorem dL_law_231 : decode cL_law 231 = .ok (.invokevirtual 19, 3) := by decide +kernel
theorem dL_law_234 : decode cL_law 234 = .ok (.if_icmp .eq 707, 3) := by decide +kernel
theorem dL_law_237 : decode cL_law 237 = .ok (.iconst 0, 1) := by decide +kernel
theorem dL_law_238 : decode cL_law 238 = .ok (.ireturn, 1) := by decide +kernel
theorem dL_law_239 : decode cL_law 239 = .ok (.aload_n 1, 1) := by decide +kernel
theorem dL_law_240 : decode cL_law 240 = .ok (.invokevirtual 20, 3) := by decide +kernel
theorem dL_law_243 : decode cL_law 243 = .ok (.aload_n 2, 1) := by decide +kernel
theorem dL_law_244 : decode cL_law 244 = .ok (.invokevirtual 24, 3) := by decide +kernel
theorem dL_law_247 : decode cL_law 247 = .ok (.if_icmp .eq 694, 3) := by decide +kernel
theorem dL_law_250 : decode cL_law 250 = .ok (.iconst 0, 1) := by decide +kernel
theorem dL_law_251 : decode cL_law 251 = .ok (.ireturn, 1) := by decide +kernel
theorem dL_law_252 : decode cL_law 252 = .ok (.aload_n 1, 1) := by decide +kernel
theorem dL_law_253 : decode cL_law 253 = .ok (.aload_n 0, 1) := by decide +kernel
theorem dL_law_254 : decode cL_law 254 = .ok (.iload_n 3, 1) := by decide +kernel
theorem dL_law_255 : decode cL_law 255 = .ok (.iconst 1, 1) := by decide +kernel
theorem dL_law_256 : decode cL_law 256 = .ok (.iadd, 1) := by decide +kernel
theorem dL_law_257 : decode cL_law 257 = .ok (.iaload, 1) := by decide +kernel
theorem dL_law_258 : decode cL_law 258 = .ok (.invokevirtual 25, 3) := by decide +kernel
theorem dL_law_261 : decode cL_law 261 = .ok (.aload_n 2, 1) := by decide +kernel
theorem dL_law_262 : decode cL_law 262 = .ok (.aload_n 0, 1) := by decide +kernel
theorem dL_law_263 : decode cL_law 263 = .ok (.iload_n 3, 1) := by decide +kernel
theorem dL_law_264 : decode cL_law 264 = .ok (.iconst 1, 1) := by decide +kernel
theorem dL_law_265 : decode cL_law 265 = .ok (.iadd, 1) := by decide +kernel
theorem dL_law_266 : decode cL_law 266 = .ok (.iaload, 1) := by decide +kernel
theorem dL_law_267 : decode cL_law 267 = .ok (.invokevirtual 29, 3) := by decide +kernel
theorem dL_law_270 : decode cL_law 270 = .ok (.if_icmp .eq 671, 3) := by decide +kernel
theorem dL_law_273 : decode cL_law 273 = .ok (.iconst 0, 1) := by decide +kernel
theorem dL_law_274 : decode cL_law 274 = .ok (.ireturn, 1) := by decide +kernel
theorem dL_law_275 : decode cL_law 275 = .ok (.aload_n 1, 1) := by decide +kernel
theorem dL_law_276 : decode cL_law 276 = .ok (.invokevirtual 30, 3) := by decide +kernel
theorem dL_law_279 : decode cL_law 279 = .ok (.aload_n 2, 1) := by decide +kernel
theorem dL_law_280 : decode cL_law 280 = .ok (.invokevirtual 34, 3) := by decide +kernel
theorem dL_law_283 : decode cL_law 283 = .ok (.lcmp, 1) := by decide +kernel
theorem dL_law_284 : decode cL_law 284 = .ok (.ifCond .eq 657, 3) := by decide +kernel
theorem dL_law_287 : decode cL_law 287 = .ok (.iconst 0, 1) := by decide +kernel
theorem dL_law_288 : decode cL_law 288 = .ok (.ireturn, 1) := by decide +kernel
theorem dL_law_289 : decode cL_law 289 = .ok (.aload_n 1, 1) := by decide +kernel
theorem dL_law_290 : decode cL_law 290 = .ok (.aload_n 0, 1) := by decide +kernel
theorem dL_law_291 : decode cL_law 291 = .ok (.iload_n 3, 1) := by decide +kernel
theorem dL_law_292 : decode cL_law 292 = .ok (.iconst 1, 1) := by decide +kernel
theorem dL_law_293 : decode cL_law 293 = .ok (.iadd, 1) := by decide +kernel
theorem dL_law_294 : decode cL_law 294 = .ok (.iaload, 1) := by decide +kernel
theorem dL_law_295 : decode cL_law 295 = .ok (.invokevirtual 35, 3) := by decide +kernel
theorem dL_law_298 : decode cL_law 298 = .ok (.aload_n 2, 1) := by decide +kernel
theorem dL_law_299 : decode cL_law 299 = .ok (.aload_n 0, 1) := by decide +kernel
theorem dL_law_300 : decode cL_law 300 = .ok (.iload_n 3, 1) := by decide +kernel
theorem dL_law_301 : decode cL_law 301 = .ok (.iconst 1, 1) := by decide +kernel
theorem dL_law_302 : decode cL_law 302 = .ok (.iadd, 1) := by decide +kernel
theorem dL_law_303 : decode cL_law 303 = .ok (.iaload, 1) := by decide +kernel
theorem dL_law_304 : decode cL_law 304 = .ok (.invokevirtual 38, 3) := by decide +kernel
theorem dL_law_307 : decode cL_law 307 = .ok (.if_icmp .eq 634, 3) := by decide +kernel
theorem dL_law_310 : decode cL_law 310 = .ok (.iconst 0, 1) := by decide +kernel
theorem dL_law_311 : decode cL_law 311 = .ok (.ireturn, 1) := by decide +kernel
theorem dL_law_312 : decode cL_law 312 = .ok (.aload_n 1, 1) := by decide +kernel
theorem dL_law_313 : decode cL_law 313 = .ok (.aload_n 0, 1) := by decide +kernel
theorem dL_law_314 : decode cL_law 314 = .ok (.iload_n 3, 1) := by decide +kernel
theorem dL_law_315 : decode cL_law 315 = .ok (.iconst 1, 1) := by decide +kernel
theorem dL_law_316 : decode cL_law 316 = .ok (.iadd, 1) := by decide +kernel
theorem dL_law_317 : decode cL_law 317 = .ok (.iaload, 1) := by decide +kernel
theorem dL_law_318 : decode cL_law 318 = .ok (.aload_n 0, 1) := by decide +kernel
theorem dL_law_319 : decode cL_law 319 = .ok (.iload_n 3, 1) := by decide +kernel
theorem dL_law_320 : decode cL_law 320 = .ok (.iconst 2, 1) := by decide +kernel
theorem dL_law_321 : decode cL_law 321 = .ok (.iadd, 1) := by decide +kernel
theorem dL_law_322 : decode cL_law 322 = .ok (.iaload, 1) := by decide +kernel
theorem dL_law_323 : decode cL_law 323 = .ok (.aload_n 0, 1) := by decide +kernel
theorem dL_law_324 : decode cL_law 324 = .ok (.iload_n 3, 1) := by decide +kernel
theorem dL_law_325 : decode cL_law 325 = .ok (.iconst 3, 1) := by decide +kernel
theorem dL_law_326 : decode cL_law 326 = .ok (.iadd, 1) := by decide +kernel
theorem dL_law_327 : decode cL_law 327 = .ok (.iaload, 1) := by decide +kernel
theorem dL_law_328 : decode cL_law 328 = .ok (.invokevirtual 39, 3) := by decide +kernel
theorem dL_law_331 : decode cL_law 331 = .ok (.aload_n 2, 1) := by decide +kernel
theorem dL_law_332 : decode cL_law 332 = .ok (.aload_n 0, 1) := by decide +kernel
theorem dL_law_333 : decode cL_law 333 = .ok (.iload_n 3, 1) := by decide +kernel
theorem dL_law_334 : decode cL_law 334 = .ok (.iconst 1, 1) := by decide +kernel
theorem dL_law_335 : decode cL_law 335 = .ok (.iadd, 1) := by decide +kernel
theorem dL_law_336 : decode cL_law 336 = .ok (.iaload, 1) := by decide +kernel
theorem dL_law_337 : decode cL_law 337 = .ok (.aload_n 0, 1) := by decide +kernel
theorem dL_law_338 : decode cL_law 338 = .ok (.iload_n 3, 1) := by decide +kernel
theorem dL_law_339 : decode cL_law 339 = .ok (.iconst 2, 1) := by decide +kernel
theorem dL_law_340 : decode cL_law 340 = .ok (.iadd, 1) := by decide +kernel
theorem dL_law_341 : decode cL_law 341 = .ok (.iaload, 1) := by decide +kernel
theorem dL_law_342 : decode cL_law 342 = .ok (.aload_n 0, 1) := by decide +kernel
theorem dL_law_343 : decode cL_law 343 = .ok (.iload_n 3, 1) := by decide +kernel
theorem dL_law_344 : decode cL_law 344 = .ok (.iconst 3, 1) := by decide +kernel
theorem dL_law_345 : decode cL_law 345 = .ok (.iadd, 1) := by decide +kernel
theorem dL_law_346 : decode cL_law 346 = .ok (.iaload, 1) := by decide +kernel
theorem dL_law_347 : decode cL_law 347 = .ok (.invokevirtual 43, 3) := by decide +kernel
theorem dL_law_350 : decode cL_law 350 = .ok (.if_icmp .eq 591, 3) := by decide +kernel
theorem dL_law_353 : decode cL_law 353 = .ok (.iconst 0, 1) := by decide +kernel
theorem dL_law_354 : decode cL_law 354 = .ok (.ireturn, 1) := by decide +kernel
theorem dL_law_355 : decode cL_law 355 = .ok (.aload_n 1, 1) := by decide +kernel
theorem dL_law_356 : decode cL_law 356 = .ok (.aload_n 0, 1) := by decide +kernel
theorem dL_law_357 : decode cL_law 357 = .ok (.iload_n 3, 1) := by decide +kernel
theorem dL_law_358 : decode cL_law 358 = .ok (.iconst 1, 1) := by decide +kernel
theorem dL_law_359 : decode cL_law 359 = .ok (.iadd, 1) := by decide +kernel
theorem dL_law_360 : decode cL_law 360 = .ok (.iaload, 1) := by decide +kernel
theorem dL_law_361 : decode cL_law 361 = .ok (.invokevirtual 44, 3) := by decide +kernel
theorem dL_law_364 : decode cL_law 364 = .ok (.aload_n 2, 1) := by decide +kernel
theorem dL_law_365 : decode cL_law 365 = .ok (.aload_n 0, 1) := by decide +kernel
theorem dL_law_366 : decode cL_law 366 = .ok (.iload_n 3, 1) := by decide +kernel
theorem dL_law_367 : decode cL_law 367 = .ok (.iconst 1, 1) := by decide +kernel
theorem dL_law_368 : decode cL_law 368 = .ok (.iadd, 1) := by decide +kernel
theorem dL_law_369 : decode cL_law 369 = .ok (.iaload, 1) := by decide +kernel
theorem dL_law_370 : decode cL_law 370 = .ok (.invokevirtual 48, 3) := by decide +kernel
theorem dL_law_373 : decode cL_law 373 = .ok (.lcmp, 1) := by decide +kernel
theorem dL_law_374 : decode cL_law 374 = .ok (.ifCond .eq 567, 3) := by decide +kernel
theorem dL_law_377 : decode cL_law 377 = .ok (.iconst 0, 1) := by decide +kernel
theorem dL_law_378 : decode cL_law 378 = .ok (.ireturn, 1) := by decide +kernel
theorem dL_law_379 : decode cL_law 379 = .ok (.aload_n 1, 1) := by decide +kernel
theorem dL_law_380 : decode cL_law 380 = .ok (.aload_n 0, 1) := by decide +kernel
theorem dL_law_381 : decode cL_law 381 = .ok (.iload_n 3, 1) := by decide +kernel
theorem dL_law_382 : decode cL_law 382 = .ok (.iconst 1, 1) := by decide +kernel
theorem dL_law_383 : decode cL_law 383 = .ok (.iadd, 1) := by decide +kernel
theorem dL_law_384 : decode cL_law 384 = .ok (.iaload, 1) := by decide +kernel
theorem dL_law_385 : decode cL_law 385 = .ok (.aload_n 0, 1) := by decide +kernel
theorem dL_law_386 : decode cL_law 386 = .ok (.iload_n 3, 1) := by decide +kernel
theorem dL_law_387 : decode cL_law 387 = .ok (.iconst 2, 1) := by decide +kernel
theorem dL_law_388 : decode cL_law 388 = .ok (.iadd, 1) := by decide +kernel
theorem dL_law_389 : decode cL_law 389 = .ok (.iaload, 1) := by decide +kernel
theorem dL_law_390 : decode cL_law 390 = .ok (.invokevirtual 49, 3) := by decide +kernel
theorem dL_law_393 : decode cL_law 393 = .ok (.aload_n 2, 1) := by decide +kernel
theorem dL_law_394 : decode cL_law 394 = .ok (.aload_n 0, 1) := by decide +kernel
theorem dL_law_395 : decode cL_law 395 = .ok (.iload_n 3, 1) := by decide +kernel
theorem dL_law_396 : decode cL_law 396 = .ok (.iconst 1, 1) := by decide +kernel
theorem dL_law_397 : decode cL_law 397 = .ok (.iadd, 1) := by decide +kernel
theorem dL_law_398 : decode cL_law 398 = .ok (.iaload, 1) := by decide +kernel
theorem dL_law_399 : decode cL_law 399 = .ok (.aload_n 0, 1) := by decide +kernel
theorem dL_law_400 : decode cL_law 400 = .ok (.iload_n 3, 1) := by decide +kernel
theorem dL_law_401 : decode cL_law 401 = .ok (.iconst 2, 1) := by decide +kernel
theorem dL_law_402 : decode cL_law 402 = .ok (.iadd, 1) := by decide +kernel
theorem dL_law_403 : decode cL_law 403 = .ok (.iaload, 1) := by decide +kernel
theorem dL_law_404 : decode cL_law 404 = .ok (.invokevirtual 53, 3) := by decide +kernel
theorem dL_law_407 : decode cL_law 407 = .ok (.if_icmp .eq 534, 3) := by decide +kernel
theorem dL_law_410 : decode cL_law 410 = .ok (.iconst 0, 1) := by decide +kernel
theorem dL_law_411 : decode cL_law 411 = .ok (.ireturn, 1) := by decide +kernel
theorem dL_law_412 : decode cL_law 412 = .ok (.aload_n 1, 1) := by decide +kernel
theorem dL_law_413 : decode cL_law 413 = .ok (.aload_n 0, 1) := by decide +kernel
theorem dL_law_414 : decode cL_law 414 = .ok (.iload_n 3, 1) := by decide +kernel
theorem dL_law_415 : decode cL_law 415 = .ok (.iconst 1, 1) := by decide +kernel
theorem dL_law_416 : decode cL_law 416 = .ok (.iadd, 1) := by decide +kernel
theorem dL_law_417 : decode cL_law 417 = .ok (.iaload, 1) := by decide +kernel
theorem dL_law_418 : decode cL_law 418 = .ok (.invokevirtual 54, 3) := by decide +kernel
theorem dL_law_421 : decode cL_law 421 = .ok (.aload_n 2, 1) := by decide +kernel
theorem dL_law_422 : decode cL_law 422 = .ok (.aload_n 0, 1) := by decide +kernel
theorem dL_law_423 : decode cL_law 423 = .ok (.iload_n 3, 1) := by decide +kernel
theorem dL_law_424 : decode cL_law 424 = .ok (.iconst 1, 1) := by decide +kernel
theorem dL_law_425 : decode cL_law 425 = .ok (.iadd, 1) := by decide +kernel
theorem dL_law_426 : decode cL_law 426 = .ok (.iaload, 1) := by decide +kernel
theorem dL_law_427 : decode cL_law 427 = .ok (.invokevirtual 57, 3) := by decide +kernel
theorem dL_law_430 : decode cL_law 430 = .ok (.if_icmp .eq 511, 3) := by decide +kernel
theorem dL_law_433 : decode cL_law 433 = .ok (.iconst 0, 1) := by decide +kernel
theorem dL_law_434 : decode cL_law 434 = .ok (.ireturn, 1) := by decide +kernel
theorem dL_law_435 : decode cL_law 435 = .ok (.aload_n 1, 1) := by decide +kernel
theorem dL_law_436 : decode cL_law 436 = .ok (.aload_n 0, 1) := by decide +kernel
theorem dL_law_437 : decode cL_law 437 = .ok (.iload_n 3, 1) := by decide +kernel
theorem dL_law_438 : decode cL_law 438 = .ok (.iconst 1, 1) := by decide +kernel
theorem dL_law_439 : decode cL_law 439 = .ok (.iadd, 1) := by decide +kernel
theorem dL_law_440 : decode cL_law 440 = .ok (.iaload, 1) := by decide +kernel
theorem dL_law_441 : decode cL_law 441 = .ok (.ifCond .eq 7, 3) := by decide +kernel
theorem dL_law_444 : decode cL_law 444 = .ok (.iconst 1, 1) := by decide +kernel
theorem dL_law_445 : decode cL_law 445 = .ok (.goto 4, 3) := by decide +kernel
theorem dL_law_448 : decode cL_law 448 = .ok (.iconst 0, 1) := by decide +kernel
theorem dL_law_449 : decode cL_law 449 = .ok (.invokevirtual 58, 3) := by decide +kernel
theorem dL_law_452 : decode cL_law 452 = .ok (.aload_n 2, 1) := by decide +kernel
theorem dL_law_453 : decode cL_law 453 = .ok (.aload_n 0, 1) := by decide +kernel
theorem dL_law_454 : decode cL_law 454 = .ok (.iload_n 3, 1) := by decide +kernel
theorem dL_law_455 : decode cL_law 455 = .ok (.iconst 1, 1) := by decide +kernel
theorem dL_law_456 : decode cL_law 456 = .ok (.iadd, 1) := by decide +kernel
theorem dL_law_457 : decode cL_law 457 = .ok (.iaload, 1) := by decide +kernel
theorem dL_law_458 : decode cL_law 458 = .ok (.ifCond .eq 7, 3) := by decide +kernel
theorem dL_law_461 : decode cL_law 461 = .ok (.iconst 1, 1) := by decide +kernel
theorem dL_law_462 : decode cL_law 462 = .ok (.goto 4, 3) := by decide +kernel
theorem dL_law_465 : decode cL_law 465 = .ok (.iconst 0, 1) := by decide +kernel
theorem dL_law_466 : decode cL_law 466 = .ok (.invokevirtual 62, 3) := by decide +kernel
theorem dL_law_469 : decode cL_law 469 = .ok (.lcmp, 1) := by decide +kernel
theorem dL_law_470 : decode cL_law 470 = .ok (.ifCond .eq 471, 3) := by decide +kernel
theorem dL_law_473 : decode cL_law 473 = .ok (.iconst 0, 1) := by decide +kernel
theorem dL_law_474 : decode cL_law 474 = .ok (.ireturn, 1) := by decide +kernel
theorem dL_law_475 : decode cL_law 475 = .ok (.aload_n 1, 1) := by decide +kernel
theorem dL_law_476 : decode cL_law 476 = .ok (.aload_n 0, 1) := by decide +kernel
theorem dL_law_477 : decode cL_law 477 = .ok (.iload_n 3, 1) := by decide +kernel
theorem dL_law_478 : decode cL_law 478 = .ok (.iconst 1, 1) := by decide +kernel
theorem dL_law_479 : decode cL_law 479 = .ok (.iadd, 1) := by decide +kernel
theorem dL_law_480 : decode cL_law 480 = .ok (.iaload, 1) := by decide +kernel
theorem dL_law_481 : decode cL_law 481 = .ok (.aload_n 0, 1) := by decide +kernel
theorem dL_law_482 : decode cL_law 482 = .ok (.iload_n 3, 1) := by decide +kernel
theorem dL_law_483 : decode cL_law 483 = .ok (.iconst 2, 1) := by decide +kernel
theorem dL_law_484 : decode cL_law 484 = .ok (.iadd, 1) := by decide +kernel
theorem dL_law_485 : decode cL_law 485 = .ok (.iaload, 1) := by decide +kernel
theorem dL_law_486 : decode cL_law 486 = .ok (.invokevirtual 63, 3) := by decide +kernel
theorem dL_law_489 : decode cL_law 489 = .ok (.aload_n 2, 1) := by decide +kernel
theorem dL_law_490 : decode cL_law 490 = .ok (.aload_n 0, 1) := by decide +kernel
theorem dL_law_491 : decode cL_law 491 = .ok (.iload_n 3, 1) := by decide +kernel
theorem dL_law_492 : decode cL_law 492 = .ok (.iconst 1, 1) := by decide +kernel
theorem dL_law_493 : decode cL_law 493 = .ok (.iadd, 1) := by decide +kernel
theorem dL_law_494 : decode cL_law 494 = .ok (.iaload, 1) := by decide +kernel
theorem dL_law_495 : decode cL_law 495 = .ok (.aload_n 0, 1) := by decide +kernel
theorem dL_law_496 : decode cL_law 496 = .ok (.iload_n 3, 1) := by decide +kernel
theorem dL_law_497 : decode cL_law 497 = .ok (.iconst 2, 1) := by decide +kernel
theorem dL_law_498 : decode cL_law 498 = .ok (.iadd, 1) := by decide +kernel
theorem dL_law_499 : decode cL_law 499 = .ok (.iaload, 1) := by decide +kernel
theorem dL_law_500 : decode cL_law 500 = .ok (.invokevirtual 66, 3) := by decide +kernel
theorem dL_law_503 : decode cL_law 503 = .ok (.if_icmp .eq 438, 3) := by decide +kernel
theorem dL_law_506 : decode cL_law 506 = .ok (.iconst 0, 1) := by decide +kernel
theorem dL_law_507 : decode cL_law 507 = .ok (.ireturn, 1) := by decide +kernel
theorem dL_law_508 : decode cL_law 508 = .ok (.aload_n 1, 1) := by decide +kernel
theorem dL_law_509 : decode cL_law 509 = .ok (.invokevirtual 67, 3) := by decide +kernel
theorem dL_law_512 : decode cL_law 512 = .ok (.aload_n 2, 1) := by decide +kernel
theorem dL_law_513 : decode cL_law 513 = .ok (.invokevirtual 70, 3) := by decide +kernel
theorem dL_law_516 : decode cL_law 516 = .ok (.if_icmp .eq 425, 3) := by decide +kernel
theorem dL_law_519 : decode cL_law 519 = .ok (.iconst 0, 1) := by decide +kernel
theorem dL_law_520 : decode cL_law 520 = .ok (.ireturn, 1) := by decide +kernel
theorem dL_law_521 : decode cL_law 521 = .ok (.aload_n 1, 1) := by decide +kernel
theorem dL_law_522 : decode cL_law 522 = .ok (.aload_n 0, 1) := by decide +kernel
theorem dL_law_523 : decode cL_law 523 = .ok (.iload_n 3, 1) := by decide +kernel
theorem dL_law_524 : decode cL_law 524 = .ok (.iconst 1, 1) := by decide +kernel
theorem dL_law_525 : decode cL_law 525 = .ok (.iadd, 1) := by decide +kernel
theorem dL_law_526 : decode cL_law 526 = .ok (.iaload, 1) := by decide +kernel
theorem dL_law_527 : decode cL_law 527 = .ok (.aload_n 0, 1) := by decide +kernel
theorem dL_law_528 : decode cL_law 528 = .ok (.iload_n 3, 1) := by decide +kernel
theorem dL_law_529 : decode cL_law 529 = .ok (.iconst 2, 1) := by decide +kernel
theorem dL_law_530 : decode cL_law 530 = .ok (.iadd, 1) := by decide +kernel
theorem dL_law_531 : decode cL_law 531 = .ok (.iaload, 1) := by decide +kernel
theorem dL_law_532 : decode cL_law 532 = .ok (.invokevirtual 71, 3) := by decide +kernel
theorem dL_law_535 : decode cL_law 535 = .ok (.aload_n 2, 1) := by decide +kernel
theorem dL_law_536 : decode cL_law 536 = .ok (.aload_n 0, 1) := by decide +kernel
theorem dL_law_537 : decode cL_law 537 = .ok (.iload_n 3, 1) := by decide +kernel
theorem dL_law_538 : decode cL_law 538 = .ok (.iconst 1, 1) := by decide +kernel
theorem dL_law_539 : decode cL_law 539 = .ok (.iadd, 1) := by decide +kernel
theorem dL_law_540 : decode cL_law 540 = .ok (.iaload, 1) := by decide +kernel
theorem dL_law_541 : decode cL_law 541 = .ok (.aload_n 0, 1) := by decide +kernel
theorem dL_law_542 : decode cL_law 542 = .ok (.iload_n 3, 1) := by decide +kernel
theorem dL_law_543 : decode cL_law 543 = .ok (.iconst 2, 1) := by decide +kernel
theorem dL_law_544 : decode cL_law 544 = .ok (.iadd, 1) := by decide +kernel
theorem dL_law_545 : decode cL_law 545 = .ok (.iaload, 1) := by decide +kernel
theorem dL_law_546 : decode cL_law 546 = .ok (.invokevirtual 74, 3) := by decide +kernel
theorem dL_law_549 : decode cL_law 549 = .ok (.if_icmp .eq 392, 3) := by decide +kernel
theorem dL_law_552 : decode cL_law 552 = .ok (.iconst 0, 1) := by decide +kernel
theorem dL_law_553 : decode cL_law 553 = .ok (.ireturn, 1) := by decide +kernel
theorem dL_law_554 : decode cL_law 554 = .ok (.aload_n 1, 1) := by decide +kernel
theorem dL_law_555 : decode cL_law 555 = .ok (.aload_n 0, 1) := by decide +kernel
theorem dL_law_556 : decode cL_law 556 = .ok (.iload_n 3, 1) := by decide +kernel
theorem dL_law_557 : decode cL_law 557 = .ok (.iconst 1, 1) := by decide +kernel
theorem dL_law_558 : decode cL_law 558 = .ok (.iadd, 1) := by decide +kernel
theorem dL_law_559 : decode cL_law 559 = .ok (.iaload, 1) := by decide +kernel
theorem dL_law_560 : decode cL_law 560 = .ok (.invokevirtual 75, 3) := by decide +kernel
theorem dL_law_563 : decode cL_law 563 = .ok (.aload_n 2, 1) := by decide +kernel
theorem dL_law_564 : decode cL_law 564 = .ok (.aload_n 0, 1) := by decide +kernel
theorem dL_law_565 : decode cL_law 565 = .ok (.iload_n 3, 1) := by decide +kernel
theorem dL_law_566 : decode cL_law 566 = .ok (.iconst 1, 1) := by decide +kernel
theorem dL_law_567 : decode cL_law 567 = .ok (.iadd, 1) := by decide +kernel
theorem dL_law_568 : decode cL_law 568 = .ok (.iaload, 1) := by decide +kernel
theorem dL_law_569 : decode cL_law 569 = .ok (.invokevirtual 78, 3) := by decide +kernel
theorem dL_law_572 : decode cL_law 572 = .ok (.if_icmp .eq 369, 3) := by decide +kernel
theorem dL_law_575 : decode cL_law 575 = .ok (.iconst 0, 1) := by decide +kernel
theorem dL_law_576 : decode cL_law 576 = .ok (.ireturn, 1) := by decide +kernel
theorem dL_law_577 : decode cL_law 577 = .ok (.aload_n 1, 1) := by decide +kernel
theorem dL_law_578 : decode cL_law 578 = .ok (.invokevirtual 79, 3) := by decide +kernel
theorem dL_law_581 : decode cL_law 581 = .ok (.aload_n 2, 1) := by decide +kernel
theorem dL_law_582 : decode cL_law 582 = .ok (.invokevirtual 82, 3) := by decide +kernel
theorem dL_law_585 : decode cL_law 585 = .ok (.if_icmp .eq 356, 3) := by decide +kernel
theorem dL_law_588 : decode cL_law 588 = .ok (.iconst 0, 1) := by decide +kernel
theorem dL_law_589 : decode cL_law 589 = .ok (.ireturn, 1) := by decide +kernel
theorem dL_law_590 : decode cL_law 590 = .ok (.aload_n 1, 1) := by decide +kernel
theorem dL_law_591 : decode cL_law 591 = .ok (.aload_n 0, 1) := by decide +kernel
theorem dL_law_592 : decode cL_law 592 = .ok (.iload_n 3, 1) := by decide +kernel
theorem dL_law_593 : decode cL_law 593 = .ok (.iconst 1, 1) := by decide +kernel
theorem dL_law_594 : decode cL_law 594 = .ok (.iadd, 1) := by decide +kernel
theorem dL_law_595 : decode cL_law 595 = .ok (.iaload, 1) := by decide +kernel
theorem dL_law_596 : decode cL_law 596 = .ok (.aload_n 0, 1) := by decide +kernel
theorem dL_law_597 : decode cL_law 597 = .ok (.iload_n 3, 1) := by decide +kernel
theorem dL_law_598 : decode cL_law 598 = .ok (.iconst 2, 1) := by decide +kernel
theorem dL_law_599 : decode cL_law 599 = .ok (.iadd, 1) := by decide +kernel
theorem dL_law_600 : decode cL_law 600 = .ok (.iaload, 1) := by decide +kernel
theorem dL_law_601 : decode cL_law 601 = .ok (.invokevirtual 83, 3) := by decide +kernel
theorem dL_law_604 : decode cL_law 604 = .ok (.aload_n 2, 1) := by decide +kernel
theorem dL_law_605 : decode cL_law 605 = .ok (.aload_n 0, 1) := by decide +kernel
theorem dL_law_606 : decode cL_law 606 = .ok (.iload_n 3, 1) := by decide +kernel
theorem dL_law_607 : decode cL_law 607 = .ok (.iconst 1, 1) := by decide +kernel
theorem dL_law_608 : decode cL_law 608 = .ok (.iadd, 1) := by decide +kernel
theorem dL_law_609 : decode cL_law 609 = .ok (.iaload, 1) := by decide +kernel
theorem dL_law_610 : decode cL_law 610 = .ok (.aload_n 0, 1) := by decide +kernel
theorem dL_law_611 : decode cL_law 611 = .ok (.iload_n 3, 1) := by decide +kernel
theorem dL_law_612 : decode cL_law 612 = .ok (.iconst 2, 1) := by decide +kernel
theorem dL_law_613 : decode cL_law 613 = .ok (.iadd, 1) := by decide +kernel
theorem dL_law_614 : decode cL_law 614 = .ok (.iaload, 1) := by decide +kernel
theorem dL_law_615 : decode cL_law 615 = .ok (.invokevirtual 86, 3) := by decide +kernel
theorem dL_law_618 : decode cL_law 618 = .ok (.if_icmp .eq 323, 3) := by decide +kernel
theorem dL_law_621 : decode cL_law 621 = .ok (.iconst 0, 1) := by decide +kernel
theorem dL_law_622 : decode cL_law 622 = .ok (.ireturn, 1) := by decide +kernel
theorem dL_law_623 : decode cL_law 623 = .ok (.aload_n 1, 1) := by decide +kernel
theorem dL_law_624 : decode cL_law 624 = .ok (.aload_n 0, 1) := by decide +kernel
theorem dL_law_625 : decode cL_law 625 = .ok (.iload_n 3, 1) := by decide +kernel
theorem dL_law_626 : decode cL_law 626 = .ok (.iconst 1, 1) := by decide +kernel
theorem dL_law_627 : decode cL_law 627 = .ok (.iadd, 1) := by decide +kernel
theorem dL_law_628 : decode cL_law 628 = .ok (.iaload, 1) := by decide +kernel
theorem dL_law_629 : decode cL_law 629 = .ok (.invokevirtual 87, 3) := by decide +kernel
theorem dL_law_632 : decode cL_law 632 = .ok (.aload_n 2, 1) := by decide +kernel
theorem dL_law_633 : decode cL_law 633 = .ok (.aload_n 0, 1) := by decide +kernel
theorem dL_law_634 : decode cL_law 634 = .ok (.iload_n 3, 1) := by decide +kernel
theorem dL_law_635 : decode cL_law 635 = .ok (.iconst 1, 1) := by decide +kernel
theorem dL_law_636 : decode cL_law 636 = .ok (.iadd, 1) := by decide +kernel
theorem dL_law_637 : decode cL_law 637 = .ok (.iaload, 1) := by decide +kernel
theorem dL_law_638 : decode cL_law 638 = .ok (.invokevirtual 90, 3) := by decide +kernel
theorem dL_law_641 : decode cL_law 641 = .ok (.if_icmp .eq 300, 3) := by decide +kernel
theorem dL_law_644 : decode cL_law 644 = .ok (.iconst 0, 1) := by decide +kernel
theorem dL_law_645 : decode cL_law 645 = .ok (.ireturn, 1) := by decide +kernel
theorem dL_law_646 : decode cL_law 646 = .ok (.aload_n 1, 1) := by decide +kernel
theorem dL_law_647 : decode cL_law 647 = .ok (.invokevirtual 91, 3) := by decide +kernel
theorem dL_law_650 : decode cL_law 650 = .ok (.aload_n 2, 1) := by decide +kernel
theorem dL_law_651 : decode cL_law 651 = .ok (.invokevirtual 94, 3) := by decide +kernel
theorem dL_law_654 : decode cL_law 654 = .ok (.if_icmp .eq 287, 3) := by decide +kernel
theorem dL_law_657 : decode cL_law 657 = .ok (.iconst 0, 1) := by decide +kernel
theorem dL_law_658 : decode cL_law 658 = .ok (.ireturn, 1) := by decide +kernel
theorem dL_law_659 : decode cL_law 659 = .ok (.aload_n 1, 1) := by decide +kernel
theorem dL_law_660 : decode cL_law 660 = .ok (.aload_n 0, 1) := by decide +kernel
theorem dL_law_661 : decode cL_law 661 = .ok (.iload_n 3, 1) := by decide +kernel
theorem dL_law_662 : decode cL_law 662 = .ok (.iconst 1, 1) := by decide +kernel
theorem dL_law_663 : decode cL_law 663 = .ok (.iadd, 1) := by decide +kernel
theorem dL_law_664 : decode cL_law 664 = .ok (.iaload, 1) := by decide +kernel
theorem dL_law_665 : decode cL_law 665 = .ok (.invokevirtual 95, 3) := by decide +kernel
theorem dL_law_668 : decode cL_law 668 = .ok (.aload_n 2, 1) := by decide +kernel
theorem dL_law_669 : decode cL_law 669 = .ok (.aload_n 0, 1) := by decide +kernel
theorem dL_law_670 : decode cL_law 670 = .ok (.iload_n 3, 1) := by decide +kernel
theorem dL_law_671 : decode cL_law 671 = .ok (.iconst 1, 1) := by decide +kernel
theorem dL_law_672 : decode cL_law 672 = .ok (.iadd, 1) := by decide +kernel
theorem dL_law_673 : decode cL_law 673 = .ok (.iaload, 1) := by decide +kernel
theorem dL_law_674 : decode cL_law 674 = .ok (.invokevirtual 98, 3) := by decide +kernel
theorem dL_law_677 : decode cL_law 677 = .ok (.if_icmp .eq 264, 3) := by decide +kernel
theorem dL_law_680 : decode cL_law 680 = .ok (.iconst 0, 1) := by decide +kernel
theorem dL_law_681 : decode cL_law 681 = .ok (.ireturn, 1) := by decide +kernel
theorem dL_law_682 : decode cL_law 682 = .ok (.aload_n 1, 1) := by decide +kernel
theorem dL_law_683 : decode cL_law 683 = .ok (.invokevirtual 99, 3) := by decide +kernel
theorem dL_law_686 : decode cL_law 686 = .ok (.aload_n 2, 1) := by decide +kernel
theorem dL_law_687 : decode cL_law 687 = .ok (.invokevirtual 102, 3) := by decide +kernel
theorem dL_law_690 : decode cL_law 690 = .ok (.if_icmp .eq 251, 3) := by decide +kernel
theorem dL_law_693 : decode cL_law 693 = .ok (.iconst 0, 1) := by decide +kernel
theorem dL_law_694 : decode cL_law 694 = .ok (.ireturn, 1) := by decide +kernel
theorem dL_law_695 : decode cL_law 695 = .ok (.aload_n 1, 1) := by decide +kernel
theorem dL_law_696 : decode cL_law 696 = .ok (.aload_n 0, 1) := by decide +kernel
theorem dL_law_697 : decode cL_law 697 = .ok (.iload_n 3, 1) := by decide +kernel
theorem dL_law_698 : decode cL_law 698 = .ok (.iconst 1, 1) := by decide +kernel
theorem dL_law_699 : decode cL_law 699 = .ok (.iadd, 1) := by decide +kernel
theorem dL_law_700 : decode cL_law 700 = .ok (.iaload, 1) := by decide +kernel
theorem dL_law_701 : decode cL_law 701 = .ok (.aload_n 0, 1) := by decide +kernel
theorem dL_law_702 : decode cL_law 702 = .ok (.iload_n 3, 1) := by decide +kernel
theorem dL_law_703 : decode cL_law 703 = .ok (.iconst 2, 1) := by decide +kernel
theorem dL_law_704 : decode cL_law 704 = .ok (.iadd, 1) := by decide +kernel
theorem dL_law_705 : decode cL_law 705 = .ok (.iaload, 1) := by decide +kernel
theorem dL_law_706 : decode cL_law 706 = .ok (.invokevirtual 103, 3) := by decide +kernel
theorem dL_law_709 : decode cL_law 709 = .ok (.aload_n 2, 1) := by decide +kernel
theorem dL_law_710 : decode cL_law 710 = .ok (.aload_n 0, 1) := by decide +kernel
theorem dL_law_711 : decode cL_law 711 = .ok (.iload_n 3, 1) := by decide +kernel
theorem dL_law_712 : decode cL_law 712 = .ok (.iconst 1, 1) := by decide +kernel
theorem dL_law_713 : decode cL_law 713 = .ok (.iadd, 1) := by decide +kernel
theorem dL_law_714 : decode cL_law 714 = .ok (.iaload, 1) := by decide +kernel
theorem dL_law_715 : decode cL_law 715 = .ok (.aload_n 0, 1) := by decide +kernel
theorem dL_law_716 : decode cL_law 716 = .ok (.iload_n 3, 1) := by decide +kernel
theorem dL_law_717 : decode cL_law 717 = .ok (.iconst 2, 1) := by decide +kernel
theorem dL_law_718 : decode cL_law 718 = .ok (.iadd, 1) := by decide +kernel
theorem dL_law_719 : decode cL_law 719 = .ok (.iaload, 1) := by decide +kernel
theorem dL_law_720 : decode cL_law 720 = .ok (.invokevirtual 106, 3) := by decide +kernel
theorem dL_law_723 : decode cL_law 723 = .ok (.if_icmp .eq 218, 3) := by decide +kernel
theorem dL_law_726 : decode cL_law 726 = .ok (.iconst 0, 1) := by decide +kernel
theorem dL_law_727 : decode cL_law 727 = .ok (.ireturn, 1) := by decide +kernel
theorem dL_law_728 : decode cL_law 728 = .ok (.aload_n 1, 1) := by decide +kernel
theorem dL_law_729 : decode cL_law 729 = .ok (.invokevirtual 107, 3) := by decide +kernel
theorem dL_law_732 : decode cL_law 732 = .ok (.aload_n 2, 1) := by decide +kernel
theorem dL_law_733 : decode cL_law 733 = .ok (.invokevirtual 110, 3) := by decide +kernel
theorem dL_law_736 : decode cL_law 736 = .ok (.if_icmp .eq 205, 3) := by decide +kernel
theorem dL_law_739 : decode cL_law 739 = .ok (.iconst 0, 1) := by decide +kernel
theorem dL_law_740 : decode cL_law 740 = .ok (.ireturn, 1) := by decide +kernel
theorem dL_law_741 : decode cL_law 741 = .ok (.aload_n 1, 1) := by decide +kernel
theorem dL_law_742 : decode cL_law 742 = .ok (.invokevirtual 111, 3) := by decide +kernel
theorem dL_law_745 : decode cL_law 745 = .ok (.aload_n 2, 1) := by decide +kernel
theorem dL_law_746 : decode cL_law 746 = .ok (.invokevirtual 114, 3) := by decide +kernel
theorem dL_law_749 : decode cL_law 749 = .ok (.if_icmp .eq 192, 3) := by decide +kernel
theorem dL_law_752 : decode cL_law 752 = .ok (.iconst 0, 1) := by decide +kernel
theorem dL_law_753 : decode cL_law 753 = .ok (.ireturn, 1) := by decide +kernel
theorem dL_law_754 : decode cL_law 754 = .ok (.aload_n 1, 1) := by decide +kernel
theorem dL_law_755 : decode cL_law 755 = .ok (.invokevirtual 115, 3) := by decide +kernel
end
section
theorem dL_law_758 : decode cL_law 758 = .ok (.aload_n 2, 1) := by decide +kernel
theorem dL_law_759 : decode cL_law 759 = .ok (.invokevirtual 118, 3) := by decide +kernel
theorem dL_law_762 : decode cL_law 762 = .ok (.if_icmp .eq 179, 3) := by decide +kernel
theorem dL_law_765 : decode cL_law 765 = .ok (.iconst 0, 1) := by decide +kernel
theorem dL_law_766 : decode cL_law 766 = .ok (.ireturn, 1) := by decide +kernel
theorem dL_law_767 : decode cL_law 767 = .ok (.aload_n 1, 1) := by decide +kernel
theorem dL_law_768 : decode cL_law 768 = .ok (.aload_n 0, 1) := by decide +kernel
theorem dL_law_769 : decode cL_law 769 = .ok (.iload_n 3, 1) := by decide +kernel
theorem dL_law_770 : decode cL_law 770 = .ok (.iconst 1, 1) := by decide +kernel
theorem dL_law_771 : decode cL_law 771 = .ok (.iadd, 1) := by decide +kernel
theorem dL_law_772 : decode cL_law 772 = .ok (.iaload, 1) := by decide +kernel
theorem dL_law_773 : decode cL_law 773 = .ok (.aload_n 0, 1) := by decide +kernel
theorem dL_law_774 : decode cL_law 774 = .ok (.iload_n 3, 1) := by decide +kernel
theorem dL_law_775 : decode cL_law 775 = .ok (.iconst 2, 1) := by decide +kernel
theorem dL_law_776 : decode cL_law 776 = .ok (.iadd, 1) := by decide +kernel
theorem dL_law_777 : decode cL_law 777 = .ok (.iaload, 1) := by decide +kernel
theorem dL_law_778 : decode cL_law 778 = .ok (.invokevirtual 119, 3) := by decide +kernel
theorem dL_law_781 : decode cL_law 781 = .ok (.aload_n 2, 1) := by decide +kernel
theorem dL_law_782 : decode cL_law 782 = .ok (.aload_n 0, 1) := by decide +kernel
theorem dL_law_783 : decode cL_law 783 = .ok (.iload_n 3, 1) := by decide +kernel
theorem dL_law_784 : decode cL_law 784 = .ok (.iconst 1, 1) := by decide +kernel
theorem dL_law_785 : decode cL_law 785 = .ok (.iadd, 1) := by decide +kernel
theorem dL_law_786 : decode cL_law 786 = .ok (.iaload, 1) := by decide +kernel
theorem dL_law_787 : decode cL_law 787 = .ok (.aload_n 0, 1) := by decide +kernel
theorem dL_law_788 : decode cL_law 788 = .ok (.iload_n 3, 1) := by decide +kernel
theorem dL_law_789 : decode cL_law 789 = .ok (.iconst 2, 1) := by decide +kernel
theorem dL_law_790 : decode cL_law 790 = .ok (.iadd, 1) := by decide +kernel
theorem dL_law_791 : decode cL_law 791 = .ok (.iaload, 1) := by decide +kernel
theorem dL_law_792 : decode cL_law 792 = .ok (.invokevirtual 122, 3) := by decide +kernel
theorem dL_law_795 : decode cL_law 795 = .ok (.if_icmp .eq 146, 3) := by decide +kernel
theorem dL_law_798 : decode cL_law 798 = .ok (.iconst 0, 1) := by decide +kernel
theorem dL_law_799 : decode cL_law 799 = .ok (.ireturn, 1) := by decide +kernel
theorem dL_law_800 : decode cL_law 800 = .ok (.aload_n 1, 1) := by decide +kernel
theorem dL_law_801 : decode cL_law 801 = .ok (.aload_n 0, 1) := by decide +kernel
theorem dL_law_802 : decode cL_law 802 = .ok (.iload_n 3, 1) := by decide +kernel
theorem dL_law_803 : decode cL_law 803 = .ok (.iconst 1, 1) := by decide +kernel
theorem dL_law_804 : decode cL_law 804 = .ok (.iadd, 1) := by decide +kernel
theorem dL_law_805 : decode cL_law 805 = .ok (.iaload, 1) := by decide +kernel
theorem dL_law_806 : decode cL_law 806 = .ok (.invokevirtual 123, 3) := by decide +kernel
theorem dL_law_809 : decode cL_law 809 = .ok (.aload_n 2, 1) := by decide +kernel
theorem dL_law_810 : decode cL_law 810 = .ok (.aload_n 0, 1) := by decide +kernel
theorem dL_law_811 : decode cL_law 811 = .ok (.iload_n 3, 1) := by decide +kernel
theorem dL_law_812 : decode cL_law 812 = .ok (.iconst 1, 1) := by decide +kernel
theorem dL_law_813 : decode cL_law 813 = .ok (.iadd, 1) := by decide +kernel
theorem dL_law_814 : decode cL_law 814 = .ok (.iaload, 1) := by decide +kernel
theorem dL_law_815 : decode cL_law 815 = .ok (.invokevirtual 126, 3) := by decide +kernel
theorem dL_law_818 : decode cL_law 818 = .ok (.if_icmp .eq 123, 3) := by decide +kernel
theorem dL_law_821 : decode cL_law 821 = .ok (.iconst 0, 1) := by decide +kernel
theorem dL_law_822 : decode cL_law 822 = .ok (.ireturn, 1) := by decide +kernel
theorem dL_law_823 : decode cL_law 823 = .ok (.aload_n 1, 1) := by decide +kernel
theorem dL_law_824 : decode cL_law 824 = .ok (.aload_n 0, 1) := by decide +kernel
theorem dL_law_825 : decode cL_law 825 = .ok (.iload_n 3, 1) := by decide +kernel
theorem dL_law_826 : decode cL_law 826 = .ok (.iconst 1, 1) := by decide +kernel
theorem dL_law_827 : decode cL_law 827 = .ok (.iadd, 1) := by decide +kernel
theorem dL_law_828 : decode cL_law 828 = .ok (.iaload, 1) := by decide +kernel
theorem dL_law_829 : decode cL_law 829 = .ok (.aload_n 0, 1) := by decide +kernel
theorem dL_law_830 : decode cL_law 830 = .ok (.iload_n 3, 1) := by decide +kernel
theorem dL_law_831 : decode cL_law 831 = .ok (.iconst 2, 1) := by decide +kernel
theorem dL_law_832 : decode cL_law 832 = .ok (.iadd, 1) := by decide +kernel
theorem dL_law_833 : decode cL_law 833 = .ok (.iaload, 1) := by decide +kernel
theorem dL_law_834 : decode cL_law 834 = .ok (.invokevirtual 127, 3) := by decide +kernel
theorem dL_law_837 : decode cL_law 837 = .ok (.aload_n 2, 1) := by decide +kernel
theorem dL_law_838 : decode cL_law 838 = .ok (.aload_n 0, 1) := by decide +kernel
theorem dL_law_839 : decode cL_law 839 = .ok (.iload_n 3, 1) := by decide +kernel
theorem dL_law_840 : decode cL_law 840 = .ok (.iconst 1, 1) := by decide +kernel
theorem dL_law_841 : decode cL_law 841 = .ok (.iadd, 1) := by decide +kernel
theorem dL_law_842 : decode cL_law 842 = .ok (.iaload, 1) := by decide +kernel
theorem dL_law_843 : decode cL_law 843 = .ok (.aload_n 0, 1) := by decide +kernel
theorem dL_law_844 : decode cL_law 844 = .ok (.iload_n 3, 1) := by decide +kernel
theorem dL_law_845 : decode cL_law 845 = .ok (.iconst 2, 1) := by decide +kernel
theorem dL_law_846 : decode cL_law 846 = .ok (.iadd, 1) := by decide +kernel
theorem dL_law_847 : decode cL_law 847 = .ok (.iaload, 1) := by decide +kernel
theorem dL_law_848 : decode cL_law 848 = .ok (.invokevirtual 130, 3) := by decide +kernel
theorem dL_law_851 : decode cL_law 851 = .ok (.if_icmp .eq 90, 3) := by decide +kernel
theorem dL_law_854 : decode cL_law 854 = .ok (.iconst 0, 1) := by decide +kernel
theorem dL_law_855 : decode cL_law 855 = .ok (.ireturn, 1) := by decide +kernel
theorem dL_law_856 : decode cL_law 856 = .ok (.aload_n 1, 1) := by decide +kernel
theorem dL_law_857 : decode cL_law 857 = .ok (.aload_n 0, 1) := by decide +kernel
theorem dL_law_858 : decode cL_law 858 = .ok (.iload_n 3, 1) := by decide +kernel
theorem dL_law_859 : decode cL_law 859 = .ok (.iconst 1, 1) := by decide +kernel
theorem dL_law_860 : decode cL_law 860 = .ok (.iadd, 1) := by decide +kernel
theorem dL_law_861 : decode cL_law 861 = .ok (.iaload, 1) := by decide +kernel
theorem dL_law_862 : decode cL_law 862 = .ok (.invokevirtual 131, 3) := by decide +kernel
theorem dL_law_865 : decode cL_law 865 = .ok (.aload_n 2, 1) := by decide +kernel
theorem dL_law_866 : decode cL_law 866 = .ok (.aload_n 0, 1) := by decide +kernel
theorem dL_law_867 : decode cL_law 867 = .ok (.iload_n 3, 1) := by decide +kernel
theorem dL_law_868 : decode cL_law 868 = .ok (.iconst 1, 1) := by decide +kernel
theorem dL_law_869 : decode cL_law 869 = .ok (.iadd, 1) := by decide +kernel
theorem dL_law_870 : decode cL_law 870 = .ok (.iaload, 1) := by decide +kernel
theorem dL_law_871 : decode cL_law 871 = .ok (.invokevirtual 134, 3) := by decide +kernel
theorem dL_law_874 : decode cL_law 874 = .ok (.if_icmp .eq 67, 3) := by decide +kernel
theorem dL_law_877 : decode cL_law 877 = .ok (.iconst 0, 1) := by decide +kernel
theorem dL_law_878 : decode cL_law 878 = .ok (.ireturn, 1) := by decide +kernel
theorem dL_law_879 : decode cL_law 879 = .ok (.aload_n 1, 1) := by decide +kernel
theorem dL_law_880 : decode cL_law 880 = .ok (.invokevirtual 135, 3) := by decide +kernel
theorem dL_law_883 : decode cL_law 883 = .ok (.aload_n 2, 1) := by decide +kernel
theorem dL_law_884 : decode cL_law 884 = .ok (.invokevirtual 138, 3) := by decide +kernel
theorem dL_law_887 : decode cL_law 887 = .ok (.if_icmp .eq 54, 3) := by decide +kernel
theorem dL_law_890 : decode cL_law 890 = .ok (.iconst 0, 1) := by decide +kernel
theorem dL_law_891 : decode cL_law 891 = .ok (.ireturn, 1) := by decide +kernel
theorem dL_law_892 : decode cL_law 892 = .ok (.aload_n 1, 1) := by decide +kernel
theorem dL_law_893 : decode cL_law 893 = .ok (.invokevirtual 139, 3) := by decide +kernel
theorem dL_law_896 : decode cL_law 896 = .ok (.aload_n 2, 1) := by decide +kernel
theorem dL_law_897 : decode cL_law 897 = .ok (.invokevirtual 142, 3) := by decide +kernel
theorem dL_law_900 : decode cL_law 900 = .ok (.if_icmp .eq 41, 3) := by decide +kernel
theorem dL_law_903 : decode cL_law 903 = .ok (.iconst 0, 1) := by decide +kernel
theorem dL_law_904 : decode cL_law 904 = .ok (.ireturn, 1) := by decide +kernel
theorem dL_law_905 : decode cL_law 905 = .ok (.aload_n 1, 1) := by decide +kernel
theorem dL_law_906 : decode cL_law 906 = .ok (.invokevirtual 143, 3) := by decide +kernel
theorem dL_law_909 : decode cL_law 909 = .ok (.aload_n 2, 1) := by decide +kernel
theorem dL_law_910 : decode cL_law 910 = .ok (.invokevirtual 146, 3) := by decide +kernel
theorem dL_law_913 : decode cL_law 913 = .ok (.if_icmp .eq 28, 3) := by decide +kernel
theorem dL_law_916 : decode cL_law 916 = .ok (.iconst 0, 1) := by decide +kernel
theorem dL_law_917 : decode cL_law 917 = .ok (.ireturn, 1) := by decide +kernel
theorem dL_law_918 : decode cL_law 918 = .ok (.aload_n 1, 1) := by decide +kernel
theorem dL_law_919 : decode cL_law 919 = .ok (.aload_n 0, 1) := by decide +kernel
theorem dL_law_920 : decode cL_law 920 = .ok (.iload_n 3, 1) := by decide +kernel
theorem dL_law_921 : decode cL_law 921 = .ok (.iconst 1, 1) := by decide +kernel
theorem dL_law_922 : decode cL_law 922 = .ok (.iadd, 1) := by decide +kernel
theorem dL_law_923 : decode cL_law 923 = .ok (.iaload, 1) := by decide +kernel
theorem dL_law_924 : decode cL_law 924 = .ok (.invokevirtual 147, 3) := by decide +kernel
theorem dL_law_927 : decode cL_law 927 = .ok (.aload_n 2, 1) := by decide +kernel
theorem dL_law_928 : decode cL_law 928 = .ok (.aload_n 0, 1) := by decide +kernel
theorem dL_law_929 : decode cL_law 929 = .ok (.iload_n 3, 1) := by decide +kernel
theorem dL_law_930 : decode cL_law 930 = .ok (.iconst 1, 1) := by decide +kernel
theorem dL_law_931 : decode cL_law 931 = .ok (.iadd, 1) := by decide +kernel
theorem dL_law_932 : decode cL_law 932 = .ok (.iaload, 1) := by decide +kernel
theorem dL_law_933 : decode cL_law 933 = .ok (.invokevirtual 150, 3) := by decide +kernel
theorem dL_law_936 : decode cL_law 936 = .ok (.if_icmp .eq 5, 3) := by decide +kernel
theorem dL_law_939 : decode cL_law 939 = .ok (.iconst 0, 1) := by decide +kernel
theorem dL_law_940 : decode cL_law 940 = .ok (.ireturn, 1) := by decide +kernel
theorem dL_law_941 : decode cL_law 941 = .ok (.iinc 3 4, 3) := by decide +kernel
theorem dL_law_944 : decode cL_law 944 = .ok (.goto (-926), 3) := by decide +kernel
theorem dL_law_947 : decode cL_law 947 = .ok (.iconst 1, 1) := by decide +kernel
theorem dL_law_948 : decode cL_law 948 = .ok (.ireturn, 1) := by decide +kernel
end
section
/-! THE WORLD AS NUMBERS: cells have numbers 0 .. 73 (the class's 0 .. 49, the reference's 50 .. 73); what is in them are two functions, of ints and of longs; references are fixed -/
abbrev ZM : Type := (Nat → Nat → Int32) × (Nat → Nat → Int64)
def zi (M : ZM) (a k : Nat) (v : Int32) : ZM := (fun b j => if b = a ∧ j = k then v else M.1 b j, M.2)
def zl (M : ZM) (a k : Nat) (v : Int64) : ZM := (M.1, fun b j => if b = a ∧ j = k then v else M.2 b j)
/-- addresses, array classes, the tables' numbers, the static row, from .. to which cells -/
abbrev ZG : Type := (Nat → Nat) × (Nat → ClassId) × va_G × Nat × Nat × Nat
/-- kinds: 0 ints, 1 longs, 2 booleans, 10 and more a class -/
def zKs : List Nat := [21, 20, 0, 20, 0, 20, 0, 19, 1, 1, 17, 0, 0, 0, 0, 0, 0, 1, 0, 12, 15, 1, 1, 0, 1, 0, 0, 18, 1, 14, 0, 16, 0, 16, 0, 13, 0, 0, 10, 0, 0, 11, 20, 0, 14, 0, 10, 0, 0, 0, 22, 0, 0, 0, 0, 0, 0, 0, 0, 0, 0, 1, 0, 0, 0, 0, 0, 0, 1, 1, 1, 2, 2, 0]
def zNs : List Nat := [14, 2, 21, 2, 21, 2, 21, 2, 484, 484, 10, 21, 21, 21, 21, 21, 21, 21, 21, 6, 5, 21, 21, 21, 200, 200, 200, 2, 200, 2, 6, 3, 200, 3, 200, 4, 484, 200, 3, 8, 8, 4, 2, 21, 2, 6, 3, 8, 8, 7, 39, 7, 21, 21, 6, 8, 8, 21, 6, 8, 8, 484, 4200, 4200, 4200, 200, 200, 200, 200, 5, 200, 200, 200, 23]
def zRs : List (List Nat) := [[1, 3, 5, 7, 10, 19, 27, 29, 31, 33, 35, 38, 41, 49], [2, 0], [], [4, 0], [], [6, 0], [], [8, 9], [], [], [11, 12, 13, 14, 0, 15, 16, 17, 18, 0], [], [], [], [], [], [], [], [], [20, 24, 25, 26, 0, 0], [21, 22, 23, 0, 0], [], [], [], [], [], [], [28, 0], [], [30, 0], [], [32, 0, 0], [], [34, 0, 0], [], [36, 37, 0, 0], [], [], [39, 40, 0], [], [], [42, 44, 46, 0], [43, 0], [], [45, 0], [], [47, 48, 0], [], [], [], [51, 52, 53, 54, 55, 56, 57, 58, 59, 60, 0, 0, 0, 0, 0, 0, 0, 0, 61, 62, 63, 64, 65, 66, 67, 68, 0, 0, 0, 0, 0, 0, 69, 70, 0, 71, 72, 0, 73], [], [], [], [], [], [], [], [], [], [], [], [], [], [], [], [], [], [], [], [], [], [], []]
def zTs : List (List Bool) := [[true, true, false], [true, true, true, false], [true, true, true, true, false, false], [true, true, false, false], [true, false], [true, true, true, false, false], [true, false, false], [true, true, true, true, false, true, true, true, true, false], [true, false], [true, true], [true, false], [true, true, true, true, true, true, true, true, true, true, true, true, true, true], [true, true, true, true, true, true, true, true, true, true, false, false, false, false, false, false, false, false, true, true, true, true, true, true, true, true, false, false, false, false, false, false, true, true, false, true, true, false, true]]
def zBs : List (List Bool) := [[false, false, false], [false, false, false, true], [false, false, false, false, false, true], [false, false, false, false], [false, false], [false, false, false, false, false], [false, false, false], [false, false, false, false, false, false, false, false, false, false], [false, false], [false, false], [false, false], [false, false, false, false, false, false, false, false, false, false, false, false, false, false], [false, false, false, false, false, false, false, false, false, false, false, false, false, false, false, false, false, true, false, false, false, false, false, false, false, false, false, false, false, true, true, true, false, false, false, false, false, false, false]]
def zNf : List Nat := [3, 4, 6, 4, 2, 5, 3, 10, 2, 2, 2, 14, 39]
def zk (G : ZG) (a : Nat) : Nat := if G.2.2.2.2.1 ≤ a ∧ a < G.2.2.2.2.2 then zKs.getD a 99 else 99
def zn (a : Nat) : Nat := zNs.getD a 0
def zr (a k : Nat) : Nat := (zRs.getD a []).getD k 0
def zt (ci k : Nat) : Bool := (zTs.getD ci []).getD k false
def zb (ci k : Nat) : Bool := (zBs.getD ci []).getD k false
def za (G : ZG) (a : Nat) : Nat := G.1 a
def zfv (G : ZG) (M : ZM) (ci a j : Nat) : Value := if zt ci j then .ref (za G (zr a j)) else .int (M.1 a j)
def zc (G : ZG) (M : ZM) (a : Nat) : va_E :=
  if zKs.getD a 99 = 0 then .inl (G.2.1 0, (zn a, .inl (M.1 a)))
  else if zKs.getD a 99 = 1 then .inl (G.2.1 1, (zn a, .inr (.inl (M.2 a))))
  else if zKs.getD a 99 = 2 then .inl (G.2.1 2, (zn a, .inl (M.1 a)))
  else .inr (zKs.getD a 99 - 10, (List.range (zn a)).map (zfv G M (zKs.getD a 99 - 10) a))
def zw (G : ZG) (M : ZM) : va_W := (List.range (G.2.2.2.2.2 - G.2.2.2.2.1)).map (fun j => (za G (G.2.2.2.2.1 + j), zc G M (G.2.2.2.2.1 + j)))
theorem zk_in {G : ZG} {a n : Nat} (h : zk G a = n) (hn : n ≠ 99) : G.2.2.2.2.1 ≤ a ∧ a < G.2.2.2.2.2 ∧ zKs.getD a 99 = n := by
  unfold zk at h
  split at h
  · rename_i h1
    exact ⟨h1.1, h1.2, h⟩
  · exact absurd h.symm hn
theorem zw_len (G : ZG) (M : ZM) : (zw G M).length = G.2.2.2.2.2 - G.2.2.2.2.1 := by simp [zw]
theorem zw_get (G : ZG) (M : ZM) (j : Nat) (h : j < G.2.2.2.2.2 - G.2.2.2.2.1) : (zw G M)[j]? = some (za G (G.2.2.2.2.1 + j), zc G M (G.2.2.2.2.1 + j)) := by
  unfold zw
  rw [List.getElem?_map, List.getElem?_range h]
  rfl
theorem zw_at {G : ZG} {M : ZM} {a n : Nat} (h : zk G a = n) (hn : n ≠ 99) : (zw G M)[a - G.2.2.2.2.1]? = some (za G a, zc G M a) := by
  obtain ⟨h1, h2, -⟩ := zk_in h hn
  rw [zw_get G M _ (by omega), show G.2.2.2.2.1 + (a - G.2.2.2.2.1) = a by omega]
theorem zw_set {G : ZG} {M M' : ZM} {a n : Nat} {e : va_E} (h : zk G a = n) (hn : n ≠ 99) (he : zc G M' a = e) (ho : ∀ b, b ≠ a → zc G M' b = zc G M b) : (zw G M).set (a - G.2.2.2.2.1) (za G a, e) = zw G M' := by
  obtain ⟨h1, h2, -⟩ := zk_in h hn
  apply List.ext_getElem?
  intro i
  rw [List.getElem?_set]
  split
  · rename_i hi
    subst hi
    rw [if_pos (by rw [zw_len]; omega), zw_at h hn, he]
  · rename_i hi
    by_cases hl : i < G.2.2.2.2.2 - G.2.2.2.2.1
    · rw [zw_get G M i hl, zw_get G M' i hl, ho _ (by omega)]
    · rw [List.getElem?_eq_none (by rw [zw_len]; omega), List.getElem?_eq_none (by rw [zw_len]; omega)]
theorem zc_I {G : ZG} {M : ZM} {a : Nat} (h : zKs.getD a 99 = 0) : zc G M a = .inl (G.2.1 0, (zn a, .inl (M.1 a))) := by unfold zc; rw [if_pos h]
theorem zc_J {G : ZG} {M : ZM} {a : Nat} (h : zKs.getD a 99 = 1) : zc G M a = .inl (G.2.1 1, (zn a, .inr (.inl (M.2 a)))) := by unfold zc; rw [if_neg (by omega), if_pos h]
theorem zc_Z {G : ZG} {M : ZM} {a : Nat} (h : zKs.getD a 99 = 2) : zc G M a = .inl (G.2.1 2, (zn a, .inl (M.1 a))) := by unfold zc; rw [if_neg (by omega), if_neg (by omega), if_pos h]
theorem zc_O {G : ZG} {M : ZM} {a ci : Nat} (h : zKs.getD a 99 = 10 + ci) : zc G M a = .inr (ci, (List.range (zn a)).map (zfv G M ci a)) := by
  unfold zc
  rw [if_neg (by omega), if_neg (by omega), if_neg (by omega), h, show 10 + ci - 10 = ci by omega]
theorem zn_all : ∀ a, a < 74 → 10 ≤ zKs.getD a 99 → zn a = zNf.getD (zKs.getD a 99 - 10) 0 := by decide +kernel
theorem zKs_out {a : Nat} (h : ¬ a < 74) : zKs.getD a 99 = 99 := by
  have : zKs.length = 74 := by decide +kernel
  rw [List.getD_eq_getElem?_getD, List.getElem?_eq_none (by omega)]
  rfl
theorem zn_O {a ci : Nat} (h : zKs.getD a 99 = 10 + ci) (hc : ci < 13) : zn a = zNf.getD ci 0 := by
  by_cases ha : a < 74
  · rw [zn_all a ha (by omega), h, show 10 + ci - 10 = ci by omega]
  · rw [zKs_out ha] at h
    omega
theorem zc_zi {G : ZG} {M : ZM} {a k : Nat} {v : Int32} {b : Nat} (hb : b ≠ a) : zc G (zi M a k v) b = zc G M b := by
  have e : (zi M a k v).1 b = M.1 b := by funext j; simp [zi, hb]
  have e2 : ∀ ci, zfv G (zi M a k v) ci b = zfv G M ci b := fun ci => by funext j; simp [zfv, e]
  unfold zc
  rw [e]
  simp only [e2]
  rfl
theorem zc_zl {G : ZG} {M : ZM} {a k : Nat} {v : Int64} {b : Nat} (hb : b ≠ a) : zc G (zl M a k v) b = zc G M b := by
  have e : (zl M a k v).2 b = M.2 b := by funext j; simp [zl, hb]
  have e2 : ∀ ci, zfv G (zl M a k v) ci b = zfv G M ci b := fun ci => rfl
  unfold zc
  rw [e]
  rfl
theorem zw_addr (G : ZG) (M M' : ZM) (k : Nat) (q : Nat × va_E) (h : (zw G M)[k]? = some q) : ∃ q', (zw G M')[k]? = some q' ∧ q'.1 = q.1 := by
  have hl : k < G.2.2.2.2.2 - G.2.2.2.2.1 := by rw [← zw_len G M]; exact (List.getElem?_eq_some_iff.mp h).1
  rw [zw_get G M k hl] at h
  cases h
  exact ⟨_, zw_get G M' k hl, rfl⟩
theorem zw_D {G : ZG} {A : Nat → Prop} {M : ZM} (M' : ZM) (h : va_D A (zw G M)) : va_D A (zw G M') := by
  refine ⟨fun i j p q hi hj e => ?_, fun k q hk => ?_⟩
  · obtain ⟨p', g1, e1⟩ := zw_addr G M' M i p hi
    obtain ⟨q', g2, e2⟩ := zw_addr G M' M j q hj
    exact h.1 i j p' q' g1 g2 (by rw [e1, e2, e])
  · obtain ⟨q', g, e⟩ := zw_addr G M' M k q hk
    rw [← e]
    exact h.2 k q' g
def zmk (j : Nat) : Int64 := [2863311530, 3435973836, 4042322160, 4278255360, 4294901760].getD j 0
def zNw (U : State) : Prop := ∀ (own : String) (i : Nat) (y : MethodName) (h : String), Cond.methodLinkNest own i y h ∈ lw_tbl → va_Nw (.methodLinkNest own i y h) U
/-- the static row of the class; the links among nest mates -/
def zSt (G : ZG) (A : Nat → Prop) (U : State) (H : Heap) : Prop := va_Z "MayBeRead" "MARK_CASES" "[J" (.ref G.2.2.2.1) A U H ∧ va_T .long G.2.2.2.1 5 (fun j => .long (zmk j)) A U H ∧ zNw U
def zty (G : ZG) : List (ClassId × FieldType) := [(G.2.1 0, .int), (G.2.1 1, .long), (G.2.1 2, .boolean)]
def zWd (G : ZG) (A : Nat → Prop) (s : State) (H : Heap) (locs : List Loc) (M : ZM) : Prop :=
  va_K G.2.2.1 vwCl (zty G) s ∧ va_P G.2.2.1 vwCl (zw G M) H ∧ va_D A (zw G M) ∧ va_S A s.heap H locs ∧ (∀ q, s.heap.size ≤ q → A q) ∧ zSt G A s s.heap
/-- a field's link: the class's number, the field's place -/
def zFl (own : String) (index ci k : Nat) : Prop := ∃ (C : String) (T : u_T) (N : Nat) (ty : Nat → FieldType), vwCl[ci]? = some (C, T, N) ∧ ci < 13 ∧ N = zNf.getD ci 0 ∧ (∀ w ∈ u_ws C T N, w ∈ WS) ∧ k < N ∧ Cond.fieldLink own index (T k).1 (T k).2.1 (T k).2.2.1 ∈ WS ∧ (∀ k, k < N → parseFieldDescriptor (T k).2.2.1 = some (ty k)) ∧ (∀ a, a < N → ∀ b, b < N → a ≠ b → (T a).2.1 ≠ (T b).2.1) ∧ (zt ci k = false → (T k).2.2.2 = false ∧ ty k = (if zb ci k then .boolean else .int))
def zX (p : Program) (R : Room) (s : State) (m : MethodId) (args : Array Value) (c : Code) (cells slots : Nat) (cc : ByteArray) (nL : Nat) (own : String) : Prop := CallFix p m c cc nL s args WS own ∧ cells ≤ R.cells ∧ slots ≤ R.slots
def zin (i : Int32) (n : Nat) : Bool := decide (¬ (i < 0 ∨ n ≤ i.toNatClampNeg))
theorem zin_in {i : Int32} {n : Nat} (h : zin i n = true) : vp_in i n := of_decide_eq_true (p := ¬ (i < 0 ∨ n ≤ i.toNatClampNeg)) h
/-- how an equation about a program is taken apart -/
def zlet {α β : Type} (a : α) (f : α → β) : β := f a
theorem zlet_ex {α β : Type} {a : α} {f : α → β} {r : β} (h : zlet a f = r) : ∃ y, y = a ∧ f y = r := ⟨a, rfl, h⟩
def zck {α : Type} (b : Bool) (x : Option α) : Option α := if b = true then x else none
theorem zck_ex {α : Type} {b : Bool} {x : Option α} {r : α} (h : zck b x = some r) : b = true ∧ x = some r := by
  unfold zck at h
  split at h
  · rename_i hb; exact ⟨hb, h⟩
  · cases h
def zQ (below : List Frame) (G : ZG) (A : Nat → Prop) (rv : Option Value) (M' : ZM) (args : Array Value) (s : State) : State → Prop := MQ below (fun _ st oc t => (oc = .returned rv ∧ va_P G.2.2.1 vwCl (zw G M') t.heap ∧ va_K G.2.2.1 vwCl (zty G) t) ∧ va_F A st t) args s 0 0 A
abbrev zR (dp : Nat) : Room := { frames := dp, cells := 0, slots := 0, locals := 60 * dp }
/-- THE CONTRACT of every method: it answers rv and makes M into M' -/
def zCt (l : Launch) (y : MethodName) (cc : ByteArray) (nL : Nat) (ret : Option FieldType) (dp : Nat) (G : ZG) (vs : List Value) (M : ZM) (rv : Option Value) (M' : ZM) : Prop :=
  ∀ sz, Met l y (.code y cc nL ret :: WS) (zR dp) (va_Pc vs (fun U => U.heap.size = sz ∧ va_P G.2.2.1 vwCl (zw G M) U.heap ∧ va_K G.2.2.1 vwCl (zty G) U ∧ va_D (fun _ => True) (zw G M) ∧ zSt G (va_A (zw G M) sz) U U.heap))
    (fun _ st oc t => (oc = .returned rv ∧ va_P G.2.2.1 vwCl (zw G M') t.heap ∧ va_K G.2.2.1 vwCl (zty G) t) ∧ va_F (va_A (zw G M) sz) st t) 0 0 (va_A (zw G M) sz)
theorem zCt.mk {l : Launch} {y : MethodName} {cc : ByteArray} {nL : Nat} {ret : Option FieldType} {dp : Nat} {G : ZG} {vs : List Value} {M : ZM} {rv : Option Value} {M' : ZM} (hy : plainName y.cls = true) (hlen : (lg_sl vs).length ≤ nL)
    (body : ∀ (p : Program) (e : Env) (s : State) (m : MethodId) (args : Array Value) (below : List Frame) (meth : Method) (c : Code) (A : Nat → Prop) (H : Heap) (locs : List Loc) (ls : Array Slot), zX p (zR dp) s m args c 0 0 cc nL y.cls → meth.sig.returnType = ret → meth.locks = false → zWd G A s H locs M → lv_has ls nL (lv_args 0 vs) → W p l e (zR dp) s m args below meth c H locs 0 0 (zQ below G A rv M' args s) (F0 m 0 ls [])) : zCt l y cc nL ret dp G vs M rv M' := by
  intro sz
  refine Met.ofW (cc := cc) (maxL := nL) (ret := ret) hy rfl ?_
  intro p e s m args below meth c s₁ B hml hv
  obtain ⟨rfl, hsz, hP, hK, hD0, hT⟩ := hv
  have hts := atoms_spec (ws := .code y cc nL ret :: WS) B.pre
  subst hsz
  have hD := hD0.self (sz := s.heap.size)
  have hl := lv_entry vs (n := nL) hlen
  rw [lg_entry_eq]
  exact body p e s m _ below meth c (va_A (zw G M) s.heap.size) s.heap [] _ ⟨⟨B.exec, B.bytes, hml, findClass_of_methodNamed B.named, fun w h => hts w (List.mem_cons_of_mem _ h)⟩, Nat.zero_le _, Nat.zero_le _⟩ B.returns B.notSynchronized ⟨hK, hP, hD, va_S.rf, fun q h => Or.inr h, hT⟩ hl
/-- a method's own words -/
def zMv (y : MethodName) (bytes : ByteArray) (maxL : Nat) (ret : Option FieldType) (n : Nat) : Prop := Cond.code y bytes maxL ret ∈ WS ∧ Cond.initialized y.cls ∈ WS ∧ Cond.instanceMethod y ∈ WS ∧ Cond.selects y.cls y y ∈ WS ∧ y.cls ≠ "java/lang/invoke/MethodHandle" ∧ y.cls ≠ "java/lang/invoke/VarHandle" ∧ (parseMethodDescriptor y.desc).map (fun d => d.parameters.length) = some n
def zMs (y : MethodName) (bytes : ByteArray) (maxL : Nat) (ret : Option FieldType) (n : Nat) : Prop := Cond.code y bytes maxL ret ∈ WS ∧ Cond.initialized y.cls ∈ WS ∧ Cond.static y ∈ WS ∧ y.cls ≠ "java/lang/invoke/MethodHandle" ∧ y.cls ≠ "java/lang/invoke/VarHandle" ∧ (parseMethodDescriptor y.desc).map (fun d => d.parameters.length) = some n
/-- a call's link, of the class's own or a nest mate's method -/
def zLk (own : String) (index : Nat) (y : MethodName) : Prop := Cond.methodLink own index y ∈ WS ∨ ∃ host, Cond.methodLinkNest own index y host ∈ lw_tbl
theorem zGoodM {y : MethodName} {bytes : ByteArray} {maxL : Nat} {ret : Option FieldType} (h : Cond.code y bytes maxL ret ∈ WS) : GoodIn WS (.code y bytes maxL ret :: WS) := zGood (List.forall_mem_cons.mpr ⟨h, fun _ h => h⟩)
theorem zSt.to {G : ZG} {A B : Nat → Prop} {s U : State} {H : Heap} {locs : List Loc} (h : zSt G A s s.heap) (hS : va_S A s.heap H locs) (hW : s.WarmedH U.vm) (hAB : ∀ q, B q → A q) : zSt G B U H :=
  ⟨((h.1.kept (fun a h1 h2 => hS.2.1 a h1 h2)).moved hW.alike).narrow hAB, ((h.2.1.kept (fun a h1 h2 => hS.2.1 a h1 h2)).moved hW.alike).narrow hAB, fun own i y h' hm => va_Nw.warmM hW (h.2.2 own i y h' hm)⟩
section ZW
variable {p : Program} {l : Launch} {e : Env} {R : Room} {s : State} {m : MethodId} {args : Array Value} {below : List Frame} {meth : Method} {c : Code} {H : Heap} {locs : List Loc} {cells slots : Nat} {Q : State → Prop}
variable {cc : ByteArray} {pc nL : Nat} {ls : Array Slot} {rest st0 : List Value} {own : String} {G : ZG} {A : Nat → Prop} {M M1 : ZM}
theorem zA_of (hw : zWd G A s H locs M) : ∀ q, va_A (zw G M) H.size q → A q := by
  obtain ⟨hK, hP, hD, hS, hA, hT⟩ := hw
  intro q h
  rcases h with ⟨k, e, h⟩ | h
  · exact hD.2 k (q, e) h
  · exact hA q (Nat.le_trans hS.1 h)
theorem z_getI (S : zX p R s m args c cells slots cc nL own) (hw : zWd G A s H locs M) {a ci k index : Nat} (ha : zk G a = 10 + ci) (hf : zFl own index ci k) (ht : zt ci k = false) (hdg : decode cc pc = .ok (.getfield index, 3)) (kk : W p l e R s m args below meth c H locs cells slots Q (F0 m (pc + 3) ls (.int (M.1 a k) :: rest))) : W p l e R s m args below meth c H locs cells slots Q (F0 m pc ls (.ref (za G a) :: rest)) := by
  obtain ⟨⟨hx, hb, hml, hown, hts⟩, -⟩ := S
  obtain ⟨hK, hP, hD, hS, hA, hT⟩ := hw
  obtain ⟨C, T, N, ty, h1, hc, h2, h3, h4, h5, h6, h7, h8⟩ := hf
  obtain ⟨g1, g2, g3⟩ := zk_in ha (by omega)
  have hn := zn_O g3 hc
  refine va_get (D := G.2.2.1) (v := .int (M.1 a k)) hx hb hts h3 hown hK hP (a - G.2.2.2.2.1) (ci := ci) (fs := (List.range (zn a)).map (zfv G M ci a)) ((zw_at ha (by omega)).trans (by rw [zc_O g3])) h1 k h4 (hts _ h5) (fun _ h => h) ?_ hdg kk
  rw [List.getElem?_map, List.getElem?_range (by omega)]
  simp [zfv, ht]
theorem z_getR (S : zX p R s m args c cells slots cc nL own) (hw : zWd G A s H locs M) {a ci k index : Nat} (ha : zk G a = 10 + ci) (hf : zFl own index ci k) (ht : zt ci k = true) (hdg : decode cc pc = .ok (.getfield index, 3)) (kk : W p l e R s m args below meth c H locs cells slots Q (F0 m (pc + 3) ls (.ref (za G (zr a k)) :: rest))) : W p l e R s m args below meth c H locs cells slots Q (F0 m pc ls (.ref (za G a) :: rest)) := by
  obtain ⟨⟨hx, hb, hml, hown, hts⟩, -⟩ := S
  obtain ⟨hK, hP, hD, hS, hA, hT⟩ := hw
  obtain ⟨C, T, N, ty, h1, hc, h2, h3, h4, h5, h6, h7, h8⟩ := hf
  obtain ⟨g1, g2, g3⟩ := zk_in ha (by omega)
  have hn := zn_O g3 hc
  refine va_get (D := G.2.2.1) (v := .ref (za G (zr a k))) hx hb hts h3 hown hK hP (a - G.2.2.2.2.1) (ci := ci) (fs := (List.range (zn a)).map (zfv G M ci a)) ((zw_at ha (by omega)).trans (by rw [zc_O g3])) h1 k h4 (hts _ h5) (fun _ h => h) ?_ hdg kk
  rw [List.getElem?_map, List.getElem?_range (by omega)]
  simp [zfv, ht]
theorem z_putI (S : zX p R s m args c cells slots cc nL own) (hw : zWd G A s H locs M) {a ci k index : Nat} {v : Int32} (hM : M1 = zi M a k v) (ha : zk G a = 10 + ci) (hf : zFl own index ci k) (ht : zt ci k = false) (hv : zb ci k = true → v = 0 ∨ v = 1) (hdg : decode cc pc = .ok (.putfield index, 3)) (kk : ∀ (H1 : Heap) (locs1 : List Loc), zWd G A s H1 locs1 M1 → W p l e R s m args below meth c H1 locs1 cells slots Q (F0 m (pc + 3) ls rest)) : W p l e R s m args below meth c H locs cells slots Q (F0 m pc ls (.int v :: .ref (za G a) :: rest)) := by
  subst hM
  obtain ⟨⟨hx, hb, hml, hown, hts⟩, -⟩ := S
  obtain ⟨hK, hP, hD, hS, hA, hT⟩ := hw
  obtain ⟨C, T, N, ty, h1, hc, h2, h3, h4, h5, h6, h7, h8⟩ := hf
  obtain ⟨g1, g2, g3⟩ := zk_in ha (by omega)
  have hn := zn_O g3 hc
  obtain ⟨h9, h10⟩ := h8 ht
  have hnar : narrow (ty k) (.int v) = .int v ∧ fits (ty k) (.int v) = true := by
    rw [h10]
    cases hz : zb ci k with
    | false => exact ⟨rfl, rfl⟩
    | true =>
      rcases hv hz with rfl | rfl
      · exact ⟨rfl, rfl⟩
      · exact ⟨rfl, rfl⟩
  refine va_put (D := G.2.2.1) (v := .int v) hx hb hts h3 ty h6 h7 hown hK hP hD hS (a - G.2.2.2.2.1) (ci := ci) (fs := (List.range (zn a)).map (zfv G M ci a)) ((zw_at ha (by omega)).trans (by rw [zc_O g3])) h1 k h4 (hts _ h5) (fun _ h => h) h9 (h6 k h4) hnar.1 hnar.2 (by simp; omega) hdg (fun H1 locs1 hP1 hD1 hS1 => ?_)
  have hset : (zw G M).set (a - G.2.2.2.2.1) (za G a, .inr (ci, ((List.range (zn a)).map (zfv G M ci a)).set k (.int v))) = zw G (zi M a k v) := by
    refine zw_set ha (by omega) ?_ (fun b hb => zc_zi hb)
    rw [zc_O g3]
    congr 2
    apply List.ext_getElem?
    intro j
    rw [List.getElem?_set, List.getElem?_map]
    by_cases hj : k = j
    · subst hj
      rw [if_pos rfl, if_pos (by simp; omega), List.getElem?_range (by omega)]
      simp [zfv, ht, zi]
    · rw [if_neg hj, List.getElem?_map]
      by_cases hl : j < zn a
      · rw [List.getElem?_range hl]
        have hj2 : ¬ (j = k) := fun h => hj h.symm
        simp [zfv, zi, hj2]
      · rw [List.getElem?_eq_none (by simp; omega)]
        rfl
  rw [hset] at hP1 hD1
  exact kk H1 locs1 ⟨hK, hP1, hD1, hS1, hA, hT⟩
theorem z_alen (S : zX p R s m args c cells slots cc nL own) (hw : zWd G A s H locs M) {a t : Nat} (ha : zk G a = t) (ht : t < 3) (hdg : decode cc pc = .ok (.arraylength, 1)) (kk : W p l e R s m args below meth c H locs cells slots Q (F0 m (pc + 1) ls (.int (Int32.ofNat (zn a)) :: rest))) : W p l e R s m args below meth c H locs cells slots Q (F0 m pc ls (.ref (za G a) :: rest)) := by
  obtain ⟨⟨hx, hb, hml, hown, hts⟩, -⟩ := S
  obtain ⟨hK, hP, hD, hS, hA, hT⟩ := hw
  obtain ⟨g1, g2, g3⟩ := zk_in ha (by omega)
  rcases (show t = 0 ∨ t = 1 ∨ t = 2 by omega) with rfl | rfl | rfl
  · exact va_alen hx hb hK hP (a - G.2.2.2.2.1) 0 ((zw_at ha (by omega)).trans (by rw [zc_I g3])) (ty := .int) rfl rfl hdg kk
  · exact va_alen hx hb hK hP (a - G.2.2.2.2.1) 1 ((zw_at ha (by omega)).trans (by rw [zc_J g3])) (ty := .long) rfl rfl hdg kk
  · exact va_alen hx hb hK hP (a - G.2.2.2.2.1) 2 ((zw_at ha (by omega)).trans (by rw [zc_Z g3])) (ty := .boolean) rfl rfl hdg kk
theorem z_iald (S : zX p R s m args c cells slots cc nL own) (hw : zWd G A s H locs M) {a : Nat} {i : Int32} (ha : zk G a = 0) (hi : zin i (zn a) = true) (hdg : decode cc pc = .ok (.iaload, 1)) (kk : W p l e R s m args below meth c H locs cells slots Q (F0 m (pc + 1) ls (.int (M.1 a i.toNatClampNeg) :: rest))) : W p l e R s m args below meth c H locs cells slots Q (F0 m pc ls (.int i :: .ref (za G a) :: rest)) := by
  obtain ⟨⟨hx, hb, hml, hown, hts⟩, -⟩ := S
  obtain ⟨hK, hP, hD, hS, hA, hT⟩ := hw
  exact va_iald hx hb hK hP (a - G.2.2.2.2.1) 0 ((zw_at ha (by omega)).trans (by rw [zc_I (zk_in ha (by omega)).2.2])) rfl (zin_in hi) hdg kk
theorem z_zald (S : zX p R s m args c cells slots cc nL own) (hw : zWd G A s H locs M) {a : Nat} {i : Int32} (ha : zk G a = 2) (hi : zin i (zn a) = true) (hdg : decode cc pc = .ok (.baload, 1)) (kk : W p l e R s m args below meth c H locs cells slots Q (F0 m (pc + 1) ls (.int (M.1 a i.toNatClampNeg) :: rest))) : W p l e R s m args below meth c H locs cells slots Q (F0 m pc ls (.int i :: .ref (za G a) :: rest)) := by
  obtain ⟨⟨hx, hb, hml, hown, hts⟩, -⟩ := S
  obtain ⟨hK, hP, hD, hS, hA, hT⟩ := hw
  exact va_zald hx hb hK hP (a - G.2.2.2.2.1) 2 ((zw_at ha (by omega)).trans (by rw [zc_Z (zk_in ha (by omega)).2.2])) rfl (zin_in hi) hdg kk
theorem z_lald (S : zX p R s m args c cells slots cc nL own) (hw : zWd G A s H locs M) {a : Nat} {i : Int32} (ha : zk G a = 1) (hi : zin i (zn a) = true) (hdg : decode cc pc = .ok (.laload, 1)) (kk : W p l e R s m args below meth c H locs cells slots Q (F0 m (pc + 1) ls (.long (M.2 a i.toNatClampNeg) :: rest))) : W p l e R s m args below meth c H locs cells slots Q (F0 m pc ls (.int i :: .ref (za G a) :: rest)) := by
  obtain ⟨⟨hx, hb, hml, hown, hts⟩, -⟩ := S
  obtain ⟨hK, hP, hD, hS, hA, hT⟩ := hw
  exact va_lald hx hb hK hP (a - G.2.2.2.2.1) 1 ((zw_at ha (by omega)).trans (by rw [zc_J (zk_in ha (by omega)).2.2])) rfl (zin_in hi) hdg kk
theorem z_iast (S : zX p R s m args c cells slots cc nL own) (hw : zWd G A s H locs M) {a : Nat} {i v : Int32} (hM : M1 = zi M a i.toNatClampNeg v) (ha : zk G a = 0) (hi : zin i (zn a) = true) (hdg : decode cc pc = .ok (.iastore, 1)) (kk : ∀ (H1 : Heap) (locs1 : List Loc), zWd G A s H1 locs1 M1 → W p l e R s m args below meth c H1 locs1 cells slots Q (F0 m (pc + 1) ls rest)) : W p l e R s m args below meth c H locs cells slots Q (F0 m pc ls (.int v :: .int i :: .ref (za G a) :: rest)) := by
  subst hM
  obtain ⟨⟨hx, hb, hml, hown, hts⟩, -⟩ := S
  obtain ⟨hK, hP, hD, hS, hA, hT⟩ := hw
  have g3 := (zk_in ha (by omega)).2.2
  refine va_iast hx hb hK hP hD hS (a - G.2.2.2.2.1) 0 ((zw_at ha (by omega)).trans (by rw [zc_I g3])) rfl (zin_in hi) hdg (fun H1 locs1 hP1 hD1 hS1 => ?_)
  have hset : (zw G M).set (a - G.2.2.2.2.1) (za G a, .inl (G.2.1 0, zn a, .inl (upd (M.1 a) i.toNatClampNeg v))) = zw G (zi M a i.toNatClampNeg v) := by
    refine zw_set ha (by omega) ?_ (fun b hb => zc_zi hb)
    rw [zc_I g3]
    congr 4
    funext j
    simp [zi, upd]
  rw [hset] at hP1 hD1
  exact kk H1 locs1 ⟨hK, hP1, hD1, hS1, hA, hT⟩
theorem z_zast (S : zX p R s m args c cells slots cc nL own) (hw : zWd G A s H locs M) {a : Nat} {i v : Int32} (hM : M1 = zi M a i.toNatClampNeg v) (ha : zk G a = 2) (hi : zin i (zn a) = true) (hv : v = 0 ∨ v = 1) (hdg : decode cc pc = .ok (.bastore, 1)) (kk : ∀ (H1 : Heap) (locs1 : List Loc), zWd G A s H1 locs1 M1 → W p l e R s m args below meth c H1 locs1 cells slots Q (F0 m (pc + 1) ls rest)) : W p l e R s m args below meth c H locs cells slots Q (F0 m pc ls (.int v :: .int i :: .ref (za G a) :: rest)) := by
  subst hM
  obtain ⟨⟨hx, hb, hml, hown, hts⟩, -⟩ := S
  obtain ⟨hK, hP, hD, hS, hA, hT⟩ := hw
  have g3 := (zk_in ha (by omega)).2.2
  have hnv : vp_nar .boolean v = v := by rcases hv with rfl | rfl <;> decide +kernel
  refine va_zast hx hb hK hP hD hS (a - G.2.2.2.2.1) 2 ((zw_at ha (by omega)).trans (by rw [zc_Z g3])) rfl (zin_in hi) hdg (fun H1 locs1 hP1 hD1 hS1 => ?_)
  rw [hnv] at hP1 hD1
  have hset : (zw G M).set (a - G.2.2.2.2.1) (za G a, .inl (G.2.1 2, zn a, .inl (upd (M.1 a) i.toNatClampNeg v))) = zw G (zi M a i.toNatClampNeg v) := by
    refine zw_set ha (by omega) ?_ (fun b hb => zc_zi hb)
    rw [zc_Z g3]
    congr 4
    funext j
    simp [zi, upd]
  rw [hset] at hP1 hD1
  exact kk H1 locs1 ⟨hK, hP1, hD1, hS1, hA, hT⟩
theorem z_last (S : zX p R s m args c cells slots cc nL own) (hw : zWd G A s H locs M) {a : Nat} {i : Int32} {v : Int64} (hM : M1 = zl M a i.toNatClampNeg v) (ha : zk G a = 1) (hi : zin i (zn a) = true) (hdg : decode cc pc = .ok (.lastore, 1)) (kk : ∀ (H1 : Heap) (locs1 : List Loc), zWd G A s H1 locs1 M1 → W p l e R s m args below meth c H1 locs1 cells slots Q (F0 m (pc + 1) ls rest)) : W p l e R s m args below meth c H locs cells slots Q (F0 m pc ls (.long v :: .int i :: .ref (za G a) :: rest)) := by
  subst hM
  obtain ⟨⟨hx, hb, hml, hown, hts⟩, -⟩ := S
  obtain ⟨hK, hP, hD, hS, hA, hT⟩ := hw
  have g3 := (zk_in ha (by omega)).2.2
  refine va_last hx hb hK hP hD hS (a - G.2.2.2.2.1) 1 ((zw_at ha (by omega)).trans (by rw [zc_J g3])) rfl (zin_in hi) hdg (fun H1 locs1 hP1 hD1 hS1 => ?_)
  have hset : (zw G M).set (a - G.2.2.2.2.1) (za G a, .inl (G.2.1 1, zn a, .inr (.inl (vp_updL (M.2 a) i.toNatClampNeg v)))) = zw G (zl M a i.toNatClampNeg v) := by
    refine zw_set ha (by omega) ?_ (fun b hb => zc_zl hb)
    rw [zc_J g3]
    congr 5
    funext j
    simp [zl, vp_updL]
  rw [hset] at hP1 hD1
  exact kk H1 locs1 ⟨hK, hP1, hD1, hS1, hA, hT⟩
theorem z_marks (S : zX p R s m args c cells slots cc nL own) (hw : zWd G A s H locs M) {index : Nat} (hl : Cond.fieldLink own index "MayBeRead" "MARK_CASES" "[J" ∈ WS) (hdg : decode cc pc = .ok (.getstatic index, 3)) (kk : W p l e R s m args below meth c H locs cells slots Q (F0 m (pc + 3) ls (.ref G.2.2.2.1 :: rest))) : W p l e R s m args below meth c H locs cells slots Q (F0 m pc ls rest) := by
  obtain ⟨⟨hx, hb, hml, hown, hts⟩, -⟩ := S
  obtain ⟨hK, hP, hD, hS, hA, hT⟩ := hw
  exact va_gets hx hb hT.1 hS hown (hts _ hl) (fun _ h => h) hdg kk
theorem z_markslen (S : zX p R s m args c cells slots cc nL own) (hw : zWd G A s H locs M) (hdg : decode cc pc = .ok (.arraylength, 1)) (kk : W p l e R s m args below meth c H locs cells slots Q (F0 m (pc + 1) ls (.int 5 :: rest))) : W p l e R s m args below meth c H locs cells slots Q (F0 m pc ls (.ref G.2.2.2.1 :: rest)) := by
  obtain ⟨⟨hx, hb, hml, hown, hts⟩, -⟩ := S
  obtain ⟨hK, hP, hD, hS, hA, hT⟩ := hw
  exact va_tlen hx hb hT.2.1 hS rfl hdg kk
theorem z_marksld (S : zX p R s m args c cells slots cc nL own) (hw : zWd G A s H locs M) {i : Int32} (hi : zin i 5 = true) (hdg : decode cc pc = .ok (.laload, 1)) (kk : W p l e R s m args below meth c H locs cells slots Q (F0 m (pc + 1) ls (.long (zmk i.toNatClampNeg) :: rest))) : W p l e R s m args below meth c H locs cells slots Q (F0 m pc ls (.int i :: .ref G.2.2.2.1 :: rest)) := by
  obtain ⟨⟨hx, hb, hml, hown, hts⟩, -⟩ := S
  obtain ⟨hK, hP, hD, hS, hA, hT⟩ := hw
  exact va_tl hx hb hT.2.1 hS (zin_in hi) rfl hdg kk
theorem z_ret_i {v : Int32} (S : zX p R s m args c 0 0 cc nL own) (hr : meth.sig.returnType = some .int) (hlk : meth.locks = false) (hw : zWd G A s H locs M) (hdg : decode cc pc = .ok (.ireturn, 1)) : W p l e R s m args below meth c H locs 0 0 (zQ below G A (some (.int v)) M args s) (F0 m pc ls [.int v]) := by
  obtain ⟨⟨hx, hb, hml, hown, hts⟩, -⟩ := S
  obtain ⟨hK, hP, hD, hS, hA, hT⟩ := hw
  exact W.iret (v := v) hx hb hr (fun t ht hW => ⟨⟨rfl, by rw [ht]; exact hP, va_K.moved hW.alike hK⟩, hS.F ht⟩) hS.2.2 hdg hlk
theorem z_ret_z {v : Int32} (S : zX p R s m args c 0 0 cc nL own) (hr : meth.sig.returnType = some .boolean) (hlk : meth.locks = false) (hv : v = 0 ∨ v = 1) (hw : zWd G A s H locs M) (hdg : decode cc pc = .ok (.ireturn, 1)) : W p l e R s m args below meth c H locs 0 0 (zQ below G A (some (.int v)) M args s) (F0 m pc ls [.int v]) := by
  obtain ⟨⟨hx, hb, hml, hown, hts⟩, -⟩ := S
  obtain ⟨hK, hP, hD, hS, hA, hT⟩ := hw
  exact W.zret (v := v) hx hb hr (by rcases hv with rfl | rfl <;> rfl) (fun t ht hW => ⟨⟨rfl, by rw [ht]; exact hP, va_K.moved hW.alike hK⟩, hS.F ht⟩) hS.2.2 hdg hlk
theorem z_ret_l {v : Int64} (S : zX p R s m args c 0 0 cc nL own) (hr : meth.sig.returnType = some .long) (hlk : meth.locks = false) (hw : zWd G A s H locs M) (hdg : decode cc pc = .ok (.lreturn, 1)) : W p l e R s m args below meth c H locs 0 0 (zQ below G A (some (.long v)) M args s) (F0 m pc ls [.long v]) := by
  obtain ⟨⟨hx, hb, hml, hown, hts⟩, -⟩ := S
  obtain ⟨hK, hP, hD, hS, hA, hT⟩ := hw
  exact W.lret (v := v) hx hb hr (fun t ht hW => ⟨⟨rfl, by rw [ht]; exact hP, va_K.moved hW.alike hK⟩, hS.F ht⟩) hS.2.2 hdg hlk
theorem z_ret_v (S : zX p R s m args c 0 0 cc nL own) (hr : meth.sig.returnType = none) (hlk : meth.locks = false) (hw : zWd G A s H locs M) (hdg : decode cc pc = .ok (.return_, 1)) : W p l e R s m args below meth c H locs 0 0 (zQ below G A none M args s) (F0 m pc ls []) := by
  obtain ⟨⟨hx, hb, hml, hown, hts⟩, -⟩ := S
  obtain ⟨hK, hP, hD, hS, hA, hT⟩ := hw
  exact W.vret hx hb hr (fun t ht hW => ⟨⟨rfl, by rw [ht]; exact hP, va_K.moved hW.alike hK⟩, hS.F ht⟩) hS.2.2 hdg hlk
theorem z_ret_r {a : Nat} {C : String} (S : zX p R s m args c 0 0 cc nL own) (hr : meth.sig.returnType = some (.object C)) (hlk : meth.locks = false) (hw : zWd G A s H locs M) (hdg : decode cc pc = .ok (.areturn, 1)) : W p l e R s m args below meth c H locs 0 0 (zQ below G A (some (.ref (za G a))) M args s) (F0 m pc ls [.ref (za G a)]) := by
  obtain ⟨⟨hx, hb, hml, hown, hts⟩, -⟩ := S
  obtain ⟨hK, hP, hD, hS, hA, hT⟩ := hw
  exact W.aret hx hb hr (Or.inl ⟨C, rfl⟩) (Or.inr ⟨_, rfl⟩) (fun t ht hW => ⟨⟨rfl, by rw [ht]; exact hP, va_K.moved hW.alike hK⟩, hS.F ht⟩) hS.2.2 hdg hlk
theorem z_back {rv : Option Value} {A1 : Nat → Prop} {index : Nat} (hr : va_Run p l e R s m args below meth c H locs cells slots 0 0 (F0 m pc ls st0) rest (fun st oc t => (oc = .returned rv ∧ va_P G.2.2.1 vwCl (zw G M1) t.heap ∧ va_K G.2.2.1 vwCl (zty G) t) ∧ va_F A1 st t) A1) (hw : zWd G A s H locs M) (hA1 : ∀ q, A1 q → A q)
    (kk : ∀ (H1 : Heap) (locs1 : List Loc), zWd G A s H1 locs1 M1 → W p l e R s m args below meth c H1 locs1 cells slots Q (F0 m (pc + 3) ls (rv.toList ++ rest))) : W p l e R s m args below meth c H locs cells slots Q (F0 m pc ls st0) := by
  obtain ⟨hK, hP, hD, hS, hA, hT⟩ := hw
  intro T hT2 X
  obtain ⟨v, st₀, t, T', L, h0, X', hL, e1, e2, ⟨⟨hv, hp, hk0⟩, hz, hk⟩, st⟩ := hr T hT2 X
  cases hv
  rw [h0] at hz hk
  have hal : s.vm.Alike t.vm := by rw [← e2]; exact X'.warmed.alike
  obtain ⟨t2, a1, b1⟩ := kk T'.heap (locs ++ L) ⟨hK, by rw [e1]; exact hp, zw_D M1 hD, ⟨Nat.le_trans hS.1 (by rw [e1]; exact hz), fun q h1 h2 => by rw [e1, hk q (Nat.lt_of_lt_of_le h1 hS.1) (fun z => h2 (hA1 q z))]; exact hS.2.1 q h1 h2, fun q hq => by
      rcases List.mem_append.mp hq with h | h
      · exact hS.2.2 q h
      · exact hA1 _ (hL q h)⟩, hA, hT⟩ T' rfl X'
  exact ⟨t2, st t2 a1, b1⟩
theorem zPre (hw : zWd G A s H locs M) {vs : List Value} : FrameBlind (va_Pc vs (fun U => U.heap.size = H.size ∧ va_P G.2.2.1 vwCl (zw G M) U.heap ∧ va_K G.2.2.1 vwCl (zty G) U ∧ va_D (fun _ => True) (zw G M) ∧ zSt G (va_A (zw G M) H.size) U U.heap)) ∧ ∀ U : State, U.heap = H → s.WarmedH U.vm → va_Pc vs (fun U => U.heap.size = H.size ∧ va_P G.2.2.1 vwCl (zw G M) U.heap ∧ va_K G.2.2.1 vwCl (zty G) U ∧ va_D (fun _ => True) (zw G M) ∧ zSt G (va_A (zw G M) H.size) U U.heap) vs.toArray U := by
  have hAq := zA_of hw
  obtain ⟨hK, hP, hD, hS, hA, hT⟩ := hw
  refine ⟨fun a U g mk q => ?_, fun U hU hW => ⟨rfl, by rw [hU], by rw [hU]; exact hP, va_K.moved hW.alike hK, hD.weaken (fun _ _ _ _ => trivial), by rw [hU]; exact hT.to hS hW hAq⟩⟩
  obtain ⟨q0, q1, q2, q3, q4, q5⟩ := q
  exact ⟨q0, q1, q2, va_K.moved (u := U) (U := U.calling g mk a) (Vm.Alike.refl U.vm) q3, q4, ⟨q5.1.moved (u := U) (U := U.calling g mk a) (Vm.Alike.refl U.vm), q5.2.1.moved (u := U) (U := U.calling g mk a) (Vm.Alike.refl U.vm), fun own i y h' hm => va_Nw.same (u := U) (U := U.calling g mk a) rfl rfl (q5.2.2 own i y h' hm)⟩⟩
theorem z_callV {y : MethodName} {bytes : ByteArray} {maxL dq n b ci index : Nat} {ret : Option FieldType} {As : List Value} {rv : Option Value} (S : zX p R s m args c cells slots cc nL own) (hw : zWd G A s H locs M) (hC : zCt l y bytes maxL ret dq G (.ref (za G b) :: As) M rv M1) (hmv : zMv y bytes maxL ret n) (hlk : zLk own index y) (hb : zk G b = 10 + ci) (hci : ∃ T N, vwCl[ci]? = some (y.cls, T, N)) (hc13 : ci < 13) (hn : As.length = n) (hst : st0 = As.reverse ++ .ref (za G b) :: rest) (hcat : (rest.map fun v => v.category).sum ≤ 8) (hR : dq + 1 ≤ R.frames ∧ 8 + (maxL + 11) + 60 * dq ≤ R.locals) (hsz : ls.size = nL) (hdg : decode cc pc = .ok (.invokevirtual index, 3))
    (kk : ∀ (H1 : Heap) (locs1 : List Loc), zWd G A s H1 locs1 M1 → W p l e R s m args below meth c H1 locs1 cells slots Q (F0 m (pc + 3) ls (rv.toList ++ rest))) : W p l e R s m args below meth c H locs cells slots Q (F0 m pc ls st0) := by
  obtain ⟨hcode, hini, hins, hsel, hd1, hd2, hd3⟩ := hmv
  obtain ⟨T, N, hci⟩ := hci
  obtain ⟨S1, S2, S3⟩ := S
  have hts := S1.2.2.2.2
  have g3 := (zk_in hb (by omega)).2.2
  have hrecv : ∃ cellB : Cell, H[za G b]? = some cellB ∧ cellB.vm.isStatics = false ∧ s.vm.findClass y.cls = some cellB.cls := va_recv hw.1 hw.2.1 hci ((zw_at hb (by omega)).trans (by rw [zc_O g3]))
  rcases hlk with hlk | ⟨host, hlk⟩
  · refine z_back (index := index) (va_runV S1 (hC H.size) (cwV n hts (zGood ?_) rfl rfl rfl ⟨rfl, hd1, hd2, hd3⟩ ⟨hR.1, hR.2⟩) ⟨(zPre hw).1, hrecv, (zPre hw).2⟩ rfl hn hsz hst (lv_room hcat) hdg ⟨S2, S3⟩) hw (zA_of hw) kk
    exact List.forall_mem_cons.mpr ⟨hlk, List.forall_mem_cons.mpr ⟨hins, List.forall_mem_cons.mpr ⟨hsel, List.forall_mem_cons.mpr ⟨hini, List.forall_mem_cons.mpr ⟨hcode, fun _ h => h⟩⟩⟩⟩⟩
  · exact z_back (index := index) (va_runVN S1 (hC H.size) ⟨va_cnB n hts (zGoodM hcode) rfl rfl rfl (hw.2.2.2.2.2.2.2 _ _ _ _ hlk) (hts _ hini) ⟨hd1, hd2, hd3⟩ ⟨hR.1, hR.2⟩, hts _ hins, hts _ hsel⟩ ⟨(zPre hw).1, hrecv, (zPre hw).2⟩ rfl hn hsz hst (lv_room hcat) hdg ⟨S2, S3⟩) hw (zA_of hw) kk
theorem z_callS {y : MethodName} {bytes : ByteArray} {maxL dq n index : Nat} {ret : Option FieldType} {As : List Value} {rv : Option Value} (S : zX p R s m args c cells slots cc nL own) (hw : zWd G A s H locs M) (hC : zCt l y bytes maxL ret dq G As M rv M1) (hmv : zMs y bytes maxL ret n) (hlk : zLk own index y) (hn : As.length = n) (hst : st0 = As.reverse ++ rest) (hcat : (rest.map fun v => v.category).sum ≤ 8) (hR : dq + 1 ≤ R.frames ∧ 8 + (maxL + 11) + 60 * dq ≤ R.locals) (hsz : ls.size = nL) (hdg : decode cc pc = .ok (.invokestatic index, 3))
    (kk : ∀ (H1 : Heap) (locs1 : List Loc), zWd G A s H1 locs1 M1 → W p l e R s m args below meth c H1 locs1 cells slots Q (F0 m (pc + 3) ls (rv.toList ++ rest))) : W p l e R s m args below meth c H locs cells slots Q (F0 m pc ls st0) := by
  obtain ⟨hcode, hini, hsta, hd1, hd2, hd3⟩ := hmv
  obtain ⟨S1, S2, S3⟩ := S
  have hts := S1.2.2.2.2
  rcases hlk with hlk | ⟨host, hlk⟩
  · refine z_back (index := index) (va_runS S1 (hC H.size) (va_cwS n hts (zGood ?_) rfl rfl rfl ⟨hd1, hd2, hd3⟩ ⟨hR.1, hR.2⟩) ⟨(zPre hw).1, (zPre hw).2⟩ rfl hn hsz hst (lv_room hcat) hdg ⟨S2, S3⟩) hw (zA_of hw) kk
    exact List.forall_mem_cons.mpr ⟨hlk, List.forall_mem_cons.mpr ⟨hsta, List.forall_mem_cons.mpr ⟨hini, List.forall_mem_cons.mpr ⟨hcode, fun _ h => h⟩⟩⟩⟩
  · exact z_back (index := index) (va_runSN S1 (hC H.size) ⟨va_cnB n hts (zGoodM hcode) rfl rfl rfl (hw.2.2.2.2.2.2.2 _ _ _ _ hlk) (hts _ hini) ⟨hd1, hd2, hd3⟩ ⟨hR.1, hR.2⟩, hts _ hsta, trivial⟩ ⟨(zPre hw).1, (zPre hw).2⟩ rfl hn hsz hst (lv_room hcat) hdg ⟨S2, S3⟩) hw (zA_of hw) kk
theorem lv_topiE {x y : Int32} (h : y = x) (k : W p l e R s m args below meth c H locs cells slots Q (F0 m pc ls (.int y :: rest))) : W p l e R s m args below meth c H locs cells slots Q (F0 m pc ls (.int x :: rest)) := h ▸ k
theorem lv_toplE {x y : Int64} (h : y = x) (k : W p l e R s m args below meth c H locs cells slots Q (F0 m pc ls (.long y :: rest))) : W p l e R s m args below meth c H locs cells slots Q (F0 m pc ls (.long x :: rest)) := h ▸ k
end ZW
end
section
def zOk (G : ZG) : Prop := G.2.2.2.2 = (0, 50) ∨ G.2.2.2.2 = (50, 74) ∨ G.2.2.2.2 = (0, 74)
def zkk (lo hi a : Nat) : Nat := if lo ≤ a ∧ a < hi then zKs.getD a 99 else 99
theorem zkr_of {G : ZG} {K k K' : Nat} (hd : ∀ q ∈ [(0, 50), (50, 74), (0, 74)], ∀ a, a < 74 → zkk q.1 q.2 a = K → zkk q.1 q.2 (zr a k) = K') (hG : zOk G) {a : Nat} (hK : K ≠ 99) (h : zk G a = K) : zk G (zr a k) = K' := by
  obtain ⟨h1, h2, h3⟩ := zk_in h hK
  have ha : a < 74 := by
    by_cases ha : a < 74
    · exact ha
    · exact absurd ((zKs_out ha).symm.trans h3).symm hK
  have key : ∀ q : Nat × Nat, q ∈ [(0, 50), (50, 74), (0, 74)] → G.2.2.2.2 = q → zk G (zr a k) = K' := by
    intro q hq hg
    have h' : zkk q.1 q.2 a = K := by rw [← hg]; exact h
    have h4 := hd q hq a ha h'
    rw [← hg] at h4
    exact h4
  rcases hG with hg | hg | hg
  · exact key _ (by decide) hg
  · exact key _ (by decide) hg
  · exact key _ (by decide) hg
def zN : Nat := 100000
def zmax (x y : Int32) : Int32 := if x < y then y else x
def zabs (x : Int32) : Int32 := if 0 ≤ x then x else 0 - x
def zbo (v : Int32) : Bool := decide (v = 0 ∨ v = 1)
theorem zbo_of {v : Int32} (h : zbo v = true) : v = 0 ∨ v = 1 := of_decide_eq_true h
def znz (v : Int64) : Bool := decide (¬ v = 0)
theorem znz_of {v : Int64} (h : znz v = true) : ¬ v = 0 := of_decide_eq_true h
theorem zif_t {α : Type} {c : Prop} [Decidable c] {a b r : α} (h : (if c then a else b) = r) (hc : c) : a = r := by rw [if_pos hc] at h; exact h
theorem zif_f {α : Type} {c : Prop} [Decidable c] {a b r : α} (h : (if c then a else b) = r) (hc : ¬ c) : b = r := by rw [if_neg hc] at h; exact h
theorem zne {x k : Int32} {z : Int} (h : ¬ x = k) (hk : k.toInt = z) : x.toInt ≠ z := fun e => h (Int32.toInt_inj.mp (e.trans hk.symm))
section ZE
variable {p : Program} {l : Launch} {e : Env} {R : Room} {s : State} {m : MethodId} {args : Array Value} {below : List Frame} {meth : Method} {c : Code} {H : Heap} {locs : List Loc} {cells slots : Nat} {Q : State → Prop}
variable {cc : ByteArray} {pc nL : Nat} {ls : Array Slot} {rest st0 : List Value} {own : String}
theorem z_tab (S : zX p R s m args c cells slots cc nL own) {dflt lo hi : Int} {offs : Array Int} {len : Nat} {x k : Int32} {off : Int} {tgt : Nat} (hk : x = k) (h1 : ¬ k.toInt < lo) (h2 : ¬ hi < k.toInt) (hdg : decode cc pc = .ok (.tableswitch dflt lo hi offs, len)) (ho : offs[(k.toInt - lo).toNat]? = some off) (ht : (pc : Int) + off = (tgt : Int)) (kk : W p l e R s m args below meth c H locs cells slots Q (F0 m tgt ls rest)) : W p l e R s m args below meth c H locs cells slots Q (F0 m pc ls (.int x :: rest)) := by
  subst hk
  exact lv_tableIn S.1.1 S.1.2.1 hdg h1 h2 ho ht kk
theorem z_tabD (S : zX p R s m args c cells slots cc nL own) {dflt lo hi : Int} {offs : Array Int} {len : Nat} {x : Int32} {tgt : Nat} (h : x.toInt < lo ∨ hi < x.toInt) (hdg : decode cc pc = .ok (.tableswitch dflt lo hi offs, len)) (ht : (pc : Int) + dflt = (tgt : Int)) (kk : W p l e R s m args below meth c H locs cells slots Q (F0 m tgt ls rest)) : W p l e R s m args below meth c H locs cells slots Q (F0 m pc ls (.int x :: rest)) := lv_tableOut S.1.1 S.1.2.1 hdg h ht kk
theorem z_look (S : zX p R s m args c cells slots cc nL own) {dflt : Int} {ps : Array (Int × Int)} {len : Nat} {x : Int32} {off : Int} {tgt : Nat} (ho : Op.lookupswitch.offset ps.toList dflt x.toInt = off) (hdg : decode cc pc = .ok (.lookupswitch dflt ps, len)) (hp : (ps.toList.zip (ps.toList.drop 1)).all (fun (a, next) => a.1 < next.1) = true) (ht : (pc : Int) + off = (tgt : Int)) (kk : W p l e R s m args below meth c H locs cells slots Q (F0 m tgt ls rest)) : W p l e R s m args below meth c H locs cells slots Q (F0 m pc ls (.int x :: rest)) := lv_lookup S.1.1 S.1.2.1 hdg hp ho ht kk
theorem z_maxI (S : zX p R s m args c cells slots cc nL own) {index : Nat} {x y : Int32} (hl : Cond.methodLink own index Lib.Math.max.name ∈ WS) (hsz : ls.size = nL) (hR : 1 ≤ R.frames ∧ (rest.map fun v => v.category).sum + 13 ≤ R.locals) (hdg : decode cc pc = .ok (.invokestatic index, 3)) (kk : W p l e R s m args below meth c H locs cells slots Q (F0 m (pc + 3) ls (.int (zmax x y) :: rest))) : W p l e R s m args below meth c H locs cells slots Q (F0 m pc ls (.int y :: .int x :: rest)) := by
  obtain ⟨⟨hx, hb, hml, hown, hts⟩, S2, S3⟩ := S
  exact va_mmax hx hb (hml.trans hsz.symm) hown (hts _ hl) (hts _ (zIn 753 (by decide +kernel) (by decide +kernel))) (hts _ (zIn 14 (by decide +kernel) (by decide +kernel))) (hts _ (zIn 754 (by decide +kernel) (by decide +kernel))) hR.1 hR.2 S2 S3 hdg kk
theorem z_absI (S : zX p R s m args c cells slots cc nL own) {index : Nat} {x : Int32} (hl : Cond.methodLink own index Lib.Math.abs.name ∈ WS) (hsz : ls.size = nL) (hR : 1 ≤ R.frames ∧ (rest.map fun v => v.category).sum + 13 ≤ R.locals) (hdg : decode cc pc = .ok (.invokestatic index, 3)) (kk : W p l e R s m args below meth c H locs cells slots Q (F0 m (pc + 3) ls (.int (zabs x) :: rest))) : W p l e R s m args below meth c H locs cells slots Q (F0 m pc ls (.int x :: rest)) := by
  obtain ⟨⟨hx, hb, hml, hown, hts⟩, S2, S3⟩ := S
  exact va_mabs hx hb (hml.trans hsz.symm) hown (hts _ hl) (hts _ (zIn 721 (by decide +kernel) (by decide +kernel))) (hts _ (zIn 14 (by decide +kernel) (by decide +kernel))) (hts _ (zIn 722 (by decide +kernel) (by decide +kernel))) hR.1 hR.2 S2 S3 hdg kk
end ZE
theorem kr_0_0 {G : ZG} (hG : zOk G) {a : Nat} (h : zk G a = 10) : zk G (zr a 0) = 0 := zkr_of (by decide +kernel) hG (by decide) h
theorem kr_0_1 {G : ZG} (hG : zOk G) {a : Nat} (h : zk G a = 10) : zk G (zr a 1) = 0 := zkr_of (by decide +kernel) hG (by decide) h
theorem kr_1_0 {G : ZG} (hG : zOk G) {a : Nat} (h : zk G a = 11) : zk G (zr a 0) = 20 := zkr_of (by decide +kernel) hG (by decide) h
theorem kr_1_1 {G : ZG} (hG : zOk G) {a : Nat} (h : zk G a = 11) : zk G (zr a 1) = 14 := zkr_of (by decide +kernel) hG (by decide) h
theorem kr_1_2 {G : ZG} (hG : zOk G) {a : Nat} (h : zk G a = 11) : zk G (zr a 2) = 10 := zkr_of (by decide +kernel) hG (by decide) h
theorem kr_2_0 {G : ZG} (hG : zOk G) {a : Nat} (h : zk G a = 12) : zk G (zr a 0) = 15 := zkr_of (by decide +kernel) hG (by decide) h
theorem kr_2_1 {G : ZG} (hG : zOk G) {a : Nat} (h : zk G a = 12) : zk G (zr a 1) = 1 := zkr_of (by decide +kernel) hG (by decide) h
theorem kr_2_2 {G : ZG} (hG : zOk G) {a : Nat} (h : zk G a = 12) : zk G (zr a 2) = 0 := zkr_of (by decide +kernel) hG (by decide) h
theorem kr_2_3 {G : ZG} (hG : zOk G) {a : Nat} (h : zk G a = 12) : zk G (zr a 3) = 0 := zkr_of (by decide +kernel) hG (by decide) h
theorem kr_3_0 {G : ZG} (hG : zOk G) {a : Nat} (h : zk G a = 13) : zk G (zr a 0) = 0 := zkr_of (by decide +kernel) hG (by decide) h
theorem kr_3_1 {G : ZG} (hG : zOk G) {a : Nat} (h : zk G a = 13) : zk G (zr a 1) = 0 := zkr_of (by decide +kernel) hG (by decide) h
theorem kr_4_0 {G : ZG} (hG : zOk G) {a : Nat} (h : zk G a = 14) : zk G (zr a 0) = 0 := zkr_of (by decide +kernel) hG (by decide) h
theorem kr_5_0 {G : ZG} (hG : zOk G) {a : Nat} (h : zk G a = 15) : zk G (zr a 0) = 1 := zkr_of (by decide +kernel) hG (by decide) h
theorem kr_5_1 {G : ZG} (hG : zOk G) {a : Nat} (h : zk G a = 15) : zk G (zr a 1) = 1 := zkr_of (by decide +kernel) hG (by decide) h
theorem kr_5_2 {G : ZG} (hG : zOk G) {a : Nat} (h : zk G a = 15) : zk G (zr a 2) = 0 := zkr_of (by decide +kernel) hG (by decide) h
theorem kr_6_0 {G : ZG} (hG : zOk G) {a : Nat} (h : zk G a = 16) : zk G (zr a 0) = 0 := zkr_of (by decide +kernel) hG (by decide) h
theorem kr_7_0 {G : ZG} (hG : zOk G) {a : Nat} (h : zk G a = 17) : zk G (zr a 0) = 0 := zkr_of (by decide +kernel) hG (by decide) h
theorem kr_7_1 {G : ZG} (hG : zOk G) {a : Nat} (h : zk G a = 17) : zk G (zr a 1) = 0 := zkr_of (by decide +kernel) hG (by decide) h
theorem kr_7_2 {G : ZG} (hG : zOk G) {a : Nat} (h : zk G a = 17) : zk G (zr a 2) = 0 := zkr_of (by decide +kernel) hG (by decide) h
theorem kr_7_3 {G : ZG} (hG : zOk G) {a : Nat} (h : zk G a = 17) : zk G (zr a 3) = 0 := zkr_of (by decide +kernel) hG (by decide) h
theorem kr_7_5 {G : ZG} (hG : zOk G) {a : Nat} (h : zk G a = 17) : zk G (zr a 5) = 0 := zkr_of (by decide +kernel) hG (by decide) h
theorem kr_7_6 {G : ZG} (hG : zOk G) {a : Nat} (h : zk G a = 17) : zk G (zr a 6) = 0 := zkr_of (by decide +kernel) hG (by decide) h
theorem kr_7_7 {G : ZG} (hG : zOk G) {a : Nat} (h : zk G a = 17) : zk G (zr a 7) = 1 := zkr_of (by decide +kernel) hG (by decide) h
theorem kr_7_8 {G : ZG} (hG : zOk G) {a : Nat} (h : zk G a = 17) : zk G (zr a 8) = 0 := zkr_of (by decide +kernel) hG (by decide) h
theorem kr_8_0 {G : ZG} (hG : zOk G) {a : Nat} (h : zk G a = 18) : zk G (zr a 0) = 1 := zkr_of (by decide +kernel) hG (by decide) h
theorem kr_9_0 {G : ZG} (hG : zOk G) {a : Nat} (h : zk G a = 19) : zk G (zr a 0) = 1 := zkr_of (by decide +kernel) hG (by decide) h
theorem kr_9_1 {G : ZG} (hG : zOk G) {a : Nat} (h : zk G a = 19) : zk G (zr a 1) = 1 := zkr_of (by decide +kernel) hG (by decide) h
theorem kr_10_0 {G : ZG} (hG : zOk G) {a : Nat} (h : zk G a = 20) : zk G (zr a 0) = 0 := zkr_of (by decide +kernel) hG (by decide) h
theorem kr_11_0 {G : ZG} (hG : zOk G) {a : Nat} (h : zk G a = 21) : zk G (zr a 0) = 20 := zkr_of (by decide +kernel) hG (by decide) h
theorem kr_11_1 {G : ZG} (hG : zOk G) {a : Nat} (h : zk G a = 21) : zk G (zr a 1) = 20 := zkr_of (by decide +kernel) hG (by decide) h
theorem kr_11_2 {G : ZG} (hG : zOk G) {a : Nat} (h : zk G a = 21) : zk G (zr a 2) = 20 := zkr_of (by decide +kernel) hG (by decide) h
theorem kr_11_3 {G : ZG} (hG : zOk G) {a : Nat} (h : zk G a = 21) : zk G (zr a 3) = 19 := zkr_of (by decide +kernel) hG (by decide) h
theorem kr_11_4 {G : ZG} (hG : zOk G) {a : Nat} (h : zk G a = 21) : zk G (zr a 4) = 17 := zkr_of (by decide +kernel) hG (by decide) h
theorem kr_11_5 {G : ZG} (hG : zOk G) {a : Nat} (h : zk G a = 21) : zk G (zr a 5) = 12 := zkr_of (by decide +kernel) hG (by decide) h
theorem kr_11_6 {G : ZG} (hG : zOk G) {a : Nat} (h : zk G a = 21) : zk G (zr a 6) = 18 := zkr_of (by decide +kernel) hG (by decide) h
theorem kr_11_7 {G : ZG} (hG : zOk G) {a : Nat} (h : zk G a = 21) : zk G (zr a 7) = 14 := zkr_of (by decide +kernel) hG (by decide) h
theorem kr_11_8 {G : ZG} (hG : zOk G) {a : Nat} (h : zk G a = 21) : zk G (zr a 8) = 16 := zkr_of (by decide +kernel) hG (by decide) h
theorem kr_11_9 {G : ZG} (hG : zOk G) {a : Nat} (h : zk G a = 21) : zk G (zr a 9) = 16 := zkr_of (by decide +kernel) hG (by decide) h
theorem kr_11_10 {G : ZG} (hG : zOk G) {a : Nat} (h : zk G a = 21) : zk G (zr a 10) = 13 := zkr_of (by decide +kernel) hG (by decide) h
theorem kr_11_11 {G : ZG} (hG : zOk G) {a : Nat} (h : zk G a = 21) : zk G (zr a 11) = 10 := zkr_of (by decide +kernel) hG (by decide) h
theorem kr_11_12 {G : ZG} (hG : zOk G) {a : Nat} (h : zk G a = 21) : zk G (zr a 12) = 11 := zkr_of (by decide +kernel) hG (by decide) h
theorem kr_11_13 {G : ZG} (hG : zOk G) {a : Nat} (h : zk G a = 21) : zk G (zr a 13) = 0 := zkr_of (by decide +kernel) hG (by decide) h
theorem kr_12_0 {G : ZG} (hG : zOk G) {a : Nat} (h : zk G a = 22) : zk G (zr a 0) = 0 := zkr_of (by decide +kernel) hG (by decide) h
theorem kr_12_1 {G : ZG} (hG : zOk G) {a : Nat} (h : zk G a = 22) : zk G (zr a 1) = 0 := zkr_of (by decide +kernel) hG (by decide) h
theorem kr_12_2 {G : ZG} (hG : zOk G) {a : Nat} (h : zk G a = 22) : zk G (zr a 2) = 0 := zkr_of (by decide +kernel) hG (by decide) h
theorem kr_12_3 {G : ZG} (hG : zOk G) {a : Nat} (h : zk G a = 22) : zk G (zr a 3) = 0 := zkr_of (by decide +kernel) hG (by decide) h
theorem kr_12_4 {G : ZG} (hG : zOk G) {a : Nat} (h : zk G a = 22) : zk G (zr a 4) = 0 := zkr_of (by decide +kernel) hG (by decide) h
theorem kr_12_5 {G : ZG} (hG : zOk G) {a : Nat} (h : zk G a = 22) : zk G (zr a 5) = 0 := zkr_of (by decide +kernel) hG (by decide) h
theorem kr_12_6 {G : ZG} (hG : zOk G) {a : Nat} (h : zk G a = 22) : zk G (zr a 6) = 0 := zkr_of (by decide +kernel) hG (by decide) h
theorem kr_12_7 {G : ZG} (hG : zOk G) {a : Nat} (h : zk G a = 22) : zk G (zr a 7) = 0 := zkr_of (by decide +kernel) hG (by decide) h
theorem kr_12_8 {G : ZG} (hG : zOk G) {a : Nat} (h : zk G a = 22) : zk G (zr a 8) = 0 := zkr_of (by decide +kernel) hG (by decide) h
theorem kr_12_9 {G : ZG} (hG : zOk G) {a : Nat} (h : zk G a = 22) : zk G (zr a 9) = 0 := zkr_of (by decide +kernel) hG (by decide) h
theorem kr_12_18 {G : ZG} (hG : zOk G) {a : Nat} (h : zk G a = 22) : zk G (zr a 18) = 1 := zkr_of (by decide +kernel) hG (by decide) h
theorem kr_12_19 {G : ZG} (hG : zOk G) {a : Nat} (h : zk G a = 22) : zk G (zr a 19) = 0 := zkr_of (by decide +kernel) hG (by decide) h
theorem kr_12_20 {G : ZG} (hG : zOk G) {a : Nat} (h : zk G a = 22) : zk G (zr a 20) = 0 := zkr_of (by decide +kernel) hG (by decide) h
theorem kr_12_21 {G : ZG} (hG : zOk G) {a : Nat} (h : zk G a = 22) : zk G (zr a 21) = 0 := zkr_of (by decide +kernel) hG (by decide) h
theorem kr_12_22 {G : ZG} (hG : zOk G) {a : Nat} (h : zk G a = 22) : zk G (zr a 22) = 0 := zkr_of (by decide +kernel) hG (by decide) h
theorem kr_12_23 {G : ZG} (hG : zOk G) {a : Nat} (h : zk G a = 22) : zk G (zr a 23) = 0 := zkr_of (by decide +kernel) hG (by decide) h
theorem kr_12_24 {G : ZG} (hG : zOk G) {a : Nat} (h : zk G a = 22) : zk G (zr a 24) = 0 := zkr_of (by decide +kernel) hG (by decide) h
theorem kr_12_25 {G : ZG} (hG : zOk G) {a : Nat} (h : zk G a = 22) : zk G (zr a 25) = 1 := zkr_of (by decide +kernel) hG (by decide) h
theorem kr_12_32 {G : ZG} (hG : zOk G) {a : Nat} (h : zk G a = 22) : zk G (zr a 32) = 1 := zkr_of (by decide +kernel) hG (by decide) h
theorem kr_12_33 {G : ZG} (hG : zOk G) {a : Nat} (h : zk G a = 22) : zk G (zr a 33) = 1 := zkr_of (by decide +kernel) hG (by decide) h
theorem kr_12_35 {G : ZG} (hG : zOk G) {a : Nat} (h : zk G a = 22) : zk G (zr a 35) = 2 := zkr_of (by decide +kernel) hG (by decide) h
theorem kr_12_36 {G : ZG} (hG : zOk G) {a : Nat} (h : zk G a = 22) : zk G (zr a 36) = 2 := zkr_of (by decide +kernel) hG (by decide) h
theorem kr_12_38 {G : ZG} (hG : zOk G) {a : Nat} (h : zk G a = 22) : zk G (zr a 38) = 0 := zkr_of (by decide +kernel) hG (by decide) h
theorem inW0 : ∀ w ∈ u_ws RX0 TX0 3, w ∈ WS := show ∀ w ∈ [u_lay RX0 TX0 0, u_lay RX0 TX0 1, u_lay RX0 TX0 2], w ∈ WS from List.forall_mem_cons.mpr ⟨zIn 205 (by decide +kernel) (by decide +kernel), List.forall_mem_cons.mpr ⟨zIn 207 (by decide +kernel) (by decide +kernel), List.forall_mem_cons.mpr ⟨zIn 209 (by decide +kernel) (by decide +kernel), fun _ h => absurd h List.not_mem_nil⟩⟩⟩
theorem inW1 : ∀ w ∈ u_ws RX1 TX1 4, w ∈ WS := show ∀ w ∈ [u_lay RX1 TX1 0, u_lay RX1 TX1 1, u_lay RX1 TX1 2, u_lay RX1 TX1 3], w ∈ WS from List.forall_mem_cons.mpr ⟨zIn 228 (by decide +kernel) (by decide +kernel), List.forall_mem_cons.mpr ⟨zIn 230 (by decide +kernel) (by decide +kernel), List.forall_mem_cons.mpr ⟨zIn 232 (by decide +kernel) (by decide +kernel), List.forall_mem_cons.mpr ⟨zIn 234 (by decide +kernel) (by decide +kernel), fun _ h => absurd h List.not_mem_nil⟩⟩⟩⟩
theorem inW2 : ∀ w ∈ u_ws RX2 TX2 6, w ∈ WS := show ∀ w ∈ [u_lay RX2 TX2 0, u_lay RX2 TX2 1, u_lay RX2 TX2 2, u_lay RX2 TX2 3, u_lay RX2 TX2 4, u_lay RX2 TX2 5], w ∈ WS from List.forall_mem_cons.mpr ⟨zIn 122 (by decide +kernel) (by decide +kernel), List.forall_mem_cons.mpr ⟨zIn 124 (by decide +kernel) (by decide +kernel), List.forall_mem_cons.mpr ⟨zIn 126 (by decide +kernel) (by decide +kernel), List.forall_mem_cons.mpr ⟨zIn 128 (by decide +kernel) (by decide +kernel), List.forall_mem_cons.mpr ⟨zIn 130 (by decide +kernel) (by decide +kernel), List.forall_mem_cons.mpr ⟨zIn 132 (by decide +kernel) (by decide +kernel), fun _ h => absurd h List.not_mem_nil⟩⟩⟩⟩⟩⟩
theorem inW3 : ∀ w ∈ u_ws RX3 TX3 4, w ∈ WS := show ∀ w ∈ [u_lay RX3 TX3 0, u_lay RX3 TX3 1, u_lay RX3 TX3 2, u_lay RX3 TX3 3], w ∈ WS from List.forall_mem_cons.mpr ⟨zIn 187 (by decide +kernel) (by decide +kernel), List.forall_mem_cons.mpr ⟨zIn 189 (by decide +kernel) (by decide +kernel), List.forall_mem_cons.mpr ⟨zIn 191 (by decide +kernel) (by decide +kernel), List.forall_mem_cons.mpr ⟨zIn 193 (by decide +kernel) (by decide +kernel), fun _ h => absurd h List.not_mem_nil⟩⟩⟩⟩
theorem inW4 : ∀ w ∈ u_ws RX4 TX4 2, w ∈ WS := show ∀ w ∈ [u_lay RX4 TX4 0, u_lay RX4 TX4 1], w ∈ WS from List.forall_mem_cons.mpr ⟨zIn 156 (by decide +kernel) (by decide +kernel), List.forall_mem_cons.mpr ⟨zIn 158 (by decide +kernel) (by decide +kernel), fun _ h => absurd h List.not_mem_nil⟩⟩
theorem inW5 : ∀ w ∈ u_ws RX5 TX5 5, w ∈ WS := show ∀ w ∈ [u_lay RX5 TX5 0, u_lay RX5 TX5 1, u_lay RX5 TX5 2, u_lay RX5 TX5 3, u_lay RX5 TX5 4], w ∈ WS from List.forall_mem_cons.mpr ⟨zIn 105 (by decide +kernel) (by decide +kernel), List.forall_mem_cons.mpr ⟨zIn 107 (by decide +kernel) (by decide +kernel), List.forall_mem_cons.mpr ⟨zIn 109 (by decide +kernel) (by decide +kernel), List.forall_mem_cons.mpr ⟨zIn 111 (by decide +kernel) (by decide +kernel), List.forall_mem_cons.mpr ⟨zIn 113 (by decide +kernel) (by decide +kernel), fun _ h => absurd h List.not_mem_nil⟩⟩⟩⟩⟩
theorem inW6 : ∀ w ∈ u_ws RX6 TX6 3, w ∈ WS := show ∀ w ∈ [u_lay RX6 TX6 0, u_lay RX6 TX6 1, u_lay RX6 TX6 2], w ∈ WS from List.forall_mem_cons.mpr ⟨zIn 170 (by decide +kernel) (by decide +kernel), List.forall_mem_cons.mpr ⟨zIn 172 (by decide +kernel) (by decide +kernel), List.forall_mem_cons.mpr ⟨zIn 174 (by decide +kernel) (by decide +kernel), fun _ h => absurd h List.not_mem_nil⟩⟩⟩
theorem inW7 : ∀ w ∈ u_ws RX7 TX7 10, w ∈ WS := show ∀ w ∈ [u_lay RX7 TX7 0, u_lay RX7 TX7 1, u_lay RX7 TX7 2, u_lay RX7 TX7 3, u_lay RX7 TX7 4, u_lay RX7 TX7 5, u_lay RX7 TX7 6, u_lay RX7 TX7 7, u_lay RX7 TX7 8, u_lay RX7 TX7 9], w ∈ WS from List.forall_mem_cons.mpr ⟨zIn 67 (by decide +kernel) (by decide +kernel), List.forall_mem_cons.mpr ⟨zIn 69 (by decide +kernel) (by decide +kernel), List.forall_mem_cons.mpr ⟨zIn 71 (by decide +kernel) (by decide +kernel), List.forall_mem_cons.mpr ⟨zIn 73 (by decide +kernel) (by decide +kernel), List.forall_mem_cons.mpr ⟨zIn 75 (by decide +kernel) (by decide +kernel), List.forall_mem_cons.mpr ⟨zIn 77 (by decide +kernel) (by decide +kernel), List.forall_mem_cons.mpr ⟨zIn 79 (by decide +kernel) (by decide +kernel), List.forall_mem_cons.mpr ⟨zIn 81 (by decide +kernel) (by decide +kernel), List.forall_mem_cons.mpr ⟨zIn 83 (by decide +kernel) (by decide +kernel), List.forall_mem_cons.mpr ⟨zIn 85 (by decide +kernel) (by decide +kernel), fun _ h => absurd h List.not_mem_nil⟩⟩⟩⟩⟩⟩⟩⟩⟩⟩
theorem inW8 : ∀ w ∈ u_ws RX8 TX8 2, w ∈ WS := show ∀ w ∈ [u_lay RX8 TX8 0, u_lay RX8 TX8 1], w ∈ WS from List.forall_mem_cons.mpr ⟨zIn 143 (by decide +kernel) (by decide +kernel), List.forall_mem_cons.mpr ⟨zIn 145 (by decide +kernel) (by decide +kernel), fun _ h => absurd h List.not_mem_nil⟩⟩
theorem inW9 : ∀ w ∈ u_ws RX9 TX9 2, w ∈ WS := show ∀ w ∈ [u_lay RX9 TX9 0, u_lay RX9 TX9 1], w ∈ WS from List.forall_mem_cons.mpr ⟨zIn 45 (by decide +kernel) (by decide +kernel), List.forall_mem_cons.mpr ⟨zIn 47 (by decide +kernel) (by decide +kernel), fun _ h => absurd h List.not_mem_nil⟩⟩
theorem inW10 : ∀ w ∈ u_ws RX10 TX10 2, w ∈ WS := show ∀ w ∈ [u_lay RX10 TX10 0, u_lay RX10 TX10 1], w ∈ WS from List.forall_mem_cons.mpr ⟨zIn 31 (by decide +kernel) (by decide +kernel), List.forall_mem_cons.mpr ⟨zIn 33 (by decide +kernel) (by decide +kernel), fun _ h => absurd h List.not_mem_nil⟩⟩
theorem inW11 : ∀ w ∈ u_ws RX11 TX11 14, w ∈ WS := show ∀ w ∈ [u_lay RX11 TX11 0, u_lay RX11 TX11 1, u_lay RX11 TX11 2, u_lay RX11 TX11 3, u_lay RX11 TX11 4, u_lay RX11 TX11 5, u_lay RX11 TX11 6, u_lay RX11 TX11 7, u_lay RX11 TX11 8, u_lay RX11 TX11 9, u_lay RX11 TX11 10, u_lay RX11 TX11 11, u_lay RX11 TX11 12, u_lay RX11 TX11 13], w ∈ WS from List.forall_mem_cons.mpr ⟨zIn 301 (by decide +kernel) (by decide +kernel), List.forall_mem_cons.mpr ⟨zIn 303 (by decide +kernel) (by decide +kernel), List.forall_mem_cons.mpr ⟨zIn 305 (by decide +kernel) (by decide +kernel), List.forall_mem_cons.mpr ⟨zIn 307 (by decide +kernel) (by decide +kernel), List.forall_mem_cons.mpr ⟨zIn 309 (by decide +kernel) (by decide +kernel), List.forall_mem_cons.mpr ⟨zIn 311 (by decide +kernel) (by decide +kernel), List.forall_mem_cons.mpr ⟨zIn 313 (by decide +kernel) (by decide +kernel), List.forall_mem_cons.mpr ⟨zIn 315 (by decide +kernel) (by decide +kernel), List.forall_mem_cons.mpr ⟨zIn 317 (by decide +kernel) (by decide +kernel), List.forall_mem_cons.mpr ⟨zIn 319 (by decide +kernel) (by decide +kernel), List.forall_mem_cons.mpr ⟨zIn 321 (by decide +kernel) (by decide +kernel), List.forall_mem_cons.mpr ⟨zIn 323 (by decide +kernel) (by decide +kernel), List.forall_mem_cons.mpr ⟨zIn 325 (by decide +kernel) (by decide +kernel), List.forall_mem_cons.mpr ⟨zIn 327 (by decide +kernel) (by decide +kernel), fun _ h => absurd h List.not_mem_nil⟩⟩⟩⟩⟩⟩⟩⟩⟩⟩⟩⟩⟩⟩
theorem inW12 : ∀ w ∈ u_ws RX12 TX12 39, w ∈ WS := show ∀ w ∈ [u_lay RX12 TX12 0, u_lay RX12 TX12 1, u_lay RX12 TX12 2, u_lay RX12 TX12 3, u_lay RX12 TX12 4, u_lay RX12 TX12 5, u_lay RX12 TX12 6, u_lay RX12 TX12 7, u_lay RX12 TX12 8, u_lay RX12 TX12 9, u_lay RX12 TX12 10, u_lay RX12 TX12 11, u_lay RX12 TX12 12, u_lay RX12 TX12 13, u_lay RX12 TX12 14, u_lay RX12 TX12 15, u_lay RX12 TX12 16, u_lay RX12 TX12 17, u_lay RX12 TX12 18, u_lay RX12 TX12 19, u_lay RX12 TX12 20, u_lay RX12 TX12 21, u_lay RX12 TX12 22, u_lay RX12 TX12 23, u_lay RX12 TX12 24, u_lay RX12 TX12 25, u_lay RX12 TX12 26, u_lay RX12 TX12 27, u_lay RX12 TX12 28, u_lay RX12 TX12 29, u_lay RX12 TX12 30, u_lay RX12 TX12 31, u_lay RX12 TX12 32, u_lay RX12 TX12 33, u_lay RX12 TX12 34, u_lay RX12 TX12 35, u_lay RX12 TX12 36, u_lay RX12 TX12 37, u_lay RX12 TX12 38], w ∈ WS from List.forall_mem_cons.mpr ⟨zIn 960 (by decide +kernel) (by decide +kernel), List.forall_mem_cons.mpr ⟨zIn 962 (by decide +kernel) (by decide +kernel), List.forall_mem_cons.mpr ⟨zIn 964 (by decide +kernel) (by decide +kernel), List.forall_mem_cons.mpr ⟨zIn 966 (by decide +kernel) (by decide +kernel), List.forall_mem_cons.mpr ⟨zIn 968 (by decide +kernel) (by decide +kernel), List.forall_mem_cons.mpr ⟨zIn 970 (by decide +kernel) (by decide +kernel), List.forall_mem_cons.mpr ⟨zIn 972 (by decide +kernel) (by decide +kernel), List.forall_mem_cons.mpr ⟨zIn 974 (by decide +kernel) (by decide +kernel), List.forall_mem_cons.mpr ⟨zIn 976 (by decide +kernel) (by decide +kernel), List.forall_mem_cons.mpr ⟨zIn 978 (by decide +kernel) (by decide +kernel), List.forall_mem_cons.mpr ⟨zIn 980 (by decide +kernel) (by decide +kernel), List.forall_mem_cons.mpr ⟨zIn 982 (by decide +kernel) (by decide +kernel), List.forall_mem_cons.mpr ⟨zIn 984 (by decide +kernel) (by decide +kernel), List.forall_mem_cons.mpr ⟨zIn 986 (by decide +kernel) (by decide +kernel), List.forall_mem_cons.mpr ⟨zIn 988 (by decide +kernel) (by decide +kernel), List.forall_mem_cons.mpr ⟨zIn 990 (by decide +kernel) (by decide +kernel), List.forall_mem_cons.mpr ⟨zIn 992 (by decide +kernel) (by decide +kernel), List.forall_mem_cons.mpr ⟨zIn 994 (by decide +kernel) (by decide +kernel), List.forall_mem_cons.mpr ⟨zIn 996 (by decide +kernel) (by decide +kernel), List.forall_mem_cons.mpr ⟨zIn 998 (by decide +kernel) (by decide +kernel), List.forall_mem_cons.mpr ⟨zIn 1000 (by decide +kernel) (by decide +kernel), List.forall_mem_cons.mpr ⟨zIn 1002 (by decide +kernel) (by decide +kernel), List.forall_mem_cons.mpr ⟨zIn 1004 (by decide +kernel) (by decide +kernel), List.forall_mem_cons.mpr ⟨zIn 1006 (by decide +kernel) (by decide +kernel), List.forall_mem_cons.mpr ⟨zIn 1008 (by decide +kernel) (by decide +kernel), List.forall_mem_cons.mpr ⟨zIn 1010 (by decide +kernel) (by decide +kernel), List.forall_mem_cons.mpr ⟨zIn 1012 (by decide +kernel) (by decide +kernel), List.forall_mem_cons.mpr ⟨zIn 1014 (by decide +kernel) (by decide +kernel), List.forall_mem_cons.mpr ⟨zIn 1016 (by decide +kernel) (by decide +kernel), List.forall_mem_cons.mpr ⟨zIn 1018 (by decide +kernel) (by decide +kernel), List.forall_mem_cons.mpr ⟨zIn 1020 (by decide +kernel) (by decide +kernel), List.forall_mem_cons.mpr ⟨zIn 1022 (by decide +kernel) (by decide +kernel), List.forall_mem_cons.mpr ⟨zIn 1024 (by decide +kernel) (by decide +kernel), List.forall_mem_cons.mpr ⟨zIn 1026 (by decide +kernel) (by decide +kernel), List.forall_mem_cons.mpr ⟨zIn 1028 (by decide +kernel) (by decide +kernel), List.forall_mem_cons.mpr ⟨zIn 1030 (by decide +kernel) (by decide +kernel), List.forall_mem_cons.mpr ⟨zIn 1032 (by decide +kernel) (by decide +kernel), List.forall_mem_cons.mpr ⟨zIn 1034 (by decide +kernel) (by decide +kernel), List.forall_mem_cons.mpr ⟨zIn 1036 (by decide +kernel) (by decide +kernel), fun _ h => absurd h List.not_mem_nil⟩⟩⟩⟩⟩⟩⟩⟩⟩⟩⟩⟩⟩⟩⟩⟩⟩⟩⟩⟩⟩⟩⟩⟩⟩⟩⟩⟩⟩⟩⟩⟩⟩⟩⟩⟩⟩⟩⟩
theorem st_X11_297 : Cond.fieldLink RX11 297 "MayBeRead" "MARK_CASES" "[J" ∈ WS := zIn 465 (by decide +kernel) (by decide +kernel)
theorem fl_X11_10 : zFl RX11 10 11 0 := ⟨RX11, TX11, 14, tyX11, rfl, by decide, rfl, inW11, by decide, zIn 287 (by decide +kernel) (by decide +kernel), tyX11_ok, nmX11, by decide +kernel⟩
theorem fl_X11_16 : zFl RX11 16 11 1 := ⟨RX11, TX11, 14, tyX11, rfl, by decide, rfl, inW11, by decide, zIn 288 (by decide +kernel) (by decide +kernel), tyX11_ok, nmX11, by decide +kernel⟩
theorem fl_X11_19 : zFl RX11 19 11 2 := ⟨RX11, TX11, 14, tyX11, rfl, by decide, rfl, inW11, by decide, zIn 289 (by decide +kernel) (by decide +kernel), tyX11_ok, nmX11, by decide +kernel⟩
theorem fl_X11_25 : zFl RX11 25 11 3 := ⟨RX11, TX11, 14, tyX11, rfl, by decide, rfl, inW11, by decide, zIn 290 (by decide +kernel) (by decide +kernel), tyX11_ok, nmX11, by decide +kernel⟩
theorem fl_X11_32 : zFl RX11 32 11 4 := ⟨RX11, TX11, 14, tyX11, rfl, by decide, rfl, inW11, by decide, zIn 291 (by decide +kernel) (by decide +kernel), tyX11_ok, nmX11, by decide +kernel⟩
theorem fl_X11_39 : zFl RX11 39 11 5 := ⟨RX11, TX11, 14, tyX11, rfl, by decide, rfl, inW11, by decide, zIn 292 (by decide +kernel) (by decide +kernel), tyX11_ok, nmX11, by decide +kernel⟩
theorem fl_X11_46 : zFl RX11 46 11 6 := ⟨RX11, TX11, 14, tyX11, rfl, by decide, rfl, inW11, by decide, zIn 293 (by decide +kernel) (by decide +kernel), tyX11_ok, nmX11, by decide +kernel⟩
theorem fl_X11_53 : zFl RX11 53 11 7 := ⟨RX11, TX11, 14, tyX11, rfl, by decide, rfl, inW11, by decide, zIn 294 (by decide +kernel) (by decide +kernel), tyX11_ok, nmX11, by decide +kernel⟩
theorem fl_X11_60 : zFl RX11 60 11 8 := ⟨RX11, TX11, 14, tyX11, rfl, by decide, rfl, inW11, by decide, zIn 295 (by decide +kernel) (by decide +kernel), tyX11_ok, nmX11, by decide +kernel⟩
theorem fl_X11_64 : zFl RX11 64 11 9 := ⟨RX11, TX11, 14, tyX11, rfl, by decide, rfl, inW11, by decide, zIn 296 (by decide +kernel) (by decide +kernel), tyX11_ok, nmX11, by decide +kernel⟩
theorem fl_X11_70 : zFl RX11 70 11 10 := ⟨RX11, TX11, 14, tyX11, rfl, by decide, rfl, inW11, by decide, zIn 297 (by decide +kernel) (by decide +kernel), tyX11_ok, nmX11, by decide +kernel⟩
theorem fl_X11_77 : zFl RX11 77 11 11 := ⟨RX11, TX11, 14, tyX11, rfl, by decide, rfl, inW11, by decide, zIn 298 (by decide +kernel) (by decide +kernel), tyX11_ok, nmX11, by decide +kernel⟩
theorem fl_X11_84 : zFl RX11 84 11 12 := ⟨RX11, TX11, 14, tyX11, rfl, by decide, rfl, inW11, by decide, zIn 299 (by decide +kernel) (by decide +kernel), tyX11_ok, nmX11, by decide +kernel⟩
theorem fl_X11_88 : zFl RX11 88 11 13 := ⟨RX11, TX11, 14, tyX11, rfl, by decide, rfl, inW11, by decide, zIn 300 (by decide +kernel) (by decide +kernel), tyX11_ok, nmX11, by decide +kernel⟩
theorem fl_X0_9 : zFl RX0 9 0 0 := ⟨RX0, TX0, 3, tyX0, rfl, by decide, rfl, inW0, by decide, zIn 202 (by decide +kernel) (by decide +kernel), tyX0_ok, nmX0, by decide +kernel⟩
theorem fl_X0_15 : zFl RX0 15 0 1 := ⟨RX0, TX0, 3, tyX0, rfl, by decide, rfl, inW0, by decide, zIn 203 (by decide +kernel) (by decide +kernel), tyX0_ok, nmX0, by decide +kernel⟩
theorem fl_X0_18 : zFl RX0 18 0 2 := ⟨RX0, TX0, 3, tyX0, rfl, by decide, rfl, inW0, by decide, zIn 204 (by decide +kernel) (by decide +kernel), tyX0_ok, nmX0, by decide +kernel⟩
theorem fl_X1_10 : zFl RX1 10 1 0 := ⟨RX1, TX1, 4, tyX1, rfl, by decide, rfl, inW1, by decide, zIn 224 (by decide +kernel) (by decide +kernel), tyX1_ok, nmX1, by decide +kernel⟩
theorem fl_X1_19 : zFl RX1 19 1 1 := ⟨RX1, TX1, 4, tyX1, rfl, by decide, rfl, inW1, by decide, zIn 225 (by decide +kernel) (by decide +kernel), tyX1_ok, nmX1, by decide +kernel⟩
theorem fl_X1_26 : zFl RX1 26 1 2 := ⟨RX1, TX1, 4, tyX1, rfl, by decide, rfl, inW1, by decide, zIn 226 (by decide +kernel) (by decide +kernel), tyX1_ok, nmX1, by decide +kernel⟩
theorem fl_X1_30 : zFl RX1 30 1 3 := ⟨RX1, TX1, 4, tyX1, rfl, by decide, rfl, inW1, by decide, zIn 227 (by decide +kernel) (by decide +kernel), tyX1_ok, nmX1, by decide +kernel⟩
theorem fl_X2_12 : zFl RX2 12 2 0 := ⟨RX2, TX2, 6, tyX2, rfl, by decide, rfl, inW2, by decide, zIn 116 (by decide +kernel) (by decide +kernel), tyX2_ok, nmX2, by decide +kernel⟩
theorem fl_X2_18 : zFl RX2 18 2 1 := ⟨RX2, TX2, 6, tyX2, rfl, by decide, rfl, inW2, by decide, zIn 117 (by decide +kernel) (by decide +kernel), tyX2_ok, nmX2, by decide +kernel⟩
theorem fl_X2_22 : zFl RX2 22 2 2 := ⟨RX2, TX2, 6, tyX2, rfl, by decide, rfl, inW2, by decide, zIn 118 (by decide +kernel) (by decide +kernel), tyX2_ok, nmX2, by decide +kernel⟩
theorem fl_X2_26 : zFl RX2 26 2 3 := ⟨RX2, TX2, 6, tyX2, rfl, by decide, rfl, inW2, by decide, zIn 119 (by decide +kernel) (by decide +kernel), tyX2_ok, nmX2, by decide +kernel⟩
theorem fl_X2_29 : zFl RX2 29 2 5 := ⟨RX2, TX2, 6, tyX2, rfl, by decide, rfl, inW2, by decide, zIn 121 (by decide +kernel) (by decide +kernel), tyX2_ok, nmX2, by decide +kernel⟩
theorem fl_X2_33 : zFl RX2 33 2 4 := ⟨RX2, TX2, 6, tyX2, rfl, by decide, rfl, inW2, by decide, zIn 120 (by decide +kernel) (by decide +kernel), tyX2_ok, nmX2, by decide +kernel⟩
theorem fl_X3_11 : zFl RX3 11 3 0 := ⟨RX3, TX3, 4, tyX3, rfl, by decide, rfl, inW3, by decide, zIn 183 (by decide +kernel) (by decide +kernel), tyX3_ok, nmX3, by decide +kernel⟩
theorem fl_X3_15 : zFl RX3 15 3 1 := ⟨RX3, TX3, 4, tyX3, rfl, by decide, rfl, inW3, by decide, zIn 184 (by decide +kernel) (by decide +kernel), tyX3_ok, nmX3, by decide +kernel⟩
theorem fl_X3_18 : zFl RX3 18 3 2 := ⟨RX3, TX3, 4, tyX3, rfl, by decide, rfl, inW3, by decide, zIn 185 (by decide +kernel) (by decide +kernel), tyX3_ok, nmX3, by decide +kernel⟩
theorem fl_X3_22 : zFl RX3 22 3 3 := ⟨RX3, TX3, 4, tyX3, rfl, by decide, rfl, inW3, by decide, zIn 186 (by decide +kernel) (by decide +kernel), tyX3_ok, nmX3, by decide +kernel⟩
theorem fl_X4_9 : zFl RX4 9 4 0 := ⟨RX4, TX4, 2, tyX4, rfl, by decide, rfl, inW4, by decide, zIn 154 (by decide +kernel) (by decide +kernel), tyX4_ok, nmX4, by decide +kernel⟩
theorem fl_X4_15 : zFl RX4 15 4 1 := ⟨RX4, TX4, 2, tyX4, rfl, by decide, rfl, inW4, by decide, zIn 155 (by decide +kernel) (by decide +kernel), tyX4_ok, nmX4, by decide +kernel⟩
theorem fl_X5_9 : zFl RX5 9 5 0 := ⟨RX5, TX5, 5, tyX5, rfl, by decide, rfl, inW5, by decide, zIn 100 (by decide +kernel) (by decide +kernel), tyX5_ok, nmX5, by decide +kernel⟩
theorem fl_X5_15 : zFl RX5 15 5 1 := ⟨RX5, TX5, 5, tyX5, rfl, by decide, rfl, inW5, by decide, zIn 101 (by decide +kernel) (by decide +kernel), tyX5_ok, nmX5, by decide +kernel⟩
theorem fl_X5_18 : zFl RX5 18 5 2 := ⟨RX5, TX5, 5, tyX5, rfl, by decide, rfl, inW5, by decide, zIn 102 (by decide +kernel) (by decide +kernel), tyX5_ok, nmX5, by decide +kernel⟩
theorem fl_X5_26 : zFl RX5 26 5 3 := ⟨RX5, TX5, 5, tyX5, rfl, by decide, rfl, inW5, by decide, zIn 103 (by decide +kernel) (by decide +kernel), tyX5_ok, nmX5, by decide +kernel⟩
theorem fl_X5_30 : zFl RX5 30 5 4 := ⟨RX5, TX5, 5, tyX5, rfl, by decide, rfl, inW5, by decide, zIn 104 (by decide +kernel) (by decide +kernel), tyX5_ok, nmX5, by decide +kernel⟩
theorem fl_X6_9 : zFl RX6 9 6 0 := ⟨RX6, TX6, 3, tyX6, rfl, by decide, rfl, inW6, by decide, zIn 167 (by decide +kernel) (by decide +kernel), tyX6_ok, nmX6, by decide +kernel⟩
theorem fl_X6_15 : zFl RX6 15 6 1 := ⟨RX6, TX6, 3, tyX6, rfl, by decide, rfl, inW6, by decide, zIn 168 (by decide +kernel) (by decide +kernel), tyX6_ok, nmX6, by decide +kernel⟩
theorem fl_X6_23 : zFl RX6 23 6 2 := ⟨RX6, TX6, 3, tyX6, rfl, by decide, rfl, inW6, by decide, zIn 169 (by decide +kernel) (by decide +kernel), tyX6_ok, nmX6, by decide +kernel⟩
theorem fl_X7_9 : zFl RX7 9 7 0 := ⟨RX7, TX7, 10, tyX7, rfl, by decide, rfl, inW7, by decide, zIn 57 (by decide +kernel) (by decide +kernel), tyX7_ok, nmX7, by decide +kernel⟩
theorem fl_X7_15 : zFl RX7 15 7 1 := ⟨RX7, TX7, 10, tyX7, rfl, by decide, rfl, inW7, by decide, zIn 58 (by decide +kernel) (by decide +kernel), tyX7_ok, nmX7, by decide +kernel⟩
theorem fl_X7_18 : zFl RX7 18 7 2 := ⟨RX7, TX7, 10, tyX7, rfl, by decide, rfl, inW7, by decide, zIn 59 (by decide +kernel) (by decide +kernel), tyX7_ok, nmX7, by decide +kernel⟩
theorem fl_X7_21 : zFl RX7 21 7 3 := ⟨RX7, TX7, 10, tyX7, rfl, by decide, rfl, inW7, by decide, zIn 60 (by decide +kernel) (by decide +kernel), tyX7_ok, nmX7, by decide +kernel⟩
theorem fl_X7_24 : zFl RX7 24 7 5 := ⟨RX7, TX7, 10, tyX7, rfl, by decide, rfl, inW7, by decide, zIn 62 (by decide +kernel) (by decide +kernel), tyX7_ok, nmX7, by decide +kernel⟩
theorem fl_X7_27 : zFl RX7 27 7 6 := ⟨RX7, TX7, 10, tyX7, rfl, by decide, rfl, inW7, by decide, zIn 63 (by decide +kernel) (by decide +kernel), tyX7_ok, nmX7, by decide +kernel⟩
theorem fl_X7_30 : zFl RX7 30 7 7 := ⟨RX7, TX7, 10, tyX7, rfl, by decide, rfl, inW7, by decide, zIn 64 (by decide +kernel) (by decide +kernel), tyX7_ok, nmX7, by decide +kernel⟩
theorem fl_X7_34 : zFl RX7 34 7 8 := ⟨RX7, TX7, 10, tyX7, rfl, by decide, rfl, inW7, by decide, zIn 65 (by decide +kernel) (by decide +kernel), tyX7_ok, nmX7, by decide +kernel⟩
theorem fl_X7_37 : zFl RX7 37 7 4 := ⟨RX7, TX7, 10, tyX7, rfl, by decide, rfl, inW7, by decide, zIn 61 (by decide +kernel) (by decide +kernel), tyX7_ok, nmX7, by decide +kernel⟩
theorem fl_X7_45 : zFl RX7 45 7 9 := ⟨RX7, TX7, 10, tyX7, rfl, by decide, rfl, inW7, by decide, zIn 66 (by decide +kernel) (by decide +kernel), tyX7_ok, nmX7, by decide +kernel⟩
theorem fl_X8_9 : zFl RX8 9 8 0 := ⟨RX8, TX8, 2, tyX8, rfl, by decide, rfl, inW8, by decide, zIn 141 (by decide +kernel) (by decide +kernel), tyX8_ok, nmX8, by decide +kernel⟩
theorem fl_X8_15 : zFl RX8 15 8 1 := ⟨RX8, TX8, 2, tyX8, rfl, by decide, rfl, inW8, by decide, zIn 142 (by decide +kernel) (by decide +kernel), tyX8_ok, nmX8, by decide +kernel⟩
theorem fl_X9_11 : zFl RX9 11 9 0 := ⟨RX9, TX9, 2, tyX9, rfl, by decide, rfl, inW9, by decide, zIn 43 (by decide +kernel) (by decide +kernel), tyX9_ok, nmX9, by decide +kernel⟩
theorem fl_X9_15 : zFl RX9 15 9 1 := ⟨RX9, TX9, 2, tyX9, rfl, by decide, rfl, inW9, by decide, zIn 44 (by decide +kernel) (by decide +kernel), tyX9_ok, nmX9, by decide +kernel⟩
theorem fl_X10_9 : zFl RX10 9 10 0 := ⟨RX10, TX10, 2, tyX10, rfl, by decide, rfl, inW10, by decide, zIn 29 (by decide +kernel) (by decide +kernel), tyX10_ok, nmX10, by decide +kernel⟩
theorem fl_X10_15 : zFl RX10 15 10 1 := ⟨RX10, TX10, 2, tyX10, rfl, by decide, rfl, inW10, by decide, zIn 30 (by decide +kernel) (by decide +kernel), tyX10_ok, nmX10, by decide +kernel⟩
theorem fl_X12_7 : zFl RX12 7 12 0 := ⟨RX12, TX12, 39, tyX12, rfl, by decide, rfl, inW12, by decide, zIn 921 (by decide +kernel) (by decide +kernel), tyX12_ok, nmX12, by decide +kernel⟩
theorem fl_X12_13 : zFl RX12 13 12 1 := ⟨RX12, TX12, 39, tyX12, rfl, by decide, rfl, inW12, by decide, zIn 922 (by decide +kernel) (by decide +kernel), tyX12_ok, nmX12, by decide +kernel⟩
theorem fl_X12_16 : zFl RX12 16 12 2 := ⟨RX12, TX12, 39, tyX12, rfl, by decide, rfl, inW12, by decide, zIn 923 (by decide +kernel) (by decide +kernel), tyX12_ok, nmX12, by decide +kernel⟩
theorem fl_X12_19 : zFl RX12 19 12 3 := ⟨RX12, TX12, 39, tyX12, rfl, by decide, rfl, inW12, by decide, zIn 924 (by decide +kernel) (by decide +kernel), tyX12_ok, nmX12, by decide +kernel⟩
theorem fl_X12_22 : zFl RX12 22 12 4 := ⟨RX12, TX12, 39, tyX12, rfl, by decide, rfl, inW12, by decide, zIn 925 (by decide +kernel) (by decide +kernel), tyX12_ok, nmX12, by decide +kernel⟩
theorem fl_X12_25 : zFl RX12 25 12 5 := ⟨RX12, TX12, 39, tyX12, rfl, by decide, rfl, inW12, by decide, zIn 926 (by decide +kernel) (by decide +kernel), tyX12_ok, nmX12, by decide +kernel⟩
theorem fl_X12_28 : zFl RX12 28 12 6 := ⟨RX12, TX12, 39, tyX12, rfl, by decide, rfl, inW12, by decide, zIn 927 (by decide +kernel) (by decide +kernel), tyX12_ok, nmX12, by decide +kernel⟩
theorem fl_X12_31 : zFl RX12 31 12 7 := ⟨RX12, TX12, 39, tyX12, rfl, by decide, rfl, inW12, by decide, zIn 928 (by decide +kernel) (by decide +kernel), tyX12_ok, nmX12, by decide +kernel⟩
theorem fl_X12_34 : zFl RX12 34 12 8 := ⟨RX12, TX12, 39, tyX12, rfl, by decide, rfl, inW12, by decide, zIn 929 (by decide +kernel) (by decide +kernel), tyX12_ok, nmX12, by decide +kernel⟩
theorem fl_X12_37 : zFl RX12 37 12 9 := ⟨RX12, TX12, 39, tyX12, rfl, by decide, rfl, inW12, by decide, zIn 930 (by decide +kernel) (by decide +kernel), tyX12_ok, nmX12, by decide +kernel⟩
theorem fl_X12_40 : zFl RX12 40 12 18 := ⟨RX12, TX12, 39, tyX12, rfl, by decide, rfl, inW12, by decide, zIn 939 (by decide +kernel) (by decide +kernel), tyX12_ok, nmX12, by decide +kernel⟩
theorem fl_X12_44 : zFl RX12 44 12 19 := ⟨RX12, TX12, 39, tyX12, rfl, by decide, rfl, inW12, by decide, zIn 940 (by decide +kernel) (by decide +kernel), tyX12_ok, nmX12, by decide +kernel⟩
theorem fl_X12_47 : zFl RX12 47 12 20 := ⟨RX12, TX12, 39, tyX12, rfl, by decide, rfl, inW12, by decide, zIn 941 (by decide +kernel) (by decide +kernel), tyX12_ok, nmX12, by decide +kernel⟩
theorem fl_X12_50 : zFl RX12 50 12 21 := ⟨RX12, TX12, 39, tyX12, rfl, by decide, rfl, inW12, by decide, zIn 942 (by decide +kernel) (by decide +kernel), tyX12_ok, nmX12, by decide +kernel⟩
theorem fl_X12_53 : zFl RX12 53 12 22 := ⟨RX12, TX12, 39, tyX12, rfl, by decide, rfl, inW12, by decide, zIn 943 (by decide +kernel) (by decide +kernel), tyX12_ok, nmX12, by decide +kernel⟩
theorem fl_X12_56 : zFl RX12 56 12 23 := ⟨RX12, TX12, 39, tyX12, rfl, by decide, rfl, inW12, by decide, zIn 944 (by decide +kernel) (by decide +kernel), tyX12_ok, nmX12, by decide +kernel⟩
theorem fl_X12_59 : zFl RX12 59 12 24 := ⟨RX12, TX12, 39, tyX12, rfl, by decide, rfl, inW12, by decide, zIn 945 (by decide +kernel) (by decide +kernel), tyX12_ok, nmX12, by decide +kernel⟩
theorem fl_X12_62 : zFl RX12 62 12 25 := ⟨RX12, TX12, 39, tyX12, rfl, by decide, rfl, inW12, by decide, zIn 946 (by decide +kernel) (by decide +kernel), tyX12_ok, nmX12, by decide +kernel⟩
theorem fl_X12_65 : zFl RX12 65 12 28 := ⟨RX12, TX12, 39, tyX12, rfl, by decide, rfl, inW12, by decide, zIn 949 (by decide +kernel) (by decide +kernel), tyX12_ok, nmX12, by decide +kernel⟩
theorem fl_X12_69 : zFl RX12 69 12 32 := ⟨RX12, TX12, 39, tyX12, rfl, by decide, rfl, inW12, by decide, zIn 953 (by decide +kernel) (by decide +kernel), tyX12_ok, nmX12, by decide +kernel⟩
theorem fl_X12_72 : zFl RX12 72 12 33 := ⟨RX12, TX12, 39, tyX12, rfl, by decide, rfl, inW12, by decide, zIn 954 (by decide +kernel) (by decide +kernel), tyX12_ok, nmX12, by decide +kernel⟩
theorem fl_X12_75 : zFl RX12 75 12 35 := ⟨RX12, TX12, 39, tyX12, rfl, by decide, rfl, inW12, by decide, zIn 956 (by decide +kernel) (by decide +kernel), tyX12_ok, nmX12, by decide +kernel⟩
theorem fl_X12_79 : zFl RX12 79 12 36 := ⟨RX12, TX12, 39, tyX12, rfl, by decide, rfl, inW12, by decide, zIn 957 (by decide +kernel) (by decide +kernel), tyX12_ok, nmX12, by decide +kernel⟩
theorem fl_X12_82 : zFl RX12 82 12 38 := ⟨RX12, TX12, 39, tyX12, rfl, by decide, rfl, inW12, by decide, zIn 959 (by decide +kernel) (by decide +kernel), tyX12_ok, nmX12, by decide +kernel⟩
theorem fl_X12_85 : zFl RX12 85 12 10 := ⟨RX12, TX12, 39, tyX12, rfl, by decide, rfl, inW12, by decide, zIn 931 (by decide +kernel) (by decide +kernel), tyX12_ok, nmX12, by decide +kernel⟩
theorem fl_X12_95 : zFl RX12 95 12 11 := ⟨RX12, TX12, 39, tyX12, rfl, by decide, rfl, inW12, by decide, zIn 932 (by decide +kernel) (by decide +kernel), tyX12_ok, nmX12, by decide +kernel⟩
theorem fl_X12_125 : zFl RX12 125 12 30 := ⟨RX12, TX12, 39, tyX12, rfl, by decide, rfl, inW12, by decide, zIn 951 (by decide +kernel) (by decide +kernel), tyX12_ok, nmX12, by decide +kernel⟩
theorem fl_X12_129 : zFl RX12 129 12 26 := ⟨RX12, TX12, 39, tyX12, rfl, by decide, rfl, inW12, by decide, zIn 947 (by decide +kernel) (by decide +kernel), tyX12_ok, nmX12, by decide +kernel⟩
theorem fl_X12_132 : zFl RX12 132 12 27 := ⟨RX12, TX12, 39, tyX12, rfl, by decide, rfl, inW12, by decide, zIn 948 (by decide +kernel) (by decide +kernel), tyX12_ok, nmX12, by decide +kernel⟩
theorem fl_X12_139 : zFl RX12 139 12 31 := ⟨RX12, TX12, 39, tyX12, rfl, by decide, rfl, inW12, by decide, zIn 952 (by decide +kernel) (by decide +kernel), tyX12_ok, nmX12, by decide +kernel⟩
theorem fl_X12_170 : zFl RX12 170 12 29 := ⟨RX12, TX12, 39, tyX12, rfl, by decide, rfl, inW12, by decide, zIn 950 (by decide +kernel) (by decide +kernel), tyX12_ok, nmX12, by decide +kernel⟩
theorem fl_X12_185 : zFl RX12 185 12 34 := ⟨RX12, TX12, 39, tyX12, rfl, by decide, rfl, inW12, by decide, zIn 955 (by decide +kernel) (by decide +kernel), tyX12_ok, nmX12, by decide +kernel⟩
theorem fl_X12_191 : zFl RX12 191 12 12 := ⟨RX12, TX12, 39, tyX12, rfl, by decide, rfl, inW12, by decide, zIn 933 (by decide +kernel) (by decide +kernel), tyX12_ok, nmX12, by decide +kernel⟩
theorem fl_X12_194 : zFl RX12 194 12 37 := ⟨RX12, TX12, 39, tyX12, rfl, by decide, rfl, inW12, by decide, zIn 958 (by decide +kernel) (by decide +kernel), tyX12_ok, nmX12, by decide +kernel⟩
theorem fl_X12_223 : zFl RX12 223 12 13 := ⟨RX12, TX12, 39, tyX12, rfl, by decide, rfl, inW12, by decide, zIn 934 (by decide +kernel) (by decide +kernel), tyX12_ok, nmX12, by decide +kernel⟩
theorem fl_X12_230 : zFl RX12 230 12 14 := ⟨RX12, TX12, 39, tyX12, rfl, by decide, rfl, inW12, by decide, zIn 935 (by decide +kernel) (by decide +kernel), tyX12_ok, nmX12, by decide +kernel⟩
theorem fl_X12_233 : zFl RX12 233 12 15 := ⟨RX12, TX12, 39, tyX12, rfl, by decide, rfl, inW12, by decide, zIn 936 (by decide +kernel) (by decide +kernel), tyX12_ok, nmX12, by decide +kernel⟩
theorem fl_X12_236 : zFl RX12 236 12 16 := ⟨RX12, TX12, 39, tyX12, rfl, by decide, rfl, inW12, by decide, zIn 937 (by decide +kernel) (by decide +kernel), tyX12_ok, nmX12, by decide +kernel⟩
theorem fl_X12_239 : zFl RX12 239 12 17 := ⟨RX12, TX12, 39, tyX12, rfl, by decide, rfl, inW12, by decide, zIn 938 (by decide +kernel) (by decide +kernel), tyX12_ok, nmX12, by decide +kernel⟩
theorem mv_X11_feed : zMv yX11_feed cX11_feed 5 (Option.some FieldType.int) 2 := ⟨zIn 333 (by decide +kernel) (by decide +kernel), zIn 1 (by decide +kernel) (by decide +kernel), zIn 331 (by decide +kernel) (by decide +kernel), zIn 332 (by decide +kernel) (by decide +kernel), by decide +kernel, by decide +kernel, by decide +kernel⟩
theorem mv_X11_read : zMv yX11_read cX11_read 2 (Option.some FieldType.int) 0 := ⟨zIn 345 (by decide +kernel) (by decide +kernel), zIn 1 (by decide +kernel) (by decide +kernel), zIn 343 (by decide +kernel) (by decide +kernel), zIn 344 (by decide +kernel) (by decide +kernel), by decide +kernel, by decide +kernel, by decide +kernel⟩
theorem mv_X11_wordAt : zMv yX11_wordAt cX11_wordAt 2 (Option.some FieldType.int) 1 := ⟨zIn 374 (by decide +kernel) (by decide +kernel), zIn 1 (by decide +kernel) (by decide +kernel), zIn 372 (by decide +kernel) (by decide +kernel), zIn 373 (by decide +kernel) (by decide +kernel), by decide +kernel, by decide +kernel, by decide +kernel⟩
theorem mv_X11_readings : zMv yX11_readings cX11_readings 1 (Option.some FieldType.long) 0 := ⟨zIn 379 (by decide +kernel) (by decide +kernel), zIn 1 (by decide +kernel) (by decide +kernel), zIn 377 (by decide +kernel) (by decide +kernel), zIn 378 (by decide +kernel) (by decide +kernel), by decide +kernel, by decide +kernel, by decide +kernel⟩
theorem mv_X11_nodes : zMv yX11_nodes cX11_nodes 2 (Option.some FieldType.int) 1 := ⟨zIn 384 (by decide +kernel) (by decide +kernel), zIn 1 (by decide +kernel) (by decide +kernel), zIn 382 (by decide +kernel) (by decide +kernel), zIn 383 (by decide +kernel) (by decide +kernel), by decide +kernel, by decide +kernel, by decide +kernel⟩
theorem mv_X11_node : zMv yX11_node cX11_node 4 (Option.some FieldType.int) 3 := ⟨zIn 522 (by decide +kernel) (by decide +kernel), zIn 1 (by decide +kernel) (by decide +kernel), zIn 520 (by decide +kernel) (by decide +kernel), zIn 521 (by decide +kernel) (by decide +kernel), by decide +kernel, by decide +kernel, by decide +kernel⟩
theorem mv_X11_means : zMv yX11_means cX11_means 2 (Option.some FieldType.long) 1 := ⟨zIn 529 (by decide +kernel) (by decide +kernel), zIn 1 (by decide +kernel) (by decide +kernel), zIn 527 (by decide +kernel) (by decide +kernel), zIn 528 (by decide +kernel) (by decide +kernel), by decide +kernel, by decide +kernel, by decide +kernel⟩
theorem mv_X11_lets : zMv yX11_lets cX11_lets 3 (Option.some FieldType.int) 2 := ⟨zIn 538 (by decide +kernel) (by decide +kernel), zIn 1 (by decide +kernel) (by decide +kernel), zIn 536 (by decide +kernel) (by decide +kernel), zIn 537 (by decide +kernel) (by decide +kernel), by decide +kernel, by decide +kernel, by decide +kernel⟩
theorem mv_X11_map : zMv yX11_map cX11_map 2 (Option.some FieldType.int) 1 := ⟨zIn 548 (by decide +kernel) (by decide +kernel), zIn 1 (by decide +kernel) (by decide +kernel), zIn 546 (by decide +kernel) (by decide +kernel), zIn 547 (by decide +kernel) (by decide +kernel), by decide +kernel, by decide +kernel, by decide +kernel⟩
theorem mv_X11_all : zMv yX11_all cX11_all 2 (Option.some FieldType.long) 1 := ⟨zIn 558 (by decide +kernel) (by decide +kernel), zIn 1 (by decide +kernel) (by decide +kernel), zIn 556 (by decide +kernel) (by decide +kernel), zIn 557 (by decide +kernel) (by decide +kernel), by decide +kernel, by decide +kernel, by decide +kernel⟩
theorem mv_X11_same : zMv yX11_same cX11_same 3 (Option.some FieldType.int) 2 := ⟨zIn 572 (by decide +kernel) (by decide +kernel), zIn 1 (by decide +kernel) (by decide +kernel), zIn 570 (by decide +kernel) (by decide +kernel), zIn 571 (by decide +kernel) (by decide +kernel), by decide +kernel, by decide +kernel, by decide +kernel⟩
theorem mv_X11_unlike : zMv yX11_unlike cX11_unlike 1 (Option.some FieldType.int) 0 := ⟨zIn 576 (by decide +kernel) (by decide +kernel), zIn 1 (by decide +kernel) (by decide +kernel), zIn 574 (by decide +kernel) (by decide +kernel), zIn 575 (by decide +kernel) (by decide +kernel), by decide +kernel, by decide +kernel, by decide +kernel⟩
theorem mv_X11_part : zMv yX11_part cX11_part 3 (Option.some FieldType.int) 2 := ⟨zIn 596 (by decide +kernel) (by decide +kernel), zIn 1 (by decide +kernel) (by decide +kernel), zIn 594 (by decide +kernel) (by decide +kernel), zIn 595 (by decide +kernel) (by decide +kernel), by decide +kernel, by decide +kernel, by decide +kernel⟩
theorem mv_X11_idle : zMv yX11_idle cX11_idle 2 (Option.some FieldType.int) 1 := ⟨zIn 603 (by decide +kernel) (by decide +kernel), zIn 1 (by decide +kernel) (by decide +kernel), zIn 601 (by decide +kernel) (by decide +kernel), zIn 602 (by decide +kernel) (by decide +kernel), by decide +kernel, by decide +kernel, by decide +kernel⟩
theorem mv_X11_needless : zMv yX11_needless cX11_needless 1 (Option.some FieldType.int) 0 := ⟨zIn 612 (by decide +kernel) (by decide +kernel), zIn 1 (by decide +kernel) (by decide +kernel), zIn 610 (by decide +kernel) (by decide +kernel), zIn 611 (by decide +kernel) (by decide +kernel), by decide +kernel, by decide +kernel, by decide +kernel⟩
theorem mv_X11_meets : zMv yX11_meets cX11_meets 3 (Option.some FieldType.int) 2 := ⟨zIn 621 (by decide +kernel) (by decide +kernel), zIn 1 (by decide +kernel) (by decide +kernel), zIn 619 (by decide +kernel) (by decide +kernel), zIn 620 (by decide +kernel) (by decide +kernel), by decide +kernel, by decide +kernel, by decide +kernel⟩
theorem mv_X11_choose : zMv yX11_choose cX11_choose 2 (Option.some FieldType.int) 1 := ⟨zIn 632 (by decide +kernel) (by decide +kernel), zIn 1 (by decide +kernel) (by decide +kernel), zIn 630 (by decide +kernel) (by decide +kernel), zIn 631 (by decide +kernel) (by decide +kernel), by decide +kernel, by decide +kernel, by decide +kernel⟩
theorem mv_X11_unchoose : zMv yX11_unchoose cX11_unchoose 2 (Option.some FieldType.int) 0 := ⟨zIn 654 (by decide +kernel) (by decide +kernel), zIn 1 (by decide +kernel) (by decide +kernel), zIn 652 (by decide +kernel) (by decide +kernel), zIn 653 (by decide +kernel) (by decide +kernel), by decide +kernel, by decide +kernel, by decide +kernel⟩
theorem mv_X11_leftOver : zMv yX11_leftOver cX11_leftOver 2 (Option.some FieldType.int) 1 := ⟨zIn 662 (by decide +kernel) (by decide +kernel), zIn 1 (by decide +kernel) (by decide +kernel), zIn 660 (by decide +kernel) (by decide +kernel), zIn 661 (by decide +kernel) (by decide +kernel), by decide +kernel, by decide +kernel, by decide +kernel⟩
theorem mv_X11_passedOver : zMv yX11_passedOver cX11_passedOver 1 (Option.some FieldType.int) 0 := ⟨zIn 689 (by decide +kernel) (by decide +kernel), zIn 1 (by decide +kernel) (by decide +kernel), zIn 687 (by decide +kernel) (by decide +kernel), zIn 688 (by decide +kernel) (by decide +kernel), by decide +kernel, by decide +kernel, by decide +kernel⟩
theorem mv_X11_quarrel : zMv yX11_quarrel cX11_quarrel 3 (Option.some FieldType.int) 2 := ⟨zIn 697 (by decide +kernel) (by decide +kernel), zIn 1 (by decide +kernel) (by decide +kernel), zIn 695 (by decide +kernel) (by decide +kernel), zIn 696 (by decide +kernel) (by decide +kernel), by decide +kernel, by decide +kernel, by decide +kernel⟩
theorem mv_X11_hangs : zMv yX11_hangs cX11_hangs 3 (Option.some FieldType.int) 0 := ⟨zIn 706 (by decide +kernel) (by decide +kernel), zIn 1 (by decide +kernel) (by decide +kernel), zIn 704 (by decide +kernel) (by decide +kernel), zIn 705 (by decide +kernel) (by decide +kernel), by decide +kernel, by decide +kernel, by decide +kernel⟩
theorem mv_X11_test : zMv yX11_test cX11_test 1 (Option.some FieldType.int) 0 := ⟨zIn 714 (by decide +kernel) (by decide +kernel), zIn 1 (by decide +kernel) (by decide +kernel), zIn 712 (by decide +kernel) (by decide +kernel), zIn 713 (by decide +kernel) (by decide +kernel), by decide +kernel, by decide +kernel, by decide +kernel⟩
theorem mv_X11_fewest : zMv yX11_fewest cX11_fewest 1 (Option.some FieldType.int) 0 := ⟨zIn 726 (by decide +kernel) (by decide +kernel), zIn 1 (by decide +kernel) (by decide +kernel), zIn 724 (by decide +kernel) (by decide +kernel), zIn 725 (by decide +kernel) (by decide +kernel), by decide +kernel, by decide +kernel, by decide +kernel⟩
theorem mv_X11_bracket : zMv yX11_bracket cX11_bracket 3 (Option.some FieldType.int) 2 := ⟨zIn 743 (by decide +kernel) (by decide +kernel), zIn 1 (by decide +kernel) (by decide +kernel), zIn 741 (by decide +kernel) (by decide +kernel), zIn 742 (by decide +kernel) (by decide +kernel), by decide +kernel, by decide +kernel, by decide +kernel⟩
theorem mv_X11_mend : zMv yX11_mend cX11_mend 3 (Option.some FieldType.int) 1 := ⟨zIn 758 (by decide +kernel) (by decide +kernel), zIn 1 (by decide +kernel) (by decide +kernel), zIn 756 (by decide +kernel) (by decide +kernel), zIn 757 (by decide +kernel) (by decide +kernel), by decide +kernel, by decide +kernel, by decide +kernel⟩
theorem mv_X11_aim : zMv yX11_aim cX11_aim 3 (Option.some FieldType.int) 2 := ⟨zIn 784 (by decide +kernel) (by decide +kernel), zIn 1 (by decide +kernel) (by decide +kernel), zIn 782 (by decide +kernel) (by decide +kernel), zIn 783 (by decide +kernel) (by decide +kernel), by decide +kernel, by decide +kernel, by decide +kernel⟩
theorem mv_X11_serves : zMv yX11_serves cX11_serves 2 (Option.some FieldType.int) 1 := ⟨zIn 797 (by decide +kernel) (by decide +kernel), zIn 1 (by decide +kernel) (by decide +kernel), zIn 795 (by decide +kernel) (by decide +kernel), zIn 796 (by decide +kernel) (by decide +kernel), by decide +kernel, by decide +kernel, by decide +kernel⟩
theorem mv_X11_best : zMv yX11_best cX11_best 3 (Option.some FieldType.int) 0 := ⟨zIn 808 (by decide +kernel) (by decide +kernel), zIn 1 (by decide +kernel) (by decide +kernel), zIn 806 (by decide +kernel) (by decide +kernel), zIn 807 (by decide +kernel) (by decide +kernel), by decide +kernel, by decide +kernel, by decide +kernel⟩
theorem mv_X11_image : zMv yX11_image cX11_image 1 (Option.some FieldType.int) 0 := ⟨zIn 812 (by decide +kernel) (by decide +kernel), zIn 1 (by decide +kernel) (by decide +kernel), zIn 810 (by decide +kernel) (by decide +kernel), zIn 811 (by decide +kernel) (by decide +kernel), by decide +kernel, by decide +kernel, by decide +kernel⟩
theorem mv_X11_on : zMv yX11_on cX11_on 1 (Option.some FieldType.int) 0 := ⟨zIn 832 (by decide +kernel) (by decide +kernel), zIn 1 (by decide +kernel) (by decide +kernel), zIn 830 (by decide +kernel) (by decide +kernel), zIn 831 (by decide +kernel) (by decide +kernel), by decide +kernel, by decide +kernel, by decide +kernel⟩
theorem mv_X11_count : zMv yX11_count cX11_count 2 (Option.some FieldType.int) 1 := ⟨zIn 854 (by decide +kernel) (by decide +kernel), zIn 1 (by decide +kernel) (by decide +kernel), zIn 852 (by decide +kernel) (by decide +kernel), zIn 853 (by decide +kernel) (by decide +kernel), by decide +kernel, by decide +kernel, by decide +kernel⟩
theorem mv_X11_refuse : zMv yX11_refuse cX11_refuse 2 (Option.some FieldType.int) 1 := ⟨zIn 337 (by decide +kernel) (by decide +kernel), zIn 1 (by decide +kernel) (by decide +kernel), zIn 336 (by decide +kernel) (by decide +kernel), zInP 2 (by decide +kernel) (by decide +kernel), by decide +kernel, by decide +kernel, by decide +kernel⟩
theorem mv_X11_takeSentence : zMv yX11_takeSentence cX11_takeSentence 2 (Option.none : Option FieldType) 1 := ⟨zIn 356 (by decide +kernel) (by decide +kernel), zIn 1 (by decide +kernel) (by decide +kernel), zIn 355 (by decide +kernel) (by decide +kernel), zInP 3 (by decide +kernel) (by decide +kernel), by decide +kernel, by decide +kernel, by decide +kernel⟩
theorem mv_X11_spent : zMv yX11_spent cX11_spent 3 (Option.some FieldType.boolean) 0 := ⟨zIn 388 (by decide +kernel) (by decide +kernel), zIn 1 (by decide +kernel) (by decide +kernel), zIn 387 (by decide +kernel) (by decide +kernel), zInP 4 (by decide +kernel) (by decide +kernel), by decide +kernel, by decide +kernel, by decide +kernel⟩
theorem mv_X11_noReading : zMv yX11_noReading cX11_noReading 2 (Option.some FieldType.boolean) 1 := ⟨zIn 512 (by decide +kernel) (by decide +kernel), zIn 1 (by decide +kernel) (by decide +kernel), zIn 511 (by decide +kernel) (by decide +kernel), zInP 14 (by decide +kernel) (by decide +kernel), by decide +kernel, by decide +kernel, by decide +kernel⟩
theorem mv_X11_noCase : zMs yX11_noCase cX11_noCase 1 (Option.some FieldType.boolean) 1 := ⟨zIn 541 (by decide +kernel) (by decide +kernel), zIn 1 (by decide +kernel) (by decide +kernel), zIn 540 (by decide +kernel) (by decide +kernel), by decide +kernel, by decide +kernel, by decide +kernel⟩
theorem mv_X11_noRule : zMs yX11_noRule cX11_noRule 1 (Option.some FieldType.boolean) 1 := ⟨zIn 624 (by decide +kernel) (by decide +kernel), zIn 1 (by decide +kernel) (by decide +kernel), zIn 623 (by decide +kernel) (by decide +kernel), by decide +kernel, by decide +kernel, by decide +kernel⟩
theorem mv_X11_kindOf : zMs yX11_kindOf cX11_kindOf 1 (Option.some FieldType.int) 1 := ⟨zIn 265 (by decide +kernel) (by decide +kernel), zIn 1 (by decide +kernel) (by decide +kernel), zIn 264 (by decide +kernel) (by decide +kernel), by decide +kernel, by decide +kernel, by decide +kernel⟩
theorem mv_X11_casesOf : zMs yX11_casesOf cX11_casesOf 2 (Option.some FieldType.long) 1 := ⟨zIn 464 (by decide +kernel) (by decide +kernel), zIn 1 (by decide +kernel) (by decide +kernel), zIn 463 (by decide +kernel) (by decide +kernel), by decide +kernel, by decide +kernel, by decide +kernel⟩
theorem mv_X11_isJoin : zMs yX11_isJoin cX11_isJoin 1 (Option.some FieldType.boolean) 1 := ⟨zIn 286 (by decide +kernel) (by decide +kernel), zIn 1 (by decide +kernel) (by decide +kernel), zIn 285 (by decide +kernel) (by decide +kernel), by decide +kernel, by decide +kernel, by decide +kernel⟩
theorem mv_X11_bit : zMs yX11_bit cX11_bit 3 (Option.some FieldType.int) 2 := ⟨zIn 544 (by decide +kernel) (by decide +kernel), zIn 1 (by decide +kernel) (by decide +kernel), zIn 543 (by decide +kernel) (by decide +kernel), by decide +kernel, by decide +kernel, by decide +kernel⟩
theorem mv_X11_leastCase : zMs yX11_leastCase cX11_leastCase 3 (Option.some FieldType.int) 1 := ⟨zIn 599 (by decide +kernel) (by decide +kernel), zIn 1 (by decide +kernel) (by decide +kernel), zIn 598 (by decide +kernel) (by decide +kernel), by decide +kernel, by decide +kernel, by decide +kernel⟩
theorem mv_X11_look : zMs yX11_look cX11_look 2 (Option.some FieldType.int) 2 := ⟨zIn 258 (by decide +kernel) (by decide +kernel), zIn 1 (by decide +kernel) (by decide +kernel), zIn 257 (by decide +kernel) (by decide +kernel), by decide +kernel, by decide +kernel, by decide +kernel⟩
theorem mv_X11_look_ : zMs yX11_look_ cX11_look_ 2 (Option.some FieldType.long) 2 := ⟨zIn 276 (by decide +kernel) (by decide +kernel), zIn 1 (by decide +kernel) (by decide +kernel), zIn 275 (by decide +kernel) (by decide +kernel), by decide +kernel, by decide +kernel, by decide +kernel⟩
theorem mv_X11_put : zMs yX11_put cX11_put 3 (Option.none : Option FieldType) 3 := ⟨zIn 243 (by decide +kernel) (by decide +kernel), zIn 1 (by decide +kernel) (by decide +kernel), zIn 242 (by decide +kernel) (by decide +kernel), by decide +kernel, by decide +kernel, by decide +kernel⟩
theorem mv_X11_put_ : zMs yX11_put_ cX11_put_ 4 (Option.none : Option FieldType) 3 := ⟨zIn 279 (by decide +kernel) (by decide +kernel), zIn 1 (by decide +kernel) (by decide +kernel), zIn 278 (by decide +kernel) (by decide +kernel), by decide +kernel, by decide +kernel, by decide +kernel⟩
theorem mv_X12_refuse : zMv yX12_refuse cX12_refuse 2 (Option.some FieldType.int) 1 := ⟨zIn 1047 (by decide +kernel) (by decide +kernel), zIn 13 (by decide +kernel) (by decide +kernel), zIn 1046 (by decide +kernel) (by decide +kernel), zInP 30 (by decide +kernel) (by decide +kernel), by decide +kernel, by decide +kernel, by decide +kernel⟩
theorem mv_X12_isIn : zMs yX12_isIn cX12_isIn 2 (Option.some FieldType.boolean) 2 := ⟨zIn 1062 (by decide +kernel) (by decide +kernel), zIn 13 (by decide +kernel) (by decide +kernel), zIn 1061 (by decide +kernel) (by decide +kernel), by decide +kernel, by decide +kernel, by decide +kernel⟩
theorem mv_X12_within : zMs yX12_within cX12_within 3 (Option.some FieldType.int) 3 := ⟨zIn 1198 (by decide +kernel) (by decide +kernel), zIn 13 (by decide +kernel) (by decide +kernel), zIn 1197 (by decide +kernel) (by decide +kernel), by decide +kernel, by decide +kernel, by decide +kernel⟩
theorem mv_X12_feed : zMv yX12_feed cX12_feed 5 (Option.some FieldType.int) 2 := ⟨zIn 1043 (by decide +kernel) (by decide +kernel), zIn 13 (by decide +kernel) (by decide +kernel), zIn 1041 (by decide +kernel) (by decide +kernel), zIn 1042 (by decide +kernel) (by decide +kernel), by decide +kernel, by decide +kernel, by decide +kernel⟩
theorem mv_X12_isLetter : zMs yX12_isLetter cX12_isLetter 1 (Option.some FieldType.boolean) 1 := ⟨zIn 882 (by decide +kernel) (by decide +kernel), zIn 13 (by decide +kernel) (by decide +kernel), zIn 881 (by decide +kernel) (by decide +kernel), by decide +kernel, by decide +kernel, by decide +kernel⟩
theorem mv_X12_kindOf : zMs yX12_kindOf cX12_kindOf 1 (Option.some FieldType.int) 1 := ⟨zIn 893 (by decide +kernel) (by decide +kernel), zIn 13 (by decide +kernel) (by decide +kernel), zIn 892 (by decide +kernel) (by decide +kernel), by decide +kernel, by decide +kernel, by decide +kernel⟩
theorem mv_X12_fault : zMs yX12_fault cX12_fault 6 (Option.some FieldType.int) 2 := ⟨zIn 1055 (by decide +kernel) (by decide +kernel), zIn 13 (by decide +kernel) (by decide +kernel), zIn 1054 (by decide +kernel) (by decide +kernel), by decide +kernel, by decide +kernel, by decide +kernel⟩
theorem mv_X12_read : zMv yX12_read cX12_read 4 (Option.some FieldType.int) 0 := ⟨zIn 1052 (by decide +kernel) (by decide +kernel), zIn 13 (by decide +kernel) (by decide +kernel), zIn 1050 (by decide +kernel) (by decide +kernel), zIn 1051 (by decide +kernel) (by decide +kernel), by decide +kernel, by decide +kernel, by decide +kernel⟩
theorem mv_X12_wordAt : zMv yX12_wordAt cX12_wordAt 2 (Option.some FieldType.int) 1 := ⟨zIn 1059 (by decide +kernel) (by decide +kernel), zIn 13 (by decide +kernel) (by decide +kernel), zIn 1057 (by decide +kernel) (by decide +kernel), zIn 1058 (by decide +kernel) (by decide +kernel), by decide +kernel, by decide +kernel, by decide +kernel⟩
theorem mv_X12_waysOf : zMv yX12_waysOf cX12_waysOf 3 (Option.some FieldType.long) 2 := ⟨zIn 886 (by decide +kernel) (by decide +kernel), zIn 13 (by decide +kernel) (by decide +kernel), zIn 885 (by decide +kernel) (by decide +kernel), zInP 23 (by decide +kernel) (by decide +kernel), by decide +kernel, by decide +kernel, by decide +kernel⟩
theorem mv_X12_isBracketed : zMv yX12_isBracketed cX12_isBracketed 3 (Option.some FieldType.boolean) 2 := ⟨zIn 890 (by decide +kernel) (by decide +kernel), zIn 13 (by decide +kernel) (by decide +kernel), zIn 889 (by decide +kernel) (by decide +kernel), zInP 24 (by decide +kernel) (by decide +kernel), by decide +kernel, by decide +kernel, by decide +kernel⟩
theorem mv_X12_firstWays : zMv yX12_firstWays cX12_firstWays 3 (Option.some FieldType.long) 2 := ⟨zIn 879 (by decide +kernel) (by decide +kernel), zIn 13 (by decide +kernel) (by decide +kernel), zIn 878 (by decide +kernel) (by decide +kernel), zInP 22 (by decide +kernel) (by decide +kernel), by decide +kernel, by decide +kernel, by decide +kernel⟩
theorem mv_X12_findWays : zMv yX12_findWays cX12_findWays 7 (Option.none : Option FieldType) 0 := ⟨zIn 875 (by decide +kernel) (by decide +kernel), zIn 13 (by decide +kernel) (by decide +kernel), zIn 874 (by decide +kernel) (by decide +kernel), zInP 21 (by decide +kernel) (by decide +kernel), by decide +kernel, by decide +kernel, by decide +kernel⟩
theorem mv_X12_readings : zMv yX12_readings cX12_readings 1 (Option.some FieldType.long) 0 := ⟨zIn 897 (by decide +kernel) (by decide +kernel), zIn 13 (by decide +kernel) (by decide +kernel), zIn 895 (by decide +kernel) (by decide +kernel), zIn 896 (by decide +kernel) (by decide +kernel), by decide +kernel, by decide +kernel, by decide +kernel⟩
theorem mv_X12_mask : zMs yX12_mask cX12_mask 4 (Option.some FieldType.long) 1 := ⟨zIn 871 (by decide +kernel) (by decide +kernel), zIn 13 (by decide +kernel) (by decide +kernel), zIn 870 (by decide +kernel) (by decide +kernel), by decide +kernel, by decide +kernel, by decide +kernel⟩
theorem mv_X12_notes : zMv yX12_notes cX12_notes 5 (Option.none : Option FieldType) 3 := ⟨zIn 910 (by decide +kernel) (by decide +kernel), zIn 13 (by decide +kernel) (by decide +kernel), zIn 909 (by decide +kernel) (by decide +kernel), zInP 27 (by decide +kernel) (by decide +kernel), by decide +kernel, by decide +kernel, by decide +kernel⟩
theorem mv_X12_breaks : zMv yX12_breaks cX12_breaks 3 (Option.none : Option FieldType) 2 := ⟨zIn 915 (by decide +kernel) (by decide +kernel), zIn 13 (by decide +kernel) (by decide +kernel), zIn 914 (by decide +kernel) (by decide +kernel), zInP 28 (by decide +kernel) (by decide +kernel), by decide +kernel, by decide +kernel, by decide +kernel⟩
theorem mv_X12_meansRun : zMv yX12_meansRun cX12_meansRun 21 (Option.some FieldType.long) 7 := ⟨zIn 906 (by decide +kernel) (by decide +kernel), zIn 13 (by decide +kernel) (by decide +kernel), zIn 905 (by decide +kernel) (by decide +kernel), zInP 26 (by decide +kernel) (by decide +kernel), by decide +kernel, by decide +kernel, by decide +kernel⟩
theorem mv_X12_meansNow : zMv yX12_meansNow cX12_meansNow 2 (Option.some FieldType.long) 1 := ⟨zIn 902 (by decide +kernel) (by decide +kernel), zIn 13 (by decide +kernel) (by decide +kernel), zIn 901 (by decide +kernel) (by decide +kernel), zInP 25 (by decide +kernel) (by decide +kernel), by decide +kernel, by decide +kernel, by decide +kernel⟩
theorem mv_X12_idleIn : zMv yX12_idleIn cX12_idleIn 6 (Option.some FieldType.int) 1 := ⟨zIn 920 (by decide +kernel) (by decide +kernel), zIn 13 (by decide +kernel) (by decide +kernel), zIn 919 (by decide +kernel) (by decide +kernel), zInP 29 (by decide +kernel) (by decide +kernel), by decide +kernel, by decide +kernel, by decide +kernel⟩
theorem mv_X12_finds : zMv yX12_finds cX12_finds 2 (Option.none : Option FieldType) 0 := ⟨zIn 868 (by decide +kernel) (by decide +kernel), zIn 13 (by decide +kernel) (by decide +kernel), zIn 867 (by decide +kernel) (by decide +kernel), zInP 20 (by decide +kernel) (by decide +kernel), by decide +kernel, by decide +kernel, by decide +kernel⟩
theorem mv_X12_wrong : zMv yX12_wrong cX12_wrong 2 (Option.some FieldType.int) 1 := ⟨zIn 1071 (by decide +kernel) (by decide +kernel), zIn 13 (by decide +kernel) (by decide +kernel), zIn 1070 (by decide +kernel) (by decide +kernel), zInP 31 (by decide +kernel) (by decide +kernel), by decide +kernel, by decide +kernel, by decide +kernel⟩
theorem mv_X12_nodes : zMv yX12_nodes cX12_nodes 3 (Option.some FieldType.int) 1 := ⟨zIn 1067 (by decide +kernel) (by decide +kernel), zIn 13 (by decide +kernel) (by decide +kernel), zIn 1065 (by decide +kernel) (by decide +kernel), zIn 1066 (by decide +kernel) (by decide +kernel), by decide +kernel, by decide +kernel, by decide +kernel⟩
theorem mv_X12_node : zMv yX12_node cX12_node 6 (Option.some FieldType.int) 3 := ⟨zIn 1075 (by decide +kernel) (by decide +kernel), zIn 13 (by decide +kernel) (by decide +kernel), zIn 1073 (by decide +kernel) (by decide +kernel), zIn 1074 (by decide +kernel) (by decide +kernel), by decide +kernel, by decide +kernel, by decide +kernel⟩
theorem mv_X12_means : zMv yX12_means cX12_means 3 (Option.some FieldType.long) 1 := ⟨zIn 1079 (by decide +kernel) (by decide +kernel), zIn 13 (by decide +kernel) (by decide +kernel), zIn 1077 (by decide +kernel) (by decide +kernel), zIn 1078 (by decide +kernel) (by decide +kernel), by decide +kernel, by decide +kernel, by decide +kernel⟩
theorem mv_X12_does : zMv yX12_does cX12_does 3 (Option.some FieldType.boolean) 2 := ⟨zIn 1087 (by decide +kernel) (by decide +kernel), zIn 13 (by decide +kernel) (by decide +kernel), zIn 1086 (by decide +kernel) (by decide +kernel), zInP 32 (by decide +kernel) (by decide +kernel), by decide +kernel, by decide +kernel, by decide +kernel⟩
theorem mv_X12_lets : zMv yX12_lets cX12_lets 4 (Option.some FieldType.int) 2 := ⟨zIn 1083 (by decide +kernel) (by decide +kernel), zIn 13 (by decide +kernel) (by decide +kernel), zIn 1081 (by decide +kernel) (by decide +kernel), zIn 1082 (by decide +kernel) (by decide +kernel), by decide +kernel, by decide +kernel, by decide +kernel⟩
theorem mv_X12_lettingOf : zMv yX12_lettingOf cX12_lettingOf 4 (Option.some FieldType.int) 1 := ⟨zIn 1095 (by decide +kernel) (by decide +kernel), zIn 13 (by decide +kernel) (by decide +kernel), zIn 1094 (by decide +kernel) (by decide +kernel), zInP 33 (by decide +kernel) (by decide +kernel), by decide +kernel, by decide +kernel, by decide +kernel⟩
theorem mv_X12_map : zMv yX12_map cX12_map 3 (Option.some FieldType.int) 1 := ⟨zIn 1091 (by decide +kernel) (by decide +kernel), zIn 13 (by decide +kernel) (by decide +kernel), zIn 1089 (by decide +kernel) (by decide +kernel), zIn 1090 (by decide +kernel) (by decide +kernel), by decide +kernel, by decide +kernel, by decide +kernel⟩
theorem mv_X12_all : zMv yX12_all cX12_all 5 (Option.some FieldType.long) 1 := ⟨zIn 1099 (by decide +kernel) (by decide +kernel), zIn 13 (by decide +kernel) (by decide +kernel), zIn 1097 (by decide +kernel) (by decide +kernel), zIn 1098 (by decide +kernel) (by decide +kernel), by decide +kernel, by decide +kernel, by decide +kernel⟩
theorem mv_X12_same : zMv yX12_same cX12_same 4 (Option.some FieldType.int) 2 := ⟨zIn 1103 (by decide +kernel) (by decide +kernel), zIn 13 (by decide +kernel) (by decide +kernel), zIn 1101 (by decide +kernel) (by decide +kernel), zIn 1102 (by decide +kernel) (by decide +kernel), by decide +kernel, by decide +kernel, by decide +kernel⟩
theorem mv_X12_findUnlike : zMv yX12_findUnlike cX12_findUnlike 4 (Option.none : Option FieldType) 0 := ⟨zIn 1111 (by decide +kernel) (by decide +kernel), zIn 13 (by decide +kernel) (by decide +kernel), zIn 1110 (by decide +kernel) (by decide +kernel), zInP 34 (by decide +kernel) (by decide +kernel), by decide +kernel, by decide +kernel, by decide +kernel⟩
theorem mv_X12_unlike : zMv yX12_unlike cX12_unlike 1 (Option.some FieldType.int) 0 := ⟨zIn 1107 (by decide +kernel) (by decide +kernel), zIn 13 (by decide +kernel) (by decide +kernel), zIn 1105 (by decide +kernel) (by decide +kernel), zIn 1106 (by decide +kernel) (by decide +kernel), by decide +kernel, by decide +kernel, by decide +kernel⟩
theorem mv_X12_part : zMv yX12_part cX12_part 5 (Option.some FieldType.int) 2 := ⟨zIn 1115 (by decide +kernel) (by decide +kernel), zIn 13 (by decide +kernel) (by decide +kernel), zIn 1113 (by decide +kernel) (by decide +kernel), zIn 1114 (by decide +kernel) (by decide +kernel), by decide +kernel, by decide +kernel, by decide +kernel⟩
theorem mv_X12_idle : zMv yX12_idle cX12_idle 3 (Option.some FieldType.int) 1 := ⟨zIn 1119 (by decide +kernel) (by decide +kernel), zIn 13 (by decide +kernel) (by decide +kernel), zIn 1117 (by decide +kernel) (by decide +kernel), zIn 1118 (by decide +kernel) (by decide +kernel), by decide +kernel, by decide +kernel, by decide +kernel⟩
theorem mv_X12_needless : zMv yX12_needless cX12_needless 3 (Option.some FieldType.int) 0 := ⟨zIn 1123 (by decide +kernel) (by decide +kernel), zIn 13 (by decide +kernel) (by decide +kernel), zIn 1121 (by decide +kernel) (by decide +kernel), zIn 1122 (by decide +kernel) (by decide +kernel), by decide +kernel, by decide +kernel, by decide +kernel⟩
theorem mv_X12_meets : zMv yX12_meets cX12_meets 4 (Option.some FieldType.int) 2 := ⟨zIn 1127 (by decide +kernel) (by decide +kernel), zIn 13 (by decide +kernel) (by decide +kernel), zIn 1125 (by decide +kernel) (by decide +kernel), zIn 1126 (by decide +kernel) (by decide +kernel), by decide +kernel, by decide +kernel, by decide +kernel⟩
theorem mv_X12_choose : zMv yX12_choose cX12_choose 3 (Option.some FieldType.int) 1 := ⟨zIn 1131 (by decide +kernel) (by decide +kernel), zIn 13 (by decide +kernel) (by decide +kernel), zIn 1129 (by decide +kernel) (by decide +kernel), zIn 1130 (by decide +kernel) (by decide +kernel), by decide +kernel, by decide +kernel, by decide +kernel⟩
theorem mv_X12_unchoose : zMv yX12_unchoose cX12_unchoose 2 (Option.some FieldType.int) 0 := ⟨zIn 1135 (by decide +kernel) (by decide +kernel), zIn 13 (by decide +kernel) (by decide +kernel), zIn 1133 (by decide +kernel) (by decide +kernel), zIn 1134 (by decide +kernel) (by decide +kernel), by decide +kernel, by decide +kernel, by decide +kernel⟩
theorem mv_X12_findOver : zMv yX12_findOver cX12_findOver 6 (Option.none : Option FieldType) 2 := ⟨zIn 1143 (by decide +kernel) (by decide +kernel), zIn 13 (by decide +kernel) (by decide +kernel), zIn 1142 (by decide +kernel) (by decide +kernel), zInP 35 (by decide +kernel) (by decide +kernel), by decide +kernel, by decide +kernel, by decide +kernel⟩
theorem mv_X12_leftOver : zMv yX12_leftOver cX12_leftOver 5 (Option.some FieldType.int) 1 := ⟨zIn 1139 (by decide +kernel) (by decide +kernel), zIn 13 (by decide +kernel) (by decide +kernel), zIn 1137 (by decide +kernel) (by decide +kernel), zIn 1138 (by decide +kernel) (by decide +kernel), by decide +kernel, by decide +kernel, by decide +kernel⟩
theorem mv_X12_passedOver : zMv yX12_passedOver cX12_passedOver 1 (Option.some FieldType.int) 0 := ⟨zIn 1147 (by decide +kernel) (by decide +kernel), zIn 13 (by decide +kernel) (by decide +kernel), zIn 1145 (by decide +kernel) (by decide +kernel), zIn 1146 (by decide +kernel) (by decide +kernel), by decide +kernel, by decide +kernel, by decide +kernel⟩
theorem mv_X12_quarrel : zMv yX12_quarrel cX12_quarrel 9 (Option.some FieldType.int) 2 := ⟨zIn 1151 (by decide +kernel) (by decide +kernel), zIn 13 (by decide +kernel) (by decide +kernel), zIn 1149 (by decide +kernel) (by decide +kernel), zIn 1150 (by decide +kernel) (by decide +kernel), by decide +kernel, by decide +kernel, by decide +kernel⟩
theorem mv_X12_hangs : zMv yX12_hangs cX12_hangs 5 (Option.some FieldType.int) 0 := ⟨zIn 1155 (by decide +kernel) (by decide +kernel), zIn 13 (by decide +kernel) (by decide +kernel), zIn 1153 (by decide +kernel) (by decide +kernel), zIn 1154 (by decide +kernel) (by decide +kernel), by decide +kernel, by decide +kernel, by decide +kernel⟩
theorem mv_X12_test : zMv yX12_test cX12_test 5 (Option.some FieldType.int) 0 := ⟨zIn 1159 (by decide +kernel) (by decide +kernel), zIn 13 (by decide +kernel) (by decide +kernel), zIn 1157 (by decide +kernel) (by decide +kernel), zIn 1158 (by decide +kernel) (by decide +kernel), by decide +kernel, by decide +kernel, by decide +kernel⟩
theorem mv_X12_isParted : zMv yX12_isParted cX12_isParted 5 (Option.some FieldType.boolean) 1 := ⟨zIn 1171 (by decide +kernel) (by decide +kernel), zIn 13 (by decide +kernel) (by decide +kernel), zIn 1170 (by decide +kernel) (by decide +kernel), zInP 37 (by decide +kernel) (by decide +kernel), by decide +kernel, by decide +kernel, by decide +kernel⟩
theorem mv_X12_isPartedBy : zMv yX12_isPartedBy cX12_isPartedBy 6 (Option.some FieldType.boolean) 3 := ⟨zIn 1167 (by decide +kernel) (by decide +kernel), zIn 13 (by decide +kernel) (by decide +kernel), zIn 1166 (by decide +kernel) (by decide +kernel), zInP 36 (by decide +kernel) (by decide +kernel), by decide +kernel, by decide +kernel, by decide +kernel⟩
theorem mv_X12_fewest : zMv yX12_fewest cX12_fewest 2 (Option.some FieldType.int) 0 := ⟨zIn 1163 (by decide +kernel) (by decide +kernel), zIn 13 (by decide +kernel) (by decide +kernel), zIn 1161 (by decide +kernel) (by decide +kernel), zIn 1162 (by decide +kernel) (by decide +kernel), by decide +kernel, by decide +kernel, by decide +kernel⟩
theorem mv_X12_bracket : zMv yX12_bracket cX12_bracket 7 (Option.some FieldType.int) 2 := ⟨zIn 1175 (by decide +kernel) (by decide +kernel), zIn 13 (by decide +kernel) (by decide +kernel), zIn 1173 (by decide +kernel) (by decide +kernel), zIn 1174 (by decide +kernel) (by decide +kernel), by decide +kernel, by decide +kernel, by decide +kernel⟩
theorem mv_X12_has : zMv yX12_has cX12_has 5 (Option.some FieldType.boolean) 3 := ⟨zIn 1187 (by decide +kernel) (by decide +kernel), zIn 13 (by decide +kernel) (by decide +kernel), zIn 1186 (by decide +kernel) (by decide +kernel), zInP 39 (by decide +kernel) (by decide +kernel), by decide +kernel, by decide +kernel, by decide +kernel⟩
theorem mv_X12_isMark : zMv yX12_isMark cX12_isMark 3 (Option.some FieldType.boolean) 2 := ⟨zIn 1191 (by decide +kernel) (by decide +kernel), zIn 13 (by decide +kernel) (by decide +kernel), zIn 1190 (by decide +kernel) (by decide +kernel), zInP 40 (by decide +kernel) (by decide +kernel), by decide +kernel, by decide +kernel, by decide +kernel⟩
theorem mv_X12_isMended : zMv yX12_isMended cX12_isMended 7 (Option.some FieldType.boolean) 3 := ⟨zIn 1183 (by decide +kernel) (by decide +kernel), zIn 13 (by decide +kernel) (by decide +kernel), zIn 1182 (by decide +kernel) (by decide +kernel), zInP 38 (by decide +kernel) (by decide +kernel), by decide +kernel, by decide +kernel, by decide +kernel⟩
theorem mv_X12_mend : zMv yX12_mend cX12_mend 5 (Option.some FieldType.int) 1 := ⟨zIn 1179 (by decide +kernel) (by decide +kernel), zIn 13 (by decide +kernel) (by decide +kernel), zIn 1177 (by decide +kernel) (by decide +kernel), zIn 1178 (by decide +kernel) (by decide +kernel), by decide +kernel, by decide +kernel, by decide +kernel⟩
theorem mv_X12_aim : zMv yX12_aim cX12_aim 4 (Option.some FieldType.int) 2 := ⟨zIn 1195 (by decide +kernel) (by decide +kernel), zIn 13 (by decide +kernel) (by decide +kernel), zIn 1193 (by decide +kernel) (by decide +kernel), zIn 1194 (by decide +kernel) (by decide +kernel), by decide +kernel, by decide +kernel, by decide +kernel⟩
theorem mv_X12_servesBy : zMv yX12_servesBy cX12_servesBy 4 (Option.some FieldType.int) 1 := ⟨zIn 1207 (by decide +kernel) (by decide +kernel), zIn 13 (by decide +kernel) (by decide +kernel), zIn 1206 (by decide +kernel) (by decide +kernel), zInP 41 (by decide +kernel) (by decide +kernel), by decide +kernel, by decide +kernel, by decide +kernel⟩
theorem mv_X12_serves : zMv yX12_serves cX12_serves 3 (Option.some FieldType.int) 1 := ⟨zIn 1202 (by decide +kernel) (by decide +kernel), zIn 13 (by decide +kernel) (by decide +kernel), zIn 1200 (by decide +kernel) (by decide +kernel), zIn 1201 (by decide +kernel) (by decide +kernel), by decide +kernel, by decide +kernel, by decide +kernel⟩
theorem mv_X12_best : zMv yX12_best cX12_best 3 (Option.some FieldType.int) 0 := ⟨zIn 1211 (by decide +kernel) (by decide +kernel), zIn 13 (by decide +kernel) (by decide +kernel), zIn 1209 (by decide +kernel) (by decide +kernel), zIn 1210 (by decide +kernel) (by decide +kernel), by decide +kernel, by decide +kernel, by decide +kernel⟩
theorem mv_X12_image : zMv yX12_image cX12_image 2 (Option.some FieldType.int) 0 := ⟨zIn 1215 (by decide +kernel) (by decide +kernel), zIn 13 (by decide +kernel) (by decide +kernel), zIn 1213 (by decide +kernel) (by decide +kernel), zIn 1214 (by decide +kernel) (by decide +kernel), by decide +kernel, by decide +kernel, by decide +kernel⟩
theorem mv_X12_on : zMv yX12_on cX12_on 2 (Option.some FieldType.int) 0 := ⟨zIn 1219 (by decide +kernel) (by decide +kernel), zIn 13 (by decide +kernel) (by decide +kernel), zIn 1217 (by decide +kernel) (by decide +kernel), zIn 1218 (by decide +kernel) (by decide +kernel), by decide +kernel, by decide +kernel, by decide +kernel⟩
theorem mv_X12_count : zMv yX12_count cX12_count 4 (Option.some FieldType.int) 1 := ⟨zIn 1223 (by decide +kernel) (by decide +kernel), zIn 13 (by decide +kernel) (by decide +kernel), zIn 1221 (by decide +kernel) (by decide +kernel), zIn 1222 (by decide +kernel) (by decide +kernel), by decide +kernel, by decide +kernel, by decide +kernel⟩
theorem mv_X0_size : zMv yX0_size cX0_size 1 (Option.some FieldType.int) 0 := ⟨zIn 788 (by decide +kernel) (by decide +kernel), zIn 11 (by decide +kernel) (by decide +kernel), zIn 786 (by decide +kernel) (by decide +kernel), zIn 787 (by decide +kernel) (by decide +kernel), by decide +kernel, by decide +kernel, by decide +kernel⟩
theorem mv_X0_add : zMv yX0_add cX0_add 3 (Option.none : Option FieldType) 2 := ⟨zIn 792 (by decide +kernel) (by decide +kernel), zIn 11 (by decide +kernel) (by decide +kernel), zIn 790 (by decide +kernel) (by decide +kernel), zIn 791 (by decide +kernel) (by decide +kernel), by decide +kernel, by decide +kernel, by decide +kernel⟩
theorem mv_X0_become : zMv yX0_become cX0_become 3 (Option.none : Option FieldType) 1 := ⟨zIn 827 (by decide +kernel) (by decide +kernel), zIn 11 (by decide +kernel) (by decide +kernel), zIn 825 (by decide +kernel) (by decide +kernel), zIn 826 (by decide +kernel) (by decide +kernel), by decide +kernel, by decide +kernel, by decide +kernel⟩
theorem mv_X0_servedBy : zMv yX0_servedBy cX0_servedBy 5 (Option.some FieldType.int) 1 := ⟨zIn 802 (by decide +kernel) (by decide +kernel), zIn 11 (by decide +kernel) (by decide +kernel), zIn 800 (by decide +kernel) (by decide +kernel), zIn 801 (by decide +kernel) (by decide +kernel), by decide +kernel, by decide +kernel, by decide +kernel⟩
theorem mv_X1_isThere : zMv yX1_isThere cX1_isThere 1 (Option.some FieldType.boolean) 0 := ⟨zIn 836 (by decide +kernel) (by decide +kernel), zIn 12 (by decide +kernel) (by decide +kernel), zIn 834 (by decide +kernel) (by decide +kernel), zIn 835 (by decide +kernel) (by decide +kernel), by decide +kernel, by decide +kernel, by decide +kernel⟩
theorem mv_X1_words : zMv yX1_words cX1_words 1 (Option.some (FieldType.object "MayBeRead$Words")) 0 := ⟨zIn 840 (by decide +kernel) (by decide +kernel), zIn 12 (by decide +kernel) (by decide +kernel), zIn 838 (by decide +kernel) (by decide +kernel), zIn 839 (by decide +kernel) (by decide +kernel), by decide +kernel, by decide +kernel, by decide +kernel⟩
theorem mv_X1_order : zMv yX1_order cX1_order 1 (Option.some (FieldType.object "MayBeRead$Order")) 0 := ⟨zIn 844 (by decide +kernel) (by decide +kernel), zIn 12 (by decide +kernel) (by decide +kernel), zIn 842 (by decide +kernel) (by decide +kernel), zIn 843 (by decide +kernel) (by decide +kernel), by decide +kernel, by decide +kernel, by decide +kernel⟩
theorem mv_X1_aims : zMv yX1_aims cX1_aims 1 (Option.some (FieldType.object "MayBeRead$Aims")) 0 := ⟨zIn 849 (by decide +kernel) (by decide +kernel), zIn 12 (by decide +kernel) (by decide +kernel), zIn 847 (by decide +kernel) (by decide +kernel), zIn 848 (by decide +kernel) (by decide +kernel), by decide +kernel, by decide +kernel, by decide +kernel⟩
theorem mv_X1_take : zMv yX1_take cX1_take 4 (Option.none : Option FieldType) 3 := ⟨zIn 816 (by decide +kernel) (by decide +kernel), zIn 12 (by decide +kernel) (by decide +kernel), zIn 814 (by decide +kernel) (by decide +kernel), zIn 815 (by decide +kernel) (by decide +kernel), by decide +kernel, by decide +kernel, by decide +kernel⟩
theorem mv_X2_isMade : zMv yX2_isMade cX2_isMade 1 (Option.some FieldType.boolean) 0 := ⟨zIn 394 (by decide +kernel) (by decide +kernel), zIn 5 (by decide +kernel) (by decide +kernel), zIn 392 (by decide +kernel) (by decide +kernel), zIn 393 (by decide +kernel) (by decide +kernel), by decide +kernel, by decide +kernel, by decide +kernel⟩
theorem mv_X2_forget : zMv yX2_forget cX2_forget 1 (Option.none : Option FieldType) 0 := ⟨zIn 369 (by decide +kernel) (by decide +kernel), zIn 5 (by decide +kernel) (by decide +kernel), zIn 367 (by decide +kernel) (by decide +kernel), zIn 368 (by decide +kernel) (by decide +kernel), by decide +kernel, by decide +kernel, by decide +kernel⟩
theorem mv_X2_make : zMv yX2_make cX2_make 6 (Option.none : Option FieldType) 4 := ⟨zIn 398 (by decide +kernel) (by decide +kernel), zIn 5 (by decide +kernel) (by decide +kernel), zIn 396 (by decide +kernel) (by decide +kernel), zIn 397 (by decide +kernel) (by decide +kernel), by decide +kernel, by decide +kernel, by decide +kernel⟩
theorem mv_X2_size : zMv yX2_size cX2_size 1 (Option.some FieldType.int) 0 := ⟨zIn 516 (by decide +kernel) (by decide +kernel), zIn 5 (by decide +kernel) (by decide +kernel), zIn 514 (by decide +kernel) (by decide +kernel), zIn 515 (by decide +kernel) (by decide +kernel), by decide +kernel, by decide +kernel, by decide +kernel⟩
theorem mv_X2_meaning : zMv yX2_meaning cX2_meaning 2 (Option.some FieldType.long) 1 := ⟨zIn 533 (by decide +kernel) (by decide +kernel), zIn 5 (by decide +kernel) (by decide +kernel), zIn 531 (by decide +kernel) (by decide +kernel), zIn 532 (by decide +kernel) (by decide +kernel), by decide +kernel, by decide +kernel, by decide +kernel⟩
theorem mv_X2_idlePlaces : zMv yX2_idlePlaces cX2_idlePlaces 2 (Option.some FieldType.int) 1 := ⟨zIn 607 (by decide +kernel) (by decide +kernel), zIn 5 (by decide +kernel) (by decide +kernel), zIn 605 (by decide +kernel) (by decide +kernel), zIn 606 (by decide +kernel) (by decide +kernel), by decide +kernel, by decide +kernel, by decide +kernel⟩
theorem mv_X2_isMet : zMv yX2_isMet cX2_isMet 3 (Option.some FieldType.boolean) 2 := ⟨zIn 628 (by decide +kernel) (by decide +kernel), zIn 5 (by decide +kernel) (by decide +kernel), zIn 626 (by decide +kernel) (by decide +kernel), zIn 627 (by decide +kernel) (by decide +kernel), by decide +kernel, by decide +kernel, by decide +kernel⟩
theorem mv_X2_lettingAt : zMv yX2_lettingAt cX2_lettingAt 4 (Option.some FieldType.int) 1 := ⟨zIn 552 (by decide +kernel) (by decide +kernel), zIn 5 (by decide +kernel) (by decide +kernel), zIn 550 (by decide +kernel) (by decide +kernel), zIn 551 (by decide +kernel) (by decide +kernel), by decide +kernel, by decide +kernel, by decide +kernel⟩
theorem mv_X2_letByAll : zMv yX2_letByAll cX2_letByAll 4 (Option.some FieldType.long) 0 := ⟨zIn 562 (by decide +kernel) (by decide +kernel), zIn 5 (by decide +kernel) (by decide +kernel), zIn 560 (by decide +kernel) (by decide +kernel), zIn 561 (by decide +kernel) (by decide +kernel), by decide +kernel, by decide +kernel, by decide +kernel⟩
theorem mv_X2_barredByAll : zMv yX2_barredByAll cX2_barredByAll 4 (Option.some FieldType.long) 0 := ⟨zIn 567 (by decide +kernel) (by decide +kernel), zIn 5 (by decide +kernel) (by decide +kernel), zIn 565 (by decide +kernel) (by decide +kernel), zIn 566 (by decide +kernel) (by decide +kernel), by decide +kernel, by decide +kernel, by decide +kernel⟩
theorem mv_X2_idleInAll : zMv yX2_idleInAll cX2_idleInAll 3 (Option.some FieldType.int) 0 := ⟨zIn 616 (by decide +kernel) (by decide +kernel), zIn 5 (by decide +kernel) (by decide +kernel), zIn 614 (by decide +kernel) (by decide +kernel), zIn 615 (by decide +kernel) (by decide +kernel), by decide +kernel, by decide +kernel, by decide +kernel⟩
theorem mv_X2_areAtOdds : zMv yX2_areAtOdds cX2_areAtOdds 6 (Option.some FieldType.boolean) 2 := ⟨zIn 701 (by decide +kernel) (by decide +kernel), zIn 5 (by decide +kernel) (by decide +kernel), zIn 699 (by decide +kernel) (by decide +kernel), zIn 700 (by decide +kernel) (by decide +kernel), by decide +kernel, by decide +kernel, by decide +kernel⟩
theorem mv_X2_evenestCase : zMv yX2_evenestCase cX2_evenestCase 5 (Option.some FieldType.int) 0 := ⟨zIn 718 (by decide +kernel) (by decide +kernel), zIn 5 (by decide +kernel) (by decide +kernel), zIn 716 (by decide +kernel) (by decide +kernel), zIn 717 (by decide +kernel) (by decide +kernel), by decide +kernel, by decide +kernel, by decide +kernel⟩
theorem mv_X3_begin : zMv yX3_begin cX3_begin 3 (Option.none : Option FieldType) 1 := ⟨zIn 762 (by decide +kernel) (by decide +kernel), zIn 10 (by decide +kernel) (by decide +kernel), zIn 760 (by decide +kernel) (by decide +kernel), zIn 761 (by decide +kernel) (by decide +kernel), by decide +kernel, by decide +kernel, by decide +kernel⟩
theorem mv_X3_hold : zMv yX3_hold cX3_hold 4 (Option.none : Option FieldType) 1 := ⟨zIn 771 (by decide +kernel) (by decide +kernel), zIn 10 (by decide +kernel) (by decide +kernel), zIn 769 (by decide +kernel) (by decide +kernel), zIn 770 (by decide +kernel) (by decide +kernel), by decide +kernel, by decide +kernel, by decide +kernel⟩
theorem mv_X3_fewestNodes : zMv yX3_fewestNodes cX3_fewestNodes 3 (Option.some FieldType.int) 0 := ⟨zIn 776 (by decide +kernel) (by decide +kernel), zIn 10 (by decide +kernel) (by decide +kernel), zIn 774 (by decide +kernel) (by decide +kernel), zIn 775 (by decide +kernel) (by decide +kernel), by decide +kernel, by decide +kernel, by decide +kernel⟩
theorem mv_X3_sharedWith : zMv yX3_sharedWith cX3_sharedWith 4 (Option.some FieldType.int) 1 := ⟨zIn 780 (by decide +kernel) (by decide +kernel), zIn 10 (by decide +kernel) (by decide +kernel), zIn 779 (by decide +kernel) (by decide +kernel), zInP 19 (by decide +kernel) (by decide +kernel), by decide +kernel, by decide +kernel, by decide +kernel⟩
theorem mv_X4_size : zMv yX4_size cX4_size 1 (Option.some FieldType.int) 0 := ⟨zIn 650 (by decide +kernel) (by decide +kernel), zIn 8 (by decide +kernel) (by decide +kernel), zIn 648 (by decide +kernel) (by decide +kernel), zIn 649 (by decide +kernel) (by decide +kernel), by decide +kernel, by decide +kernel, by decide +kernel⟩
theorem mv_X4_at : zMv yX4_at cX4_at 2 (Option.some FieldType.int) 1 := ⟨zIn 640 (by decide +kernel) (by decide +kernel), zIn 8 (by decide +kernel) (by decide +kernel), zIn 638 (by decide +kernel) (by decide +kernel), zIn 639 (by decide +kernel) (by decide +kernel), by decide +kernel, by decide +kernel, by decide +kernel⟩
theorem mv_X4_clear : zMv yX4_clear cX4_clear 1 (Option.none : Option FieldType) 0 := ⟨zIn 658 (by decide +kernel) (by decide +kernel), zIn 8 (by decide +kernel) (by decide +kernel), zIn 656 (by decide +kernel) (by decide +kernel), zIn 657 (by decide +kernel) (by decide +kernel), by decide +kernel, by decide +kernel, by decide +kernel⟩
theorem mv_X4_has : zMv yX4_has cX4_has 3 (Option.some FieldType.boolean) 1 := ⟨zIn 636 (by decide +kernel) (by decide +kernel), zIn 8 (by decide +kernel) (by decide +kernel), zIn 634 (by decide +kernel) (by decide +kernel), zIn 635 (by decide +kernel) (by decide +kernel), by decide +kernel, by decide +kernel, by decide +kernel⟩
theorem mv_X4_add : zMv yX4_add cX4_add 2 (Option.none : Option FieldType) 1 := ⟨zIn 645 (by decide +kernel) (by decide +kernel), zIn 8 (by decide +kernel) (by decide +kernel), zIn 643 (by decide +kernel) (by decide +kernel), zIn 644 (by decide +kernel) (by decide +kernel), by decide +kernel, by decide +kernel, by decide +kernel⟩
theorem mv_X4_become : zMv yX4_become cX4_become 3 (Option.none : Option FieldType) 1 := ⟨zIn 821 (by decide +kernel) (by decide +kernel), zIn 8 (by decide +kernel) (by decide +kernel), zIn 819 (by decide +kernel) (by decide +kernel), zIn 820 (by decide +kernel) (by decide +kernel), by decide +kernel, by decide +kernel, by decide +kernel⟩
theorem mv_X5_meaning : zMv yX5_meaning cX5_meaning 1 (Option.some FieldType.long) 0 := ⟨zIn 497 (by decide +kernel) (by decide +kernel), zIn 6 (by decide +kernel) (by decide +kernel), zIn 495 (by decide +kernel) (by decide +kernel), zIn 496 (by decide +kernel) (by decide +kernel), by decide +kernel, by decide +kernel, by decide +kernel⟩
theorem mv_X5_idlePlaces : zMv yX5_idlePlaces cX5_idlePlaces 1 (Option.some FieldType.int) 0 := ⟨zIn 503 (by decide +kernel) (by decide +kernel), zIn 6 (by decide +kernel) (by decide +kernel), zIn 501 (by decide +kernel) (by decide +kernel), zIn 502 (by decide +kernel) (by decide +kernel), by decide +kernel, by decide +kernel, by decide +kernel⟩
theorem mv_X5_metRules : zMv yX5_metRules cX5_metRules 1 (Option.some FieldType.int) 0 := ⟨zIn 508 (by decide +kernel) (by decide +kernel), zIn 6 (by decide +kernel) (by decide +kernel), zIn 506 (by decide +kernel) (by decide +kernel), zIn 507 (by decide +kernel) (by decide +kernel), by decide +kernel, by decide +kernel, by decide +kernel⟩
theorem mv_X5_weigh : zMv yX5_weigh cX5_weigh 5 (Option.none : Option FieldType) 2 := ⟨zIn 435 (by decide +kernel) (by decide +kernel), zIn 6 (by decide +kernel) (by decide +kernel), zIn 433 (by decide +kernel) (by decide +kernel), zIn 434 (by decide +kernel) (by decide +kernel), by decide +kernel, by decide +kernel, by decide +kernel⟩
theorem mv_X5_meaningOf : zMv yX5_meaningOf cX5_meaningOf 8 (Option.some FieldType.long) 3 := ⟨zIn 443 (by decide +kernel) (by decide +kernel), zIn 6 (by decide +kernel) (by decide +kernel), zIn 442 (by decide +kernel) (by decide +kernel), zInP 9 (by decide +kernel) (by decide +kernel), by decide +kernel, by decide +kernel, by decide +kernel⟩
theorem mv_X5_bareOf : zMv yX5_bareOf cX5_bareOf 5 (Option.some FieldType.int) 2 := ⟨zIn 473 (by decide +kernel) (by decide +kernel), zIn 6 (by decide +kernel) (by decide +kernel), zIn 472 (by decide +kernel) (by decide +kernel), zInP 10 (by decide +kernel) (by decide +kernel), by decide +kernel, by decide +kernel, by decide +kernel⟩
theorem mv_X5_findIdle : zMv yX5_findIdle cX5_findIdle 10 (Option.none : Option FieldType) 1 := ⟨zIn 489 (by decide +kernel) (by decide +kernel), zIn 6 (by decide +kernel) (by decide +kernel), zIn 488 (by decide +kernel) (by decide +kernel), zInP 12 (by decide +kernel) (by decide +kernel), by decide +kernel, by decide +kernel, by decide +kernel⟩
theorem mv_X5_brokenByWhole : zMv yX5_brokenByWhole cX5_brokenByWhole 2 (Option.some FieldType.int) 0 := ⟨zIn 493 (by decide +kernel) (by decide +kernel), zIn 6 (by decide +kernel) (by decide +kernel), zIn 492 (by decide +kernel) (by decide +kernel), zInP 13 (by decide +kernel) (by decide +kernel), by decide +kernel, by decide +kernel, by decide +kernel⟩
theorem mv_X5_brokenAt : zMv yX5_brokenAt cX5_brokenAt 8 (Option.some FieldType.int) 3 := ⟨zIn 479 (by decide +kernel) (by decide +kernel), zIn 6 (by decide +kernel) (by decide +kernel), zIn 478 (by decide +kernel) (by decide +kernel), zInP 11 (by decide +kernel) (by decide +kernel), by decide +kernel, by decide +kernel, by decide +kernel⟩
theorem mv_X6_size : zMv yX6_size cX6_size 1 (Option.some FieldType.int) 0 := ⟨zIn 684 (by decide +kernel) (by decide +kernel), zIn 9 (by decide +kernel) (by decide +kernel), zIn 682 (by decide +kernel) (by decide +kernel), zIn 683 (by decide +kernel) (by decide +kernel), by decide +kernel, by decide +kernel, by decide +kernel⟩
theorem mv_X6_at : zMv yX6_at cX6_at 2 (Option.some FieldType.int) 1 := ⟨zIn 678 (by decide +kernel) (by decide +kernel), zIn 9 (by decide +kernel) (by decide +kernel), zIn 676 (by decide +kernel) (by decide +kernel), zIn 677 (by decide +kernel) (by decide +kernel), by decide +kernel, by decide +kernel, by decide +kernel⟩
theorem mv_X6_passed : zMv yX6_passed cX6_passed 1 (Option.some FieldType.int) 0 := ⟨zIn 693 (by decide +kernel) (by decide +kernel), zIn 9 (by decide +kernel) (by decide +kernel), zIn 691 (by decide +kernel) (by decide +kernel), zIn 692 (by decide +kernel) (by decide +kernel), by decide +kernel, by decide +kernel, by decide +kernel⟩
theorem mv_X6_sift : zMv yX6_sift cX6_sift 5 (Option.none : Option FieldType) 3 := ⟨zIn 666 (by decide +kernel) (by decide +kernel), zIn 9 (by decide +kernel) (by decide +kernel), zIn 664 (by decide +kernel) (by decide +kernel), zIn 665 (by decide +kernel) (by decide +kernel), by decide +kernel, by decide +kernel, by decide +kernel⟩
theorem mv_X6_keepMet : zMv yX6_keepMet cX6_keepMet 5 (Option.none : Option FieldType) 2 := ⟨zIn 674 (by decide +kernel) (by decide +kernel), zIn 9 (by decide +kernel) (by decide +kernel), zIn 673 (by decide +kernel) (by decide +kernel), zInP 16 (by decide +kernel) (by decide +kernel), by decide +kernel, by decide +kernel, by decide +kernel⟩
theorem mv_X6_keepsAs : zMv yX6_keepsAs cX6_keepsAs 3 (Option.some FieldType.boolean) 1 := ⟨zIn 710 (by decide +kernel) (by decide +kernel), zIn 9 (by decide +kernel) (by decide +kernel), zIn 708 (by decide +kernel) (by decide +kernel), zIn 709 (by decide +kernel) (by decide +kernel), by decide +kernel, by decide +kernel, by decide +kernel⟩
theorem mv_X7_size : zMv yX7_size cX7_size 1 (Option.some FieldType.int) 0 := ⟨zIn 439 (by decide +kernel) (by decide +kernel), zIn 4 (by decide +kernel) (by decide +kernel), zIn 437 (by decide +kernel) (by decide +kernel), zIn 438 (by decide +kernel) (by decide +kernel), by decide +kernel, by decide +kernel, by decide +kernel⟩
theorem mv_X7_kind : zMv yX7_kind cX7_kind 2 (Option.some FieldType.int) 1 := ⟨zIn 456 (by decide +kernel) (by decide +kernel), zIn 4 (by decide +kernel) (by decide +kernel), zIn 454 (by decide +kernel) (by decide +kernel), zIn 455 (by decide +kernel) (by decide +kernel), by decide +kernel, by decide +kernel, by decide +kernel⟩
theorem mv_X7_from : zMv yX7_from cX7_from 2 (Option.some FieldType.int) 1 := ⟨zIn 460 (by decide +kernel) (by decide +kernel), zIn 4 (by decide +kernel) (by decide +kernel), zIn 458 (by decide +kernel) (by decide +kernel), zIn 459 (by decide +kernel) (by decide +kernel), by decide +kernel, by decide +kernel, by decide +kernel⟩
theorem mv_X7_end : zMv yX7_end cX7_end 2 (Option.some FieldType.int) 1 := ⟨zIn 483 (by decide +kernel) (by decide +kernel), zIn 4 (by decide +kernel) (by decide +kernel), zIn 481 (by decide +kernel) (by decide +kernel), zIn 482 (by decide +kernel) (by decide +kernel), by decide +kernel, by decide +kernel, by decide +kernel⟩
theorem mv_X7_inner : zMv yX7_inner cX7_inner 2 (Option.some FieldType.int) 1 := ⟨zIn 447 (by decide +kernel) (by decide +kernel), zIn 4 (by decide +kernel) (by decide +kernel), zIn 445 (by decide +kernel) (by decide +kernel), zIn 446 (by decide +kernel) (by decide +kernel), by decide +kernel, by decide +kernel, by decide +kernel⟩
theorem mv_X7_behind : zMv yX7_behind cX7_behind 2 (Option.some FieldType.int) 1 := ⟨zIn 452 (by decide +kernel) (by decide +kernel), zIn 4 (by decide +kernel) (by decide +kernel), zIn 450 (by decide +kernel) (by decide +kernel), zIn 451 (by decide +kernel) (by decide +kernel), by decide +kernel, by decide +kernel, by decide +kernel⟩
theorem mv_X7_grow : zMv yX7_grow cX7_grow 12 (Option.none : Option FieldType) 3 := ⟨zIn 402 (by decide +kernel) (by decide +kernel), zIn 4 (by decide +kernel) (by decide +kernel), zIn 400 (by decide +kernel) (by decide +kernel), zIn 401 (by decide +kernel) (by decide +kernel), by decide +kernel, by decide +kernel, by decide +kernel⟩
theorem mv_X7_await : zMv yX7_await cX7_await 6 (Option.none : Option FieldType) 4 := ⟨zIn 407 (by decide +kernel) (by decide +kernel), zIn 4 (by decide +kernel) (by decide +kernel), zIn 406 (by decide +kernel) (by decide +kernel), zInP 5 (by decide +kernel) (by decide +kernel), by decide +kernel, by decide +kernel, by decide +kernel⟩
theorem mv_X7_growFront : zMv yX7_growFront cX7_growFront 7 (Option.none : Option FieldType) 4 := ⟨zIn 419 (by decide +kernel) (by decide +kernel), zIn 4 (by decide +kernel) (by decide +kernel), zIn 418 (by decide +kernel) (by decide +kernel), zInP 6 (by decide +kernel) (by decide +kernel), by decide +kernel, by decide +kernel, by decide +kernel⟩
theorem mv_X7_growJoin : zMv yX7_growJoin cX7_growJoin 15 (Option.none : Option FieldType) 5 := ⟨zIn 429 (by decide +kernel) (by decide +kernel), zIn 4 (by decide +kernel) (by decide +kernel), zIn 428 (by decide +kernel) (by decide +kernel), zInP 8 (by decide +kernel) (by decide +kernel), by decide +kernel, by decide +kernel, by decide +kernel⟩
theorem mv_X7_addNode : zMv yX7_addNode cX7_addNode 4 (Option.none : Option FieldType) 3 := ⟨zIn 425 (by decide +kernel) (by decide +kernel), zIn 4 (by decide +kernel) (by decide +kernel), zIn 424 (by decide +kernel) (by decide +kernel), zInP 7 (by decide +kernel) (by decide +kernel), by decide +kernel, by decide +kernel, by decide +kernel⟩
theorem mv_X8_size : zMv yX8_size cX8_size 1 (Option.some FieldType.int) 0 := ⟨zIn 592 (by decide +kernel) (by decide +kernel), zIn 7 (by decide +kernel) (by decide +kernel), zIn 590 (by decide +kernel) (by decide +kernel), zIn 591 (by decide +kernel) (by decide +kernel), by decide +kernel, by decide +kernel, by decide +kernel⟩
theorem mv_X8_gather : zMv yX8_gather cX8_gather 3 (Option.none : Option FieldType) 1 := ⟨zIn 580 (by decide +kernel) (by decide +kernel), zIn 7 (by decide +kernel) (by decide +kernel), zIn 578 (by decide +kernel) (by decide +kernel), zIn 579 (by decide +kernel) (by decide +kernel), by decide +kernel, by decide +kernel, by decide +kernel⟩
theorem mv_X8_has : zMv yX8_has cX8_has 4 (Option.some FieldType.boolean) 1 := ⟨zIn 586 (by decide +kernel) (by decide +kernel), zIn 7 (by decide +kernel) (by decide +kernel), zIn 585 (by decide +kernel) (by decide +kernel), zInP 15 (by decide +kernel) (by decide +kernel), by decide +kernel, by decide +kernel, by decide +kernel⟩
theorem mv_X8_fewestCases : zMv yX8_fewestCases cX8_fewestCases 4 (Option.some FieldType.int) 0 := ⟨zIn 730 (by decide +kernel) (by decide +kernel), zIn 7 (by decide +kernel) (by decide +kernel), zIn 728 (by decide +kernel) (by decide +kernel), zIn 729 (by decide +kernel) (by decide +kernel), by decide +kernel, by decide +kernel, by decide +kernel⟩
theorem mv_X8_isThirdFor : zMv yX8_isThirdFor cX8_isThirdFor 4 (Option.some FieldType.boolean) 2 := ⟨zIn 739 (by decide +kernel) (by decide +kernel), zIn 7 (by decide +kernel) (by decide +kernel), zIn 738 (by decide +kernel) (by decide +kernel), zInP 18 (by decide +kernel) (by decide +kernel), by decide +kernel, by decide +kernel, by decide +kernel⟩
theorem mv_X8_arePartedBy : zMv yX8_arePartedBy cX8_arePartedBy 9 (Option.some FieldType.boolean) 3 := ⟨zIn 734 (by decide +kernel) (by decide +kernel), zIn 7 (by decide +kernel) (by decide +kernel), zIn 733 (by decide +kernel) (by decide +kernel), zInP 17 (by decide +kernel) (by decide +kernel), by decide +kernel, by decide +kernel, by decide +kernel⟩
theorem mv_X9_number : zMv yX9_number cX9_number 3 (Option.some FieldType.long) 2 := ⟨zIn 273 (by decide +kernel) (by decide +kernel), zIn 3 (by decide +kernel) (by decide +kernel), zIn 271 (by decide +kernel) (by decide +kernel), zIn 272 (by decide +kernel) (by decide +kernel), by decide +kernel, by decide +kernel, by decide +kernel⟩
theorem mv_X9_frontNumber : zMv yX9_frontNumber cX9_frontNumber 3 (Option.some FieldType.long) 2 := ⟨zIn 415 (by decide +kernel) (by decide +kernel), zIn 3 (by decide +kernel) (by decide +kernel), zIn 413 (by decide +kernel) (by decide +kernel), zIn 414 (by decide +kernel) (by decide +kernel), by decide +kernel, by decide +kernel, by decide +kernel⟩
theorem mv_X9_reckon : zMv yX9_reckon cX9_reckon 7 (Option.none : Option FieldType) 1 := ⟨zIn 247 (by decide +kernel) (by decide +kernel), zIn 3 (by decide +kernel) (by decide +kernel), zIn 245 (by decide +kernel) (by decide +kernel), zIn 246 (by decide +kernel) (by decide +kernel), by decide +kernel, by decide +kernel, by decide +kernel⟩
theorem mv_X9_fronted : zMv yX9_fronted cX9_fronted 5 (Option.some FieldType.long) 4 := ⟨zIn 269 (by decide +kernel) (by decide +kernel), zIn 3 (by decide +kernel) (by decide +kernel), zIn 268 (by decide +kernel) (by decide +kernel), zInP 0 (by decide +kernel) (by decide +kernel), by decide +kernel, by decide +kernel, by decide +kernel⟩
theorem mv_X9_parted : zMv yX9_parted cX9_parted 7 (Option.some FieldType.long) 3 := ⟨zIn 283 (by decide +kernel) (by decide +kernel), zIn 3 (by decide +kernel) (by decide +kernel), zIn 282 (by decide +kernel) (by decide +kernel), zInP 1 (by decide +kernel) (by decide +kernel), by decide +kernel, by decide +kernel, by decide +kernel⟩
theorem mv_X10_size : zMv yX10_size cX10_size 1 (Option.some FieldType.int) 0 := ⟨zIn 251 (by decide +kernel) (by decide +kernel), zIn 2 (by decide +kernel) (by decide +kernel), zIn 249 (by decide +kernel) (by decide +kernel), zIn 250 (by decide +kernel) (by decide +kernel), by decide +kernel, by decide +kernel, by decide +kernel⟩
theorem mv_X10_at : zMv yX10_at cX10_at 2 (Option.some FieldType.int) 1 := ⟨zIn 262 (by decide +kernel) (by decide +kernel), zIn 2 (by decide +kernel) (by decide +kernel), zIn 260 (by decide +kernel) (by decide +kernel), zIn 261 (by decide +kernel) (by decide +kernel), by decide +kernel, by decide +kernel, by decide +kernel⟩
theorem mv_X10_clear : zMv yX10_clear cX10_clear 1 (Option.none : Option FieldType) 0 := ⟨zIn 364 (by decide +kernel) (by decide +kernel), zIn 2 (by decide +kernel) (by decide +kernel), zIn 362 (by decide +kernel) (by decide +kernel), zIn 363 (by decide +kernel) (by decide +kernel), by decide +kernel, by decide +kernel, by decide +kernel⟩
theorem mv_X10_add : zMv yX10_add cX10_add 2 (Option.none : Option FieldType) 1 := ⟨zIn 240 (by decide +kernel) (by decide +kernel), zIn 2 (by decide +kernel) (by decide +kernel), zIn 238 (by decide +kernel) (by decide +kernel), zIn 239 (by decide +kernel) (by decide +kernel), by decide +kernel, by decide +kernel, by decide +kernel⟩
theorem mv_X10_become : zMv yX10_become cX10_become 3 (Option.none : Option FieldType) 1 := ⟨zIn 360 (by decide +kernel) (by decide +kernel), zIn 2 (by decide +kernel) (by decide +kernel), zIn 358 (by decide +kernel) (by decide +kernel), zIn 359 (by decide +kernel) (by decide +kernel), by decide +kernel, by decide +kernel, by decide +kernel⟩
theorem mv_X10_bracketed : zMv yX10_bracketed cX10_bracketed 5 (Option.none : Option FieldType) 3 := ⟨zIn 747 (by decide +kernel) (by decide +kernel), zIn 2 (by decide +kernel) (by decide +kernel), zIn 745 (by decide +kernel) (by decide +kernel), zIn 746 (by decide +kernel) (by decide +kernel), by decide +kernel, by decide +kernel, by decide +kernel⟩
theorem mv_X10_letters : zMv yX10_letters cX10_letters 3 (Option.some FieldType.int) 0 := ⟨zIn 858 (by decide +kernel) (by decide +kernel), zIn 2 (by decide +kernel) (by decide +kernel), zIn 856 (by decide +kernel) (by decide +kernel), zIn 857 (by decide +kernel) (by decide +kernel), by decide +kernel, by decide +kernel, by decide +kernel⟩
theorem mv_X10_mostOpen : zMv yX10_mostOpen cX10_mostOpen 4 (Option.some FieldType.int) 0 := ⟨zIn 751 (by decide +kernel) (by decide +kernel), zIn 2 (by decide +kernel) (by decide +kernel), zIn 749 (by decide +kernel) (by decide +kernel), zIn 750 (by decide +kernel) (by decide +kernel), by decide +kernel, by decide +kernel, by decide +kernel⟩
theorem mv_X10_closeAfter : zMv yX10_closeAfter cX10_closeAfter 5 (Option.some FieldType.int) 1 := ⟨zIn 255 (by decide +kernel) (by decide +kernel), zIn 2 (by decide +kernel) (by decide +kernel), zIn 253 (by decide +kernel) (by decide +kernel), zIn 254 (by decide +kernel) (by decide +kernel), by decide +kernel, by decide +kernel, by decide +kernel⟩
theorem mv_X10_fault : zMv yX10_fault cX10_fault 5 (Option.some FieldType.int) 0 := ⟨zIn 349 (by decide +kernel) (by decide +kernel), zIn 2 (by decide +kernel) (by decide +kernel), zIn 347 (by decide +kernel) (by decide +kernel), zIn 348 (by decide +kernel) (by decide +kernel), by decide +kernel, by decide +kernel, by decide +kernel⟩
theorem lk_X11_92 : zLk RX11 92 yX10_add := Or.inl (zIn 237 (by decide +kernel) (by decide +kernel))
theorem lk_X11_96 : zLk RX11 96 yX9_reckon := Or.inl (zIn 244 (by decide +kernel) (by decide +kernel))
theorem lk_X11_100 : zLk RX11 100 yX11_refuse := Or.inl (zIn 334 (by decide +kernel) (by decide +kernel))
theorem lk_X11_104 : zLk RX11 104 yX10_size := Or.inl (zIn 340 (by decide +kernel) (by decide +kernel))
theorem lk_X11_110 : zLk RX11 110 yX10_fault := Or.inl (zIn 346 (by decide +kernel) (by decide +kernel))
theorem lk_X11_113 : zLk RX11 113 yX11_takeSentence := Or.inl (zIn 353 (by decide +kernel) (by decide +kernel))
theorem lk_X11_116 : zLk RX11 116 yX10_clear := Or.inl (zIn 370 (by decide +kernel) (by decide +kernel))
theorem lk_X11_119 : zLk RX11 119 yX10_at := Or.inl (zIn 375 (by decide +kernel) (by decide +kernel))
theorem lk_X11_122 : zLk RX11 122 yX9_number := Or.inl (zIn 380 (by decide +kernel) (by decide +kernel))
theorem lk_X11_126 : zLk RX11 126 yX11_spent := Or.inl (zIn 385 (by decide +kernel) (by decide +kernel))
theorem lk_X11_130 : zLk RX11 130 yX11_noReading := Or.inl (zIn 509 (by decide +kernel) (by decide +kernel))
theorem lk_X11_134 : zLk RX11 134 yX7_grow := Or.inl (zIn 517 (by decide +kernel) (by decide +kernel))
theorem lk_X11_138 : zLk RX11 138 yX7_size := Or.inl (zIn 518 (by decide +kernel) (by decide +kernel))
theorem lk_X11_139 : zLk RX11 139 yX7_kind := Or.inl (zIn 523 (by decide +kernel) (by decide +kernel))
theorem lk_X11_142 : zLk RX11 142 yX7_from := Or.inl (zIn 524 (by decide +kernel) (by decide +kernel))
theorem lk_X11_145 : zLk RX11 145 yX7_end := Or.inl (zIn 525 (by decide +kernel) (by decide +kernel))
theorem lk_X11_148 : zLk RX11 148 yX2_meaning := Or.inl (zIn 530 (by decide +kernel) (by decide +kernel))
theorem lk_X11_152 : zLk RX11 152 yX11_noCase := Or.inl (zIn 539 (by decide +kernel) (by decide +kernel))
theorem lk_X11_155 : zLk RX11 155 yX11_bit := Or.inl (zIn 542 (by decide +kernel) (by decide +kernel))
theorem lk_X11_159 : zLk RX11 159 yX2_lettingAt := Or.inl (zIn 549 (by decide +kernel) (by decide +kernel))
theorem lk_X11_162 : zLk RX11 162 yX2_letByAll := Or.inl (zIn 559 (by decide +kernel) (by decide +kernel))
theorem lk_X11_166 : zLk RX11 166 yX2_barredByAll := Or.inl (zIn 564 (by decide +kernel) (by decide +kernel))
theorem lk_X11_169 : zLk RX11 169 yX8_gather := Or.inl (zIn 577 (by decide +kernel) (by decide +kernel))
theorem lk_X11_173 : zLk RX11 173 yX8_size := Or.inl (zIn 589 (by decide +kernel) (by decide +kernel))
theorem lk_X11_174 : zLk RX11 174 yX11_leastCase := Or.inl (zIn 597 (by decide +kernel) (by decide +kernel))
theorem lk_X11_178 : zLk RX11 178 yX2_idlePlaces := Or.inl (zIn 604 (by decide +kernel) (by decide +kernel))
theorem lk_X11_181 : zLk RX11 181 yX2_idleInAll := Or.inl (zIn 613 (by decide +kernel) (by decide +kernel))
theorem lk_X11_184 : zLk RX11 184 yX11_noRule := Or.inl (zIn 622 (by decide +kernel) (by decide +kernel))
theorem lk_X11_187 : zLk RX11 187 yX2_isMet := Or.inl (zIn 625 (by decide +kernel) (by decide +kernel))
theorem lk_X11_191 : zLk RX11 191 yX4_has := Or.inl (zIn 633 (by decide +kernel) (by decide +kernel))
theorem lk_X11_194 : zLk RX11 194 yX4_add := Or.inl (zIn 642 (by decide +kernel) (by decide +kernel))
theorem lk_X11_195 : zLk RX11 195 yX4_size := Or.inl (zIn 647 (by decide +kernel) (by decide +kernel))
theorem lk_X11_196 : zLk RX11 196 yX4_clear := Or.inl (zIn 655 (by decide +kernel) (by decide +kernel))
theorem lk_X11_197 : zLk RX11 197 yX6_sift := Or.inl (zIn 663 (by decide +kernel) (by decide +kernel))
theorem lk_X11_201 : zLk RX11 201 yX6_size := Or.inl (zIn 681 (by decide +kernel) (by decide +kernel))
theorem lk_X11_202 : zLk RX11 202 yX6_at := Or.inl (zIn 685 (by decide +kernel) (by decide +kernel))
theorem lk_X11_203 : zLk RX11 203 yX6_passed := Or.inl (zIn 690 (by decide +kernel) (by decide +kernel))
theorem lk_X11_206 : zLk RX11 206 yX2_areAtOdds := Or.inl (zIn 698 (by decide +kernel) (by decide +kernel))
theorem lk_X11_209 : zLk RX11 209 yX6_keepsAs := Or.inl (zIn 707 (by decide +kernel) (by decide +kernel))
theorem lk_X11_213 : zLk RX11 213 yX2_evenestCase := Or.inl (zIn 715 (by decide +kernel) (by decide +kernel))
theorem lk_X11_216 : zLk RX11 216 yX8_fewestCases := Or.inl (zIn 727 (by decide +kernel) (by decide +kernel))
theorem lk_X11_219 : zLk RX11 219 yX10_bracketed := Or.inl (zIn 744 (by decide +kernel) (by decide +kernel))
theorem lk_X11_223 : zLk RX11 223 yX10_mostOpen := Or.inl (zIn 748 (by decide +kernel) (by decide +kernel))
theorem lk_X11_226 : zLk RX11 226 yX3_begin := Or.inl (zIn 759 (by decide +kernel) (by decide +kernel))
theorem lk_X11_230 : zLk RX11 230 yX2_size := Or.inl (zIn 513 (by decide +kernel) (by decide +kernel))
theorem lk_X11_231 : zLk RX11 231 yX3_hold := Or.inl (zIn 768 (by decide +kernel) (by decide +kernel))
theorem lk_X11_234 : zLk RX11 234 yX3_fewestNodes := Or.inl (zIn 773 (by decide +kernel) (by decide +kernel))
theorem lk_X11_237 : zLk RX11 237 yX0_size := Or.inl (zIn 785 (by decide +kernel) (by decide +kernel))
theorem lk_X11_238 : zLk RX11 238 yX0_add := Or.inl (zIn 789 (by decide +kernel) (by decide +kernel))
theorem lk_X11_242 : zLk RX11 242 yX0_servedBy := Or.inl (zIn 799 (by decide +kernel) (by decide +kernel))
theorem lk_X11_245 : zLk RX11 245 yX1_take := Or.inl (zIn 813 (by decide +kernel) (by decide +kernel))
theorem lk_X11_249 : zLk RX11 249 yX1_isThere := Or.inl (zIn 833 (by decide +kernel) (by decide +kernel))
theorem lk_X11_252 : zLk RX11 252 yX1_words := Or.inl (zIn 837 (by decide +kernel) (by decide +kernel))
theorem lk_X11_256 : zLk RX11 256 yX1_order := Or.inl (zIn 841 (by decide +kernel) (by decide +kernel))
theorem lk_X11_259 : zLk RX11 259 yX4_become := Or.inl (zIn 845 (by decide +kernel) (by decide +kernel))
theorem lk_X11_263 : zLk RX11 263 yX1_aims := Or.inl (zIn 846 (by decide +kernel) (by decide +kernel))
theorem lk_X11_266 : zLk RX11 266 yX0_become := Or.inl (zIn 850 (by decide +kernel) (by decide +kernel))
theorem lk_X11_269 : zLk RX11 269 yX10_letters := Or.inl (zIn 855 (by decide +kernel) (by decide +kernel))
theorem lk_X11_272 : zLk RX11 272 yX11_look := Or.inl (zIn 338 (by decide +kernel) (by decide +kernel))
theorem lk_X11_276 : zLk RX11 276 yX11_put := Or.inl (zIn 339 (by decide +kernel) (by decide +kernel))
theorem lk_X11_280 : zLk RX11 280 yX10_become := Or.inl (zIn 357 (by decide +kernel) (by decide +kernel))
theorem lk_X11_282 : zLk RX11 282 yX2_forget := Or.inl (zIn 366 (by decide +kernel) (by decide +kernel))
theorem lk_X11_285 : zLk RX11 285 yX11_readings := Or.inl (zIn 389 (by decide +kernel) (by decide +kernel))
theorem lk_X11_290 : zLk RX11 290 yX2_isMade := Or.inl (zIn 391 (by decide +kernel) (by decide +kernel))
theorem lk_X11_293 : zLk RX11 293 yX2_make := Or.inl (zIn 395 (by decide +kernel) (by decide +kernel))
theorem lk_X0_22 : zLk RX0 22 yX11_put := Or.inr ⟨"MayBeRead", List.mem_append_right _ (List.mem_of_getElem? (i := 793) (by decide +kernel))⟩
theorem lk_X0_26 : zLk RX0 26 yX11_look := Or.inr ⟨"MayBeRead", List.mem_append_right _ (List.mem_of_getElem? (i := 803) (by decide +kernel))⟩
theorem lk_X0_30 : zLk RX0 30 yX0_add := Or.inl (zIn 828 (by decide +kernel) (by decide +kernel))
theorem lk_X0_34 : zLk RX0 34 yX11_bit := Or.inr ⟨"MayBeRead", List.mem_append_right _ (List.mem_of_getElem? (i := 804) (by decide +kernel))⟩
theorem lk_X1_34 : zLk RX1 34 yX10_become := Or.inl (zIn 817 (by decide +kernel) (by decide +kernel))
theorem lk_X1_38 : zLk RX1 38 yX4_become := Or.inl (zIn 818 (by decide +kernel) (by decide +kernel))
theorem lk_X1_41 : zLk RX1 41 yX0_become := Or.inl (zIn 824 (by decide +kernel) (by decide +kernel))
theorem lk_X2_37 : zLk RX2 37 yX7_grow := Or.inl (zIn 399 (by decide +kernel) (by decide +kernel))
theorem lk_X2_43 : zLk RX2 43 yX5_weigh := Or.inl (zIn 432 (by decide +kernel) (by decide +kernel))
theorem lk_X2_47 : zLk RX2 47 yX5_meaning := Or.inl (zIn 498 (by decide +kernel) (by decide +kernel))
theorem lk_X2_51 : zLk RX2 51 yX11_put_ := Or.inr ⟨"MayBeRead", List.mem_append_right _ (List.mem_of_getElem? (i := 499) (by decide +kernel))⟩
theorem lk_X2_55 : zLk RX2 55 yX5_idlePlaces := Or.inl (zIn 500 (by decide +kernel) (by decide +kernel))
theorem lk_X2_59 : zLk RX2 59 yX11_put := Or.inr ⟨"MayBeRead", List.mem_append_right _ (List.mem_of_getElem? (i := 504) (by decide +kernel))⟩
theorem lk_X2_62 : zLk RX2 62 yX5_metRules := Or.inl (zIn 505 (by decide +kernel) (by decide +kernel))
theorem lk_X2_65 : zLk RX2 65 yX11_look_ := Or.inr ⟨"MayBeRead", List.mem_append_right _ (List.mem_of_getElem? (i := 534) (by decide +kernel))⟩
theorem lk_X2_69 : zLk RX2 69 yX11_look := Or.inr ⟨"MayBeRead", List.mem_append_right _ (List.mem_of_getElem? (i := 608) (by decide +kernel))⟩
theorem lk_X2_72 : zLk RX2 72 yX11_bit := Or.inr ⟨"MayBeRead", List.mem_append_right _ (List.mem_of_getElem? (i := 554) (by decide +kernel))⟩
theorem lk_X2_76 : zLk RX2 76 yX2_meaning := Or.inl (zIn 553 (by decide +kernel) (by decide +kernel))
theorem lk_X2_83 : zLk RX2 83 yX2_idlePlaces := Or.inl (zIn 617 (by decide +kernel) (by decide +kernel))
theorem lk_X2_86 : zLk RX2 86 yX2_isMet := Or.inl (zIn 702 (by decide +kernel) (by decide +kernel))
theorem lk_X2_90 : zLk RX2 90 yX2_lettingAt := Or.inl (zIn 719 (by decide +kernel) (by decide +kernel))
theorem lkm_X2_93 : Cond.methodLink RX2 93 Lib.Math.abs.name ∈ WS := zIn 720 (by decide +kernel) (by decide +kernel)
theorem lk_X3_25 : zLk RX3 25 yX7_size := Or.inl (zIn 763 (by decide +kernel) (by decide +kernel))
theorem lk_X3_30 : zLk RX3 30 yX7_kind := Or.inl (zIn 764 (by decide +kernel) (by decide +kernel))
theorem lk_X3_34 : zLk RX3 34 yX7_from := Or.inl (zIn 765 (by decide +kernel) (by decide +kernel))
theorem lk_X3_37 : zLk RX3 37 yX7_end := Or.inl (zIn 766 (by decide +kernel) (by decide +kernel))
theorem lk_X3_40 : zLk RX3 40 yX11_put := Or.inr ⟨"MayBeRead", List.mem_append_right _ (List.mem_of_getElem? (i := 767) (by decide +kernel))⟩
theorem lk_X3_44 : zLk RX3 44 yX11_look := Or.inr ⟨"MayBeRead", List.mem_append_right _ (List.mem_of_getElem? (i := 772) (by decide +kernel))⟩
theorem lk_X3_48 : zLk RX3 48 yX3_sharedWith := Or.inl (zIn 777 (by decide +kernel) (by decide +kernel))
theorem lk_X4_19 : zLk RX4 19 yX11_look := Or.inr ⟨"MayBeRead", List.mem_append_right _ (List.mem_of_getElem? (i := 641) (by decide +kernel))⟩
theorem lk_X4_23 : zLk RX4 23 yX4_at := Or.inl (zIn 637 (by decide +kernel) (by decide +kernel))
theorem lk_X4_27 : zLk RX4 27 yX11_put := Or.inr ⟨"MayBeRead", List.mem_append_right _ (List.mem_of_getElem? (i := 646) (by decide +kernel))⟩
theorem lk_X4_31 : zLk RX4 31 yX4_clear := Or.inl (zIn 822 (by decide +kernel) (by decide +kernel))
theorem lk_X4_34 : zLk RX4 34 yX4_add := Or.inl (zIn 823 (by decide +kernel) (by decide +kernel))
theorem lk_X5_22 : zLk RX5 22 yX11_look_ := Or.inr ⟨"MayBeRead", List.mem_append_right _ (List.mem_of_getElem? (i := 448) (by decide +kernel))⟩
theorem lk_X5_33 : zLk RX5 33 yX7_size := Or.inl (zIn 436 (by decide +kernel) (by decide +kernel))
theorem lk_X5_39 : zLk RX5 39 yX5_meaningOf := Or.inl (zIn 440 (by decide +kernel) (by decide +kernel))
theorem lk_X5_43 : zLk RX5 43 yX11_put_ := Or.inr ⟨"MayBeRead", List.mem_append_right _ (List.mem_of_getElem? (i := 469) (by decide +kernel))⟩
theorem lk_X5_47 : zLk RX5 47 yX5_bareOf := Or.inl (zIn 470 (by decide +kernel) (by decide +kernel))
theorem lk_X5_51 : zLk RX5 51 yX11_put := Or.inr ⟨"MayBeRead", List.mem_append_right _ (List.mem_of_getElem? (i := 475) (by decide +kernel))⟩
theorem lk_X5_54 : zLk RX5 54 yX5_brokenAt := Or.inl (zIn 476 (by decide +kernel) (by decide +kernel))
theorem lk_X5_58 : zLk RX5 58 yX5_findIdle := Or.inl (zIn 486 (by decide +kernel) (by decide +kernel))
theorem lk_X5_62 : zLk RX5 62 yX5_brokenByWhole := Or.inl (zIn 490 (by decide +kernel) (by decide +kernel))
theorem lk_X5_65 : zLk RX5 65 yX7_inner := Or.inl (zIn 444 (by decide +kernel) (by decide +kernel))
theorem lk_X5_69 : zLk RX5 69 yX7_behind := Or.inl (zIn 449 (by decide +kernel) (by decide +kernel))
theorem lk_X5_72 : zLk RX5 72 yX7_kind := Or.inl (zIn 453 (by decide +kernel) (by decide +kernel))
theorem lk_X5_75 : zLk RX5 75 yX7_from := Or.inl (zIn 457 (by decide +kernel) (by decide +kernel))
theorem lk_X5_78 : zLk RX5 78 yX10_at := Or.inl (zIn 461 (by decide +kernel) (by decide +kernel))
theorem lk_X5_83 : zLk RX5 83 yX11_casesOf := Or.inr ⟨"MayBeRead", List.mem_append_right _ (List.mem_of_getElem? (i := 462) (by decide +kernel))⟩
theorem lk_X5_91 : zLk RX5 91 yX11_look := Or.inr ⟨"MayBeRead", List.mem_append_right _ (List.mem_of_getElem? (i := 474) (by decide +kernel))⟩
theorem lk_X5_94 : zLk RX5 94 yX11_isJoin := Or.inr ⟨"MayBeRead", List.mem_append_right _ (List.mem_of_getElem? (i := 485) (by decide +kernel))⟩
theorem lk_X5_98 : zLk RX5 98 yX5_meaning := Or.inl (zIn 494 (by decide +kernel) (by decide +kernel))
theorem lk_X5_102 : zLk RX5 102 yX7_end := Or.inl (zIn 480 (by decide +kernel) (by decide +kernel))
theorem lk_X5_105 : zLk RX5 105 yX10_closeAfter := Or.inl (zIn 484 (by decide +kernel) (by decide +kernel))
theorem lk_X6_19 : zLk RX6 19 yX11_look := Or.inr ⟨"MayBeRead", List.mem_append_right _ (List.mem_of_getElem? (i := 679) (by decide +kernel))⟩
theorem lk_X6_26 : zLk RX6 26 yX2_size := Or.inl (zIn 667 (by decide +kernel) (by decide +kernel))
theorem lk_X6_31 : zLk RX6 31 yX11_put := Or.inr ⟨"MayBeRead", List.mem_append_right _ (List.mem_of_getElem? (i := 668) (by decide +kernel))⟩
theorem lk_X6_35 : zLk RX6 35 yX4_size := Or.inl (zIn 669 (by decide +kernel) (by decide +kernel))
theorem lk_X6_38 : zLk RX6 38 yX4_at := Or.inl (zIn 670 (by decide +kernel) (by decide +kernel))
theorem lk_X6_42 : zLk RX6 42 yX6_keepMet := Or.inl (zIn 671 (by decide +kernel) (by decide +kernel))
theorem lk_X6_46 : zLk RX6 46 yX6_at := Or.inl (zIn 675 (by decide +kernel) (by decide +kernel))
theorem lk_X6_47 : zLk RX6 47 yX2_isMet := Or.inl (zIn 680 (by decide +kernel) (by decide +kernel))
theorem lk_X7_41 : zLk RX7 41 yX11_look := Or.inr ⟨"MayBeRead", List.mem_append_right _ (List.mem_of_getElem? (i := 410) (by decide +kernel))⟩
theorem lk_X7_48 : zLk RX7 48 yX10_size := Or.inl (zIn 403 (by decide +kernel) (by decide +kernel))
theorem lk_X7_53 : zLk RX7 53 yX7_await := Or.inl (zIn 404 (by decide +kernel) (by decide +kernel))
theorem lk_X7_57 : zLk RX7 57 yX11_look_ := Or.inr ⟨"MayBeRead", List.mem_append_right _ (List.mem_of_getElem? (i := 411) (by decide +kernel))⟩
theorem lk_X7_60 : zLk RX7 60 yX9_frontNumber := Or.inl (zIn 412 (by decide +kernel) (by decide +kernel))
theorem lk_X7_66 : zLk RX7 66 yX11_put := Or.inr ⟨"MayBeRead", List.mem_append_right _ (List.mem_of_getElem? (i := 408) (by decide +kernel))⟩
theorem lk_X7_70 : zLk RX7 70 yX7_growFront := Or.inl (zIn 416 (by decide +kernel) (by decide +kernel))
theorem lk_X7_74 : zLk RX7 74 yX7_growJoin := Or.inl (zIn 426 (by decide +kernel) (by decide +kernel))
theorem lk_X7_78 : zLk RX7 78 yX11_put_ := Or.inr ⟨"MayBeRead", List.mem_append_right _ (List.mem_of_getElem? (i := 409) (by decide +kernel))⟩
theorem lk_X7_81 : zLk RX7 81 yX10_at := Or.inl (zIn 420 (by decide +kernel) (by decide +kernel))
theorem lk_X7_85 : zLk RX7 85 yX11_kindOf := Or.inr ⟨"MayBeRead", List.mem_append_right _ (List.mem_of_getElem? (i := 421) (by decide +kernel))⟩
theorem lk_X7_88 : zLk RX7 88 yX7_addNode := Or.inl (zIn 422 (by decide +kernel) (by decide +kernel))
theorem lk_X7_92 : zLk RX7 92 yX11_isJoin := Or.inr ⟨"MayBeRead", List.mem_append_right _ (List.mem_of_getElem? (i := 430) (by decide +kernel))⟩
theorem lk_X7_96 : zLk RX7 96 yX9_number := Or.inl (zIn 431 (by decide +kernel) (by decide +kernel))
theorem lk_X8_19 : zLk RX8 19 yX2_size := Or.inl (zIn 581 (by decide +kernel) (by decide +kernel))
theorem lk_X8_24 : zLk RX8 24 yX2_meaning := Or.inl (zIn 582 (by decide +kernel) (by decide +kernel))
theorem lk_X8_28 : zLk RX8 28 yX8_has := Or.inl (zIn 583 (by decide +kernel) (by decide +kernel))
theorem lk_X8_32 : zLk RX8 32 yX11_put_ := Or.inr ⟨"MayBeRead", List.mem_append_right _ (List.mem_of_getElem? (i := 588) (by decide +kernel))⟩
theorem lk_X8_36 : zLk RX8 36 yX11_look_ := Or.inr ⟨"MayBeRead", List.mem_append_right _ (List.mem_of_getElem? (i := 587) (by decide +kernel))⟩
theorem lk_X8_40 : zLk RX8 40 yX8_arePartedBy := Or.inl (zIn 731 (by decide +kernel) (by decide +kernel))
theorem lk_X8_44 : zLk RX8 44 yX8_isThirdFor := Or.inl (zIn 736 (by decide +kernel) (by decide +kernel))
theorem lk_X8_48 : zLk RX8 48 yX11_bit := Or.inr ⟨"MayBeRead", List.mem_append_right _ (List.mem_of_getElem? (i := 735) (by decide +kernel))⟩
theorem lk_X9_18 : zLk RX9 18 yX11_look_ := Or.inr ⟨"MayBeRead", List.mem_append_right _ (List.mem_of_getElem? (i := 274) (by decide +kernel))⟩
theorem lk_X9_22 : zLk RX9 22 yX10_size := Or.inl (zIn 248 (by decide +kernel) (by decide +kernel))
theorem lk_X9_28 : zLk RX9 28 yX10_closeAfter := Or.inl (zIn 252 (by decide +kernel) (by decide +kernel))
theorem lk_X9_32 : zLk RX9 32 yX10_at := Or.inl (zIn 259 (by decide +kernel) (by decide +kernel))
theorem lk_X9_35 : zLk RX9 35 yX11_kindOf := Or.inr ⟨"MayBeRead", List.mem_append_right _ (List.mem_of_getElem? (i := 263) (by decide +kernel))⟩
theorem lk_X9_38 : zLk RX9 38 yX9_fronted := Or.inl (zIn 266 (by decide +kernel) (by decide +kernel))
theorem lk_X9_42 : zLk RX9 42 yX11_put_ := Or.inr ⟨"MayBeRead", List.mem_append_right _ (List.mem_of_getElem? (i := 277) (by decide +kernel))⟩
theorem lk_X9_46 : zLk RX9 46 yX9_parted := Or.inl (zIn 280 (by decide +kernel) (by decide +kernel))
theorem lk_X9_50 : zLk RX9 50 yX9_number := Or.inl (zIn 270 (by decide +kernel) (by decide +kernel))
theorem lk_X9_54 : zLk RX9 54 yX11_isJoin := Or.inr ⟨"MayBeRead", List.mem_append_right _ (List.mem_of_getElem? (i := 284) (by decide +kernel))⟩
theorem lk_X10_19 : zLk RX10 19 yX11_look := Or.inr ⟨"MayBeRead", List.mem_append_right _ (List.mem_of_getElem? (i := 256) (by decide +kernel))⟩
theorem lk_X10_23 : zLk RX10 23 yX11_put := Or.inr ⟨"MayBeRead", List.mem_append_right _ (List.mem_of_getElem? (i := 241) (by decide +kernel))⟩
theorem lk_X10_27 : zLk RX10 27 yX10_clear := Or.inl (zIn 361 (by decide +kernel) (by decide +kernel))
theorem lk_X10_30 : zLk RX10 30 yX10_at := Or.inl (zIn 350 (by decide +kernel) (by decide +kernel))
theorem lk_X10_34 : zLk RX10 34 yX10_add := Or.inl (zIn 365 (by decide +kernel) (by decide +kernel))
theorem lk_X10_38 : zLk RX10 38 yX11_kindOf := Or.inr ⟨"MayBeRead", List.mem_append_right _ (List.mem_of_getElem? (i := 351) (by decide +kernel))⟩
theorem lkm_X10_41 : Cond.methodLink RX10 41 Lib.Math.max.name ∈ WS := zIn 752 (by decide +kernel) (by decide +kernel)
theorem lk_X10_47 : zLk RX10 47 yX11_isJoin := Or.inr ⟨"MayBeRead", List.mem_append_right _ (List.mem_of_getElem? (i := 352) (by decide +kernel))⟩
theorem lk_L_15 : zLk RL 15 yX11_feed := Or.inl (zIn 330 (by decide +kernel) (by decide +kernel))
theorem lk_L_19 : zLk RL 19 yX12_feed := Or.inl (zIn 1040 (by decide +kernel) (by decide +kernel))
theorem lk_L_20 : zLk RL 20 yX11_read := Or.inl (zIn 342 (by decide +kernel) (by decide +kernel))
theorem lk_L_24 : zLk RL 24 yX12_read := Or.inl (zIn 1049 (by decide +kernel) (by decide +kernel))
theorem lk_L_25 : zLk RL 25 yX11_wordAt := Or.inl (zIn 371 (by decide +kernel) (by decide +kernel))
theorem lk_L_29 : zLk RL 29 yX12_wordAt := Or.inl (zIn 1056 (by decide +kernel) (by decide +kernel))
theorem lk_L_30 : zLk RL 30 yX11_readings := Or.inl (zIn 376 (by decide +kernel) (by decide +kernel))
theorem lk_L_34 : zLk RL 34 yX12_readings := Or.inl (zIn 1063 (by decide +kernel) (by decide +kernel))
theorem lk_L_35 : zLk RL 35 yX11_nodes := Or.inl (zIn 381 (by decide +kernel) (by decide +kernel))
theorem lk_L_38 : zLk RL 38 yX12_nodes := Or.inl (zIn 1064 (by decide +kernel) (by decide +kernel))
theorem lk_L_39 : zLk RL 39 yX11_node := Or.inl (zIn 519 (by decide +kernel) (by decide +kernel))
theorem lk_L_43 : zLk RL 43 yX12_node := Or.inl (zIn 1072 (by decide +kernel) (by decide +kernel))
theorem lk_L_44 : zLk RL 44 yX11_means := Or.inl (zIn 526 (by decide +kernel) (by decide +kernel))
theorem lk_L_48 : zLk RL 48 yX12_means := Or.inl (zIn 1076 (by decide +kernel) (by decide +kernel))
theorem lk_L_49 : zLk RL 49 yX11_lets := Or.inl (zIn 535 (by decide +kernel) (by decide +kernel))
theorem lk_L_53 : zLk RL 53 yX12_lets := Or.inl (zIn 1080 (by decide +kernel) (by decide +kernel))
theorem lk_L_54 : zLk RL 54 yX11_map := Or.inl (zIn 545 (by decide +kernel) (by decide +kernel))
theorem lk_L_57 : zLk RL 57 yX12_map := Or.inl (zIn 1088 (by decide +kernel) (by decide +kernel))
theorem lk_L_58 : zLk RL 58 yX11_all := Or.inl (zIn 555 (by decide +kernel) (by decide +kernel))
theorem lk_L_62 : zLk RL 62 yX12_all := Or.inl (zIn 1096 (by decide +kernel) (by decide +kernel))
theorem lk_L_63 : zLk RL 63 yX11_same := Or.inl (zIn 569 (by decide +kernel) (by decide +kernel))
theorem lk_L_66 : zLk RL 66 yX12_same := Or.inl (zIn 1100 (by decide +kernel) (by decide +kernel))
theorem lk_L_67 : zLk RL 67 yX11_unlike := Or.inl (zIn 573 (by decide +kernel) (by decide +kernel))
theorem lk_L_70 : zLk RL 70 yX12_unlike := Or.inl (zIn 1104 (by decide +kernel) (by decide +kernel))
theorem lk_L_71 : zLk RL 71 yX11_part := Or.inl (zIn 593 (by decide +kernel) (by decide +kernel))
theorem lk_L_74 : zLk RL 74 yX12_part := Or.inl (zIn 1112 (by decide +kernel) (by decide +kernel))
theorem lk_L_75 : zLk RL 75 yX11_idle := Or.inl (zIn 600 (by decide +kernel) (by decide +kernel))
theorem lk_L_78 : zLk RL 78 yX12_idle := Or.inl (zIn 1116 (by decide +kernel) (by decide +kernel))
theorem lk_L_79 : zLk RL 79 yX11_needless := Or.inl (zIn 609 (by decide +kernel) (by decide +kernel))
theorem lk_L_82 : zLk RL 82 yX12_needless := Or.inl (zIn 1120 (by decide +kernel) (by decide +kernel))
theorem lk_L_83 : zLk RL 83 yX11_meets := Or.inl (zIn 618 (by decide +kernel) (by decide +kernel))
theorem lk_L_86 : zLk RL 86 yX12_meets := Or.inl (zIn 1124 (by decide +kernel) (by decide +kernel))
theorem lk_L_87 : zLk RL 87 yX11_choose := Or.inl (zIn 629 (by decide +kernel) (by decide +kernel))
theorem lk_L_90 : zLk RL 90 yX12_choose := Or.inl (zIn 1128 (by decide +kernel) (by decide +kernel))
theorem lk_L_91 : zLk RL 91 yX11_unchoose := Or.inl (zIn 651 (by decide +kernel) (by decide +kernel))
theorem lk_L_94 : zLk RL 94 yX12_unchoose := Or.inl (zIn 1132 (by decide +kernel) (by decide +kernel))
theorem lk_L_95 : zLk RL 95 yX11_leftOver := Or.inl (zIn 659 (by decide +kernel) (by decide +kernel))
theorem lk_L_98 : zLk RL 98 yX12_leftOver := Or.inl (zIn 1136 (by decide +kernel) (by decide +kernel))
theorem lk_L_99 : zLk RL 99 yX11_passedOver := Or.inl (zIn 686 (by decide +kernel) (by decide +kernel))
theorem lk_L_102 : zLk RL 102 yX12_passedOver := Or.inl (zIn 1144 (by decide +kernel) (by decide +kernel))
theorem lk_L_103 : zLk RL 103 yX11_quarrel := Or.inl (zIn 694 (by decide +kernel) (by decide +kernel))
theorem lk_L_106 : zLk RL 106 yX12_quarrel := Or.inl (zIn 1148 (by decide +kernel) (by decide +kernel))
theorem lk_L_107 : zLk RL 107 yX11_hangs := Or.inl (zIn 703 (by decide +kernel) (by decide +kernel))
theorem lk_L_110 : zLk RL 110 yX12_hangs := Or.inl (zIn 1152 (by decide +kernel) (by decide +kernel))
theorem lk_L_111 : zLk RL 111 yX11_test := Or.inl (zIn 711 (by decide +kernel) (by decide +kernel))
theorem lk_L_114 : zLk RL 114 yX12_test := Or.inl (zIn 1156 (by decide +kernel) (by decide +kernel))
theorem lk_L_115 : zLk RL 115 yX11_fewest := Or.inl (zIn 723 (by decide +kernel) (by decide +kernel))
theorem lk_L_118 : zLk RL 118 yX12_fewest := Or.inl (zIn 1160 (by decide +kernel) (by decide +kernel))
theorem lk_L_119 : zLk RL 119 yX11_bracket := Or.inl (zIn 740 (by decide +kernel) (by decide +kernel))
theorem lk_L_122 : zLk RL 122 yX12_bracket := Or.inl (zIn 1172 (by decide +kernel) (by decide +kernel))
theorem lk_L_123 : zLk RL 123 yX11_mend := Or.inl (zIn 755 (by decide +kernel) (by decide +kernel))
theorem lk_L_126 : zLk RL 126 yX12_mend := Or.inl (zIn 1176 (by decide +kernel) (by decide +kernel))
theorem lk_L_127 : zLk RL 127 yX11_aim := Or.inl (zIn 781 (by decide +kernel) (by decide +kernel))
theorem lk_L_130 : zLk RL 130 yX12_aim := Or.inl (zIn 1192 (by decide +kernel) (by decide +kernel))
theorem lk_L_131 : zLk RL 131 yX11_serves := Or.inl (zIn 794 (by decide +kernel) (by decide +kernel))
theorem lk_L_134 : zLk RL 134 yX12_serves := Or.inl (zIn 1199 (by decide +kernel) (by decide +kernel))
theorem lk_L_135 : zLk RL 135 yX11_best := Or.inl (zIn 805 (by decide +kernel) (by decide +kernel))
theorem lk_L_138 : zLk RL 138 yX12_best := Or.inl (zIn 1208 (by decide +kernel) (by decide +kernel))
theorem lk_L_139 : zLk RL 139 yX11_image := Or.inl (zIn 809 (by decide +kernel) (by decide +kernel))
theorem lk_L_142 : zLk RL 142 yX12_image := Or.inl (zIn 1212 (by decide +kernel) (by decide +kernel))
theorem lk_L_143 : zLk RL 143 yX11_on := Or.inl (zIn 829 (by decide +kernel) (by decide +kernel))
theorem lk_L_146 : zLk RL 146 yX12_on := Or.inl (zIn 1216 (by decide +kernel) (by decide +kernel))
theorem lk_L_147 : zLk RL 147 yX11_count := Or.inl (zIn 851 (by decide +kernel) (by decide +kernel))
theorem lk_L_150 : zLk RL 150 yX12_count := Or.inl (zIn 1220 (by decide +kernel) (by decide +kernel))
theorem lk_X12_88 : zLk RX12 88 yX12_finds := Or.inl (zIn 865 (by decide +kernel) (by decide +kernel))
theorem lk_X12_91 : zLk RX12 91 yX12_refuse := Or.inl (zIn 1044 (by decide +kernel) (by decide +kernel))
theorem lk_X12_100 : zLk RX12 100 yX12_kindOf := Or.inl (zIn 891 (by decide +kernel) (by decide +kernel))
theorem lk_X12_103 : zLk RX12 103 yX12_isLetter := Or.inl (zIn 880 (by decide +kernel) (by decide +kernel))
theorem lk_X12_107 : zLk RX12 107 yX12_fault := Or.inl (zIn 1053 (by decide +kernel) (by decide +kernel))
theorem lk_X12_111 : zLk RX12 111 yX12_isIn := Or.inl (zIn 1060 (by decide +kernel) (by decide +kernel))
theorem lk_X12_115 : zLk RX12 115 yX12_waysOf := Or.inl (zIn 883 (by decide +kernel) (by decide +kernel))
theorem lk_X12_119 : zLk RX12 119 yX12_isBracketed := Or.inl (zIn 887 (by decide +kernel) (by decide +kernel))
theorem lk_X12_122 : zLk RX12 122 yX12_firstWays := Or.inl (zIn 876 (by decide +kernel) (by decide +kernel))
theorem lk_X12_135 : zLk RX12 135 yX12_notes := Or.inl (zIn 907 (by decide +kernel) (by decide +kernel))
theorem lk_X12_144 : zLk RX12 144 yX12_breaks := Or.inl (zIn 912 (by decide +kernel) (by decide +kernel))
theorem lk_X12_148 : zLk RX12 148 yX12_meansRun := Or.inl (zIn 903 (by decide +kernel) (by decide +kernel))
theorem lk_X12_154 : zLk RX12 154 yX12_meansNow := Or.inl (zIn 899 (by decide +kernel) (by decide +kernel))
theorem lk_X12_158 : zLk RX12 158 yX12_mask := Or.inl (zIn 869 (by decide +kernel) (by decide +kernel))
theorem lk_X12_161 : zLk RX12 161 yX12_findWays := Or.inl (zIn 872 (by decide +kernel) (by decide +kernel))
theorem lk_X12_164 : zLk RX12 164 yX12_readings := Or.inl (zIn 894 (by decide +kernel) (by decide +kernel))
theorem lk_X12_173 : zLk RX12 173 yX12_idleIn := Or.inl (zIn 917 (by decide +kernel) (by decide +kernel))
theorem lk_X12_176 : zLk RX12 176 yX12_wrong := Or.inl (zIn 1068 (by decide +kernel) (by decide +kernel))
theorem lk_X12_179 : zLk RX12 179 yX12_does := Or.inl (zIn 1084 (by decide +kernel) (by decide +kernel))
theorem lk_X12_182 : zLk RX12 182 yX12_lettingOf := Or.inl (zIn 1092 (by decide +kernel) (by decide +kernel))
theorem lk_X12_188 : zLk RX12 188 yX12_findUnlike := Or.inl (zIn 1108 (by decide +kernel) (by decide +kernel))
theorem lk_X12_197 : zLk RX12 197 yX12_findOver := Or.inl (zIn 1140 (by decide +kernel) (by decide +kernel))
theorem lk_X12_201 : zLk RX12 201 yX12_isParted := Or.inl (zIn 1168 (by decide +kernel) (by decide +kernel))
theorem lk_X12_205 : zLk RX12 205 yX12_isPartedBy := Or.inl (zIn 1164 (by decide +kernel) (by decide +kernel))
theorem lk_X12_209 : zLk RX12 209 yX12_has := Or.inl (zIn 1184 (by decide +kernel) (by decide +kernel))
theorem lk_X12_213 : zLk RX12 213 yX12_isMended := Or.inl (zIn 1180 (by decide +kernel) (by decide +kernel))
theorem lk_X12_216 : zLk RX12 216 yX12_isMark := Or.inl (zIn 1188 (by decide +kernel) (by decide +kernel))
theorem lk_X12_219 : zLk RX12 219 yX12_within := Or.inl (zIn 1196 (by decide +kernel) (by decide +kernel))
theorem lk_X12_227 : zLk RX12 227 yX12_servesBy := Or.inl (zIn 1204 (by decide +kernel) (by decide +kernel))
theorem kc_X11_108 : Cond.constantLong RX11 108 255 ∈ WS := zIn 341 (by decide +kernel) (by decide +kernel)
theorem kc_X11_288 : Cond.constantLong RX11 288 200 ∈ WS := zIn 390 (by decide +kernel) (by decide +kernel)
theorem kc_X5_87 : Cond.constantLong RX5 87 4294967295 ∈ WS := zIn 467 (by decide +kernel) (by decide +kernel)
theorem kc_X5_89 : Cond.constantLong RX5 89 (-1) ∈ WS := zIn 468 (by decide +kernel) (by decide +kernel)
theorem kc_X2_79 : Cond.constantLong RX2 79 4294967295 ∈ WS := zIn 563 (by decide +kernel) (by decide +kernel)
theorem kc_X2_81 : Cond.constantLong RX2 81 (-1) ∈ WS := zIn 568 (by decide +kernel) (by decide +kernel)
theorem kc_X11_241 : Cond.constant RX11 241 1000000000 ∈ WS := zIn 798 (by decide +kernel) (by decide +kernel)
theorem kc_X12_168 : Cond.constantLong RX12 168 200 ∈ WS := zIn 898 (by decide +kernel) (by decide +kernel)
theorem kc_X12_142 : Cond.constantLong RX12 142 4294967295 ∈ WS := zIn 911 (by decide +kernel) (by decide +kernel)
theorem kc_X12_152 : Cond.constantLong RX12 152 (-1) ∈ WS := zIn 916 (by decide +kernel) (by decide +kernel)
theorem kc_X12_98 : Cond.constantLong RX12 98 255 ∈ WS := zIn 1048 (by decide +kernel) (by decide +kernel)
theorem kc_X12_226 : Cond.constant RX12 226 1000000000 ∈ WS := zIn 1203 (by decide +kernel) (by decide +kernel)
theorem kc_L_13 : Cond.constantLong RL 13 4294967295 ∈ WS := zIn 1224 (by decide +kernel) (by decide +kernel)
end
section
section Z
variable {p : Program} {l : Launch} {e : Env} {s : State} {m : MethodId} {args : Array Value} {below : List Frame} {meth : Method} {c : Code} {A : Nat → Prop}
def p_X11_look (t0 : Nat) (v1 : Int32) (M : ZM) : Option Int32 :=
  if v1 < 0 then (
    some (0 : Int32)) else (
    if (Int32.ofNat (zn t0)) ≤ v1 then (
      some (0 : Int32)) else (
      zck (zin v1 (zn t0)) <|
      some (M.1 t0 v1.toNatClampNeg)))
set_option maxHeartbeats 4000000 in
set_option maxRecDepth 100000 in
theorem cp_X11_look (l : Launch) {G : ZG} (hG : zOk G) (t0 : Nat) (v1 : Int32) (k0 : zk G t0 = 0) (M : ZM) (res : Int32) (h : p_X11_look t0 v1 M = some res) : zCt l yX11_look cX11_look 2 (Option.some FieldType.int) 0 G [.ref (za G t0), .int v1] M (some (.int res)) M := by
  refine zCt.mk (by decide +kernel) (Nat.le_of_ble_eq_true rfl) ?_
  intro p e s m args below meth c A H locs ls S hr hlk hw hl
  have S : zX p (zR 0) s m args c 0 0 cX11_look 2 RX11 := S
  have hx := S.1.1
  have hb := S.1.2.1
  have hown := S.1.2.2.2.1
  have hts := S.1.2.2.2.2
  have hl : lv_has ls 2 [(0, .ref (za G t0)), (1, .int v1)] := hl
  unfold p_X11_look at h
  refine lv_iload_n hx hb dX11_look_0 rfl (lv_at hl 1 rfl) ?_
  refine lv_if_lt (tgt := 16) hx hb dX11_look_1 (by decide) (fun c1 => ?_) (fun c1 => ?_)
  · have h := zif_t h c1
    refine lv_iconst (v := 0) hx hb dX11_look_16 (by decide) ?_
    have h := Option.some.inj h
    subst h
    exact z_ret_i S hr hlk hw dX11_look_17
  · have h := zif_f h c1
    refine lv_iload_n hx hb dX11_look_4 rfl (lv_at hl 1 rfl) ?_
    refine lv_aload_n hx hb dX11_look_5 rfl (lv_at hl 0 rfl) ?_
    refine z_alen S hw k0 (by decide) dX11_look_6 ?_
    refine lv_icmp_ge (tgt := 16) hx hb dX11_look_7 (by decide) (fun c2 => ?_) (fun c2 => ?_)
    · have h := zif_t h c2
      refine lv_iconst (v := 0) hx hb dX11_look_16 (by decide) ?_
      have h := Option.some.inj h
      subst h
      exact z_ret_i S hr hlk hw dX11_look_17
    · have h := zif_f h c2
      refine lv_aload_n hx hb dX11_look_10 rfl (lv_at hl 0 rfl) ?_
      refine lv_iload_n hx hb dX11_look_11 rfl (lv_at hl 1 rfl) ?_
      obtain ⟨g3, h⟩ := zck_ex h
      refine z_iald S hw k0 g3 dX11_look_12 ?_
      refine lv_goto (tgt := 17) hx hb dX11_look_13 (by decide) ?_
      have h := Option.some.inj h
      subst h
      exact z_ret_i S hr hlk hw dX11_look_17
def p_X11_look_ (t0 : Nat) (v1 : Int32) (M : ZM) : Option Int64 :=
  if v1 < 0 then (
    some (0 : Int64)) else (
    if (Int32.ofNat (zn t0)) ≤ v1 then (
      some (0 : Int64)) else (
      zck (zin v1 (zn t0)) <|
      some (M.2 t0 v1.toNatClampNeg)))
set_option maxHeartbeats 4000000 in
set_option maxRecDepth 100000 in
theorem cp_X11_look_ (l : Launch) {G : ZG} (hG : zOk G) (t0 : Nat) (v1 : Int32) (k0 : zk G t0 = 1) (M : ZM) (res : Int64) (h : p_X11_look_ t0 v1 M = some res) : zCt l yX11_look_ cX11_look_ 2 (Option.some FieldType.long) 0 G [.ref (za G t0), .int v1] M (some (.long res)) M := by
  refine zCt.mk (by decide +kernel) (Nat.le_of_ble_eq_true rfl) ?_
  intro p e s m args below meth c A H locs ls S hr hlk hw hl
  have S : zX p (zR 0) s m args c 0 0 cX11_look_ 2 RX11 := S
  have hx := S.1.1
  have hb := S.1.2.1
  have hown := S.1.2.2.2.1
  have hts := S.1.2.2.2.2
  have hl : lv_has ls 2 [(0, .ref (za G t0)), (1, .int v1)] := hl
  unfold p_X11_look_ at h
  refine lv_iload_n hx hb dX11_look__0 rfl (lv_at hl 1 rfl) ?_
  refine lv_if_lt (tgt := 16) hx hb dX11_look__1 (by decide) (fun c1 => ?_) (fun c1 => ?_)
  · have h := zif_t h c1
    refine lv_lconst (v := 0) hx hb dX11_look__16 (by decide) ?_
    have h := Option.some.inj h
    subst h
    exact z_ret_l S hr hlk hw dX11_look__17
  · have h := zif_f h c1
    refine lv_iload_n hx hb dX11_look__4 rfl (lv_at hl 1 rfl) ?_
    refine lv_aload_n hx hb dX11_look__5 rfl (lv_at hl 0 rfl) ?_
    refine z_alen S hw k0 (by decide) dX11_look__6 ?_
    refine lv_icmp_ge (tgt := 16) hx hb dX11_look__7 (by decide) (fun c2 => ?_) (fun c2 => ?_)
    · have h := zif_t h c2
      refine lv_lconst (v := 0) hx hb dX11_look__16 (by decide) ?_
      have h := Option.some.inj h
      subst h
      exact z_ret_l S hr hlk hw dX11_look__17
    · have h := zif_f h c2
      refine lv_aload_n hx hb dX11_look__10 rfl (lv_at hl 0 rfl) ?_
      refine lv_iload_n hx hb dX11_look__11 rfl (lv_at hl 1 rfl) ?_
      obtain ⟨g3, h⟩ := zck_ex h
      refine z_lald S hw k0 g3 dX11_look__12 ?_
      refine lv_goto (tgt := 17) hx hb dX11_look__13 (by decide) ?_
      have h := Option.some.inj h
      subst h
      exact z_ret_l S hr hlk hw dX11_look__17
def p_X11_put (t0 : Nat) (v1 : Int32) (v2 : Int32) (M : ZM) : Option ZM :=
  if v1 < 0 then (
    some M) else (
    if (Int32.ofNat (zn t0)) ≤ v1 then (
      some M) else (
      zck (zin v1 (zn t0)) <|
      zlet (zi M t0 v1.toNatClampNeg v2) fun (M4 : ZM) =>
      some M4))
set_option maxHeartbeats 4000000 in
set_option maxRecDepth 100000 in
theorem cp_X11_put (l : Launch) {G : ZG} (hG : zOk G) (t0 : Nat) (v1 : Int32) (v2 : Int32) (k0 : zk G t0 = 0) (M : ZM) (res : ZM) (h : p_X11_put t0 v1 v2 M = some res) : zCt l yX11_put cX11_put 3 none 0 G [.ref (za G t0), .int v1, .int v2] M none res := by
  refine zCt.mk (by decide +kernel) (Nat.le_of_ble_eq_true rfl) ?_
  intro p e s m args below meth c A H locs ls S hr hlk hw hl
  have S : zX p (zR 0) s m args c 0 0 cX11_put 3 RX11 := S
  have hx := S.1.1
  have hb := S.1.2.1
  have hown := S.1.2.2.2.1
  have hts := S.1.2.2.2.2
  have hl : lv_has ls 3 [(0, .ref (za G t0)), (1, .int v1), (2, .int v2)] := hl
  unfold p_X11_put at h
  refine lv_iload_n hx hb dX11_put_0 rfl (lv_at hl 1 rfl) ?_
  refine lv_if_lt (tgt := 14) hx hb dX11_put_1 (by decide) (fun c1 => ?_) (fun c1 => ?_)
  · have h := zif_t h c1
    have h := Option.some.inj h
    subst h
    exact z_ret_v S hr hlk hw dX11_put_14
  · have h := zif_f h c1
    refine lv_iload_n hx hb dX11_put_4 rfl (lv_at hl 1 rfl) ?_
    refine lv_aload_n hx hb dX11_put_5 rfl (lv_at hl 0 rfl) ?_
    refine z_alen S hw k0 (by decide) dX11_put_6 ?_
    refine lv_icmp_ge (tgt := 14) hx hb dX11_put_7 (by decide) (fun c2 => ?_) (fun c2 => ?_)
    · have h := zif_t h c2
      have h := Option.some.inj h
      subst h
      exact z_ret_v S hr hlk hw dX11_put_14
    · have h := zif_f h c2
      refine lv_aload_n hx hb dX11_put_10 rfl (lv_at hl 0 rfl) ?_
      refine lv_iload_n hx hb dX11_put_11 rfl (lv_at hl 1 rfl) ?_
      refine lv_iload_n hx hb dX11_put_12 rfl (lv_at hl 2 rfl) ?_
      obtain ⟨g3, h⟩ := zck_ex h
      obtain ⟨M4, eM4, h⟩ := zlet_ex h
      refine z_iast S hw eM4 k0 g3 dX11_put_13 (fun H locs hw => ?_)
      have h := Option.some.inj h
      subst h
      exact z_ret_v S hr hlk hw dX11_put_14
def p_X11_put_ (t0 : Nat) (v1 : Int32) (v2 : Int64) (M : ZM) : Option ZM :=
  if v1 < 0 then (
    some M) else (
    if (Int32.ofNat (zn t0)) ≤ v1 then (
      some M) else (
      zck (zin v1 (zn t0)) <|
      zlet (zl M t0 v1.toNatClampNeg v2) fun (M4 : ZM) =>
      some M4))
set_option maxHeartbeats 4000000 in
set_option maxRecDepth 100000 in
theorem cp_X11_put_ (l : Launch) {G : ZG} (hG : zOk G) (t0 : Nat) (v1 : Int32) (v2 : Int64) (k0 : zk G t0 = 1) (M : ZM) (res : ZM) (h : p_X11_put_ t0 v1 v2 M = some res) : zCt l yX11_put_ cX11_put_ 4 none 0 G [.ref (za G t0), .int v1, .long v2] M none res := by
  refine zCt.mk (by decide +kernel) (Nat.le_of_ble_eq_true rfl) ?_
  intro p e s m args below meth c A H locs ls S hr hlk hw hl
  have S : zX p (zR 0) s m args c 0 0 cX11_put_ 4 RX11 := S
  have hx := S.1.1
  have hb := S.1.2.1
  have hown := S.1.2.2.2.1
  have hts := S.1.2.2.2.2
  have hl : lv_has ls 4 [(0, .ref (za G t0)), (1, .int v1), (2, .long v2)] := hl
  unfold p_X11_put_ at h
  refine lv_iload_n hx hb dX11_put__0 rfl (lv_at hl 1 rfl) ?_
  refine lv_if_lt (tgt := 14) hx hb dX11_put__1 (by decide) (fun c1 => ?_) (fun c1 => ?_)
  · have h := zif_t h c1
    have h := Option.some.inj h
    subst h
    exact z_ret_v S hr hlk hw dX11_put__14
  · have h := zif_f h c1
    refine lv_iload_n hx hb dX11_put__4 rfl (lv_at hl 1 rfl) ?_
    refine lv_aload_n hx hb dX11_put__5 rfl (lv_at hl 0 rfl) ?_
    refine z_alen S hw k0 (by decide) dX11_put__6 ?_
    refine lv_icmp_ge (tgt := 14) hx hb dX11_put__7 (by decide) (fun c2 => ?_) (fun c2 => ?_)
    · have h := zif_t h c2
      have h := Option.some.inj h
      subst h
      exact z_ret_v S hr hlk hw dX11_put__14
    · have h := zif_f h c2
      refine lv_aload_n hx hb dX11_put__10 rfl (lv_at hl 0 rfl) ?_
      refine lv_iload_n hx hb dX11_put__11 rfl (lv_at hl 1 rfl) ?_
      refine lv_lload_n hx hb dX11_put__12 rfl (lv_at hl 2 rfl) ?_
      obtain ⟨g3, h⟩ := zck_ex h
      obtain ⟨M4, eM4, h⟩ := zlet_ex h
      refine z_last S hw eM4 k0 g3 dX11_put__13 (fun H locs hw => ?_)
      have h := Option.some.inj h
      subst h
      exact z_ret_v S hr hlk hw dX11_put__14
def p_X11_casesOf (v0 : Int32) (M : ZM) : Option Int64 :=
  zlet (v0 - 97) fun (x1 : Int32) =>
  if x1 < 0 then (
    some (0 : Int64)) else (
    if 5 ≤ x1 then (
      some (0 : Int64)) else (
      zck (zin x1 5) <|
      some (zmk x1.toNatClampNeg)))
set_option maxHeartbeats 4000000 in
set_option maxRecDepth 100000 in
theorem cp_X11_casesOf (l : Launch) {G : ZG} (hG : zOk G) (v0 : Int32) (M : ZM) (res : Int64) (h : p_X11_casesOf v0 M = some res) : zCt l yX11_casesOf cX11_casesOf 2 (Option.some FieldType.long) 0 G [.int v0] M (some (.long res)) M := by
  refine zCt.mk (by decide +kernel) (Nat.le_of_ble_eq_true rfl) ?_
  intro p e s m args below meth c A H locs ls S hr hlk hw hl
  have S : zX p (zR 0) s m args c 0 0 cX11_casesOf 2 RX11 := S
  have hx := S.1.1
  have hb := S.1.2.1
  have hown := S.1.2.2.2.1
  have hts := S.1.2.2.2.2
  have hl : lv_has ls 2 [(0, .int v0)] := hl
  unfold p_X11_casesOf at h
  refine lv_iload_n hx hb dX11_casesOf_0 rfl (lv_at hl 0 rfl) ?_
  refine lv_bipush (v := 97) hx hb dX11_casesOf_1 (by decide) ?_
  refine lv_isub hx hb dX11_casesOf_3 ?_
  obtain ⟨x1, ex1, h⟩ := zlet_ex h
  refine lv_topiE ex1 ?_
  refine lv_istore_n (lv' := [(1, .int x1), (0, .int v0)]) hx hb dX11_casesOf_4 rfl hl (by decide) rfl (fun ls hl => ?_)
  refine lv_iload_n hx hb dX11_casesOf_5 rfl (lv_at hl 0 rfl) ?_
  refine lv_if_lt (tgt := 25) hx hb dX11_casesOf_6 (by decide) (fun c2 => ?_) (fun c2 => ?_)
  · have h := zif_t h c2
    refine lv_lconst (v := 0) hx hb dX11_casesOf_25 (by decide) ?_
    have h := Option.some.inj h
    subst h
    exact z_ret_l S hr hlk hw dX11_casesOf_26
  · have h := zif_f h c2
    refine lv_iload_n hx hb dX11_casesOf_9 rfl (lv_at hl 0 rfl) ?_
    refine z_marks S hw st_X11_297 dX11_casesOf_10 ?_
    refine z_markslen S hw dX11_casesOf_13 ?_
    refine lv_icmp_ge (tgt := 25) hx hb dX11_casesOf_14 (by decide) (fun c3 => ?_) (fun c3 => ?_)
    · have h := zif_t h c3
      refine lv_lconst (v := 0) hx hb dX11_casesOf_25 (by decide) ?_
      have h := Option.some.inj h
      subst h
      exact z_ret_l S hr hlk hw dX11_casesOf_26
    · have h := zif_f h c3
      refine z_marks S hw st_X11_297 dX11_casesOf_17 ?_
      refine lv_iload_n hx hb dX11_casesOf_20 rfl (lv_at hl 0 rfl) ?_
      obtain ⟨g4, h⟩ := zck_ex h
      refine z_marksld S hw g4 dX11_casesOf_21 ?_
      refine lv_goto (tgt := 26) hx hb dX11_casesOf_22 (by decide) ?_
      have h := Option.some.inj h
      subst h
      exact z_ret_l S hr hlk hw dX11_casesOf_26
end Z
theorem zn_small (a : Nat) : zn a ≤ 4200 := by
  by_cases h : a < 74
  · have : ∀ a, a < 74 → zn a ≤ 4200 := by decide +kernel
    exact this a h
  · have e : zn a = 0 := by
      have : zNs.length = 74 := by decide +kernel
      unfold zn
      rw [List.getD_eq_getElem?_getD, List.getElem?_eq_none (by omega)]
      rfl
    omega
theorem zin_iff {i : Int32} {n : Nat} (hn : n ≤ 4200) : zin i n = true ↔ ¬ i < 0 ∧ ¬ Int32.ofNat n ≤ i := by
  have e : (Int32.ofNat n).toInt = n := Int32.toInt_ofNat_of_lt (by omega)
  have z : (0 : Int32).toInt = 0 := rfl
  simp only [zin, decide_eq_true_eq, Int32.lt_iff_toInt_lt, Int32.le_iff_toInt_le, e, z, Int32.toNatClampNeg, Int32.toNatClampNeg]
  have e2 : i.toBitVec.toInt = i.toInt := rfl
  omega
def f_X11_look (t0 : Nat) (v1 : Int32) (M : ZM) : Int32 := if zin v1 (zn t0) = true then M.1 t0 v1.toNatClampNeg else 0
def f_X11_look_ (t0 : Nat) (v1 : Int32) (M : ZM) : Int64 := if zin v1 (zn t0) = true then M.2 t0 v1.toNatClampNeg else 0
def f_X11_put (t0 : Nat) (v1 v2 : Int32) (M : ZM) : ZM := if zin v1 (zn t0) = true then zi M t0 v1.toNatClampNeg v2 else M
def f_X11_put_ (t0 : Nat) (v1 : Int32) (v2 : Int64) (M : ZM) : ZM := if zin v1 (zn t0) = true then zl M t0 v1.toNatClampNeg v2 else M
def f_X11_casesOf (v0 : Int32) (_ : ZM) : Int64 := if zin (v0 - 97) 5 = true then zmk (v0 - 97).toNatClampNeg else 0
theorem q_X11_look (t0 : Nat) (v1 : Int32) (M : ZM) : p_X11_look t0 v1 M = some (f_X11_look t0 v1 M) := by
  have h := zin_iff (i := v1) (zn_small t0)
  unfold p_X11_look f_X11_look zck
  by_cases h1 : v1 < 0
  · rw [if_pos h1, if_neg (fun hh => (h.mp hh).1 h1)]
  · by_cases h2 : Int32.ofNat (zn t0) ≤ v1
    · rw [if_neg h1, if_pos h2, if_neg (fun hh => (h.mp hh).2 h2)]
    · rw [if_neg h1, if_neg h2, if_pos (h.mpr ⟨h1, h2⟩), if_pos (h.mpr ⟨h1, h2⟩)]
theorem q_X11_look_ (t0 : Nat) (v1 : Int32) (M : ZM) : p_X11_look_ t0 v1 M = some (f_X11_look_ t0 v1 M) := by
  have h := zin_iff (i := v1) (zn_small t0)
  unfold p_X11_look_ f_X11_look_ zck
  by_cases h1 : v1 < 0
  · rw [if_pos h1, if_neg (fun hh => (h.mp hh).1 h1)]
  · by_cases h2 : Int32.ofNat (zn t0) ≤ v1
    · rw [if_neg h1, if_pos h2, if_neg (fun hh => (h.mp hh).2 h2)]
    · rw [if_neg h1, if_neg h2, if_pos (h.mpr ⟨h1, h2⟩), if_pos (h.mpr ⟨h1, h2⟩)]
theorem q_X11_put (t0 : Nat) (v1 v2 : Int32) (M : ZM) : p_X11_put t0 v1 v2 M = some (f_X11_put t0 v1 v2 M) := by
  have h := zin_iff (i := v1) (zn_small t0)
  unfold p_X11_put f_X11_put zck zlet
  by_cases h1 : v1 < 0
  · rw [if_pos h1, if_neg (fun hh => (h.mp hh).1 h1)]
  · by_cases h2 : Int32.ofNat (zn t0) ≤ v1
    · rw [if_neg h1, if_pos h2, if_neg (fun hh => (h.mp hh).2 h2)]
    · rw [if_neg h1, if_neg h2, if_pos (h.mpr ⟨h1, h2⟩), if_pos (h.mpr ⟨h1, h2⟩)]
theorem q_X11_put_ (t0 : Nat) (v1 : Int32) (v2 : Int64) (M : ZM) : p_X11_put_ t0 v1 v2 M = some (f_X11_put_ t0 v1 v2 M) := by
  have h := zin_iff (i := v1) (zn_small t0)
  unfold p_X11_put_ f_X11_put_ zck zlet
  by_cases h1 : v1 < 0
  · rw [if_pos h1, if_neg (fun hh => (h.mp hh).1 h1)]
  · by_cases h2 : Int32.ofNat (zn t0) ≤ v1
    · rw [if_neg h1, if_pos h2, if_neg (fun hh => (h.mp hh).2 h2)]
    · rw [if_neg h1, if_neg h2, if_pos (h.mpr ⟨h1, h2⟩), if_pos (h.mpr ⟨h1, h2⟩)]
theorem q_X11_casesOf (v0 : Int32) (M : ZM) : p_X11_casesOf v0 M = some (f_X11_casesOf v0 M) := by
  have h := zin_iff (i := v0 - 97) (n := 5) (by decide)
  have e : Int32.ofNat 5 = 5 := rfl
  rw [e] at h
  unfold p_X11_casesOf f_X11_casesOf zck zlet
  show (if v0 - 97 < 0 then (some 0 : Option Int64) else if 5 ≤ v0 - 97 then some 0 else if zin (v0 - 97) 5 = true then some (zmk (v0 - 97).toNatClampNeg) else none) = _
  by_cases h1 : v0 - 97 < 0
  · rw [if_pos h1, if_neg (fun hh => (h.mp hh).1 h1)]
  · by_cases h2 : 5 ≤ v0 - 97
    · rw [if_neg h1, if_pos h2, if_neg (fun hh => (h.mp hh).2 h2)]
    · rw [if_neg h1, if_neg h2, if_pos (h.mpr ⟨h1, h2⟩), if_pos (h.mpr ⟨h1, h2⟩)]
theorem c_X11_look (l : Launch) {G : ZG} (hG : zOk G) (t0 : Nat) (v1 : Int32) (k0 : zk G t0 = 0) (M : ZM) (res : Int32) (h : f_X11_look t0 v1 M = res) : zCt l yX11_look cX11_look 2 (Option.some FieldType.int) 0 G [.ref (za G t0), .int v1] M (some (.int res)) M := cp_X11_look l hG t0 v1 k0 M res (by rw [q_X11_look, h])
theorem c_X11_look_ (l : Launch) {G : ZG} (hG : zOk G) (t0 : Nat) (v1 : Int32) (k0 : zk G t0 = 1) (M : ZM) (res : Int64) (h : f_X11_look_ t0 v1 M = res) : zCt l yX11_look_ cX11_look_ 2 (Option.some FieldType.long) 0 G [.ref (za G t0), .int v1] M (some (.long res)) M := cp_X11_look_ l hG t0 v1 k0 M res (by rw [q_X11_look_, h])
theorem c_X11_put (l : Launch) {G : ZG} (hG : zOk G) (t0 : Nat) (v1 : Int32) (v2 : Int32) (k0 : zk G t0 = 0) (M : ZM) (res : ZM) (h : f_X11_put t0 v1 v2 M = res) : zCt l yX11_put cX11_put 3 none 0 G [.ref (za G t0), .int v1, .int v2] M none res := cp_X11_put l hG t0 v1 v2 k0 M res (by rw [q_X11_put, h])
theorem c_X11_put_ (l : Launch) {G : ZG} (hG : zOk G) (t0 : Nat) (v1 : Int32) (v2 : Int64) (k0 : zk G t0 = 1) (M : ZM) (res : ZM) (h : f_X11_put_ t0 v1 v2 M = res) : zCt l yX11_put_ cX11_put_ 4 none 0 G [.ref (za G t0), .int v1, .long v2] M none res := cp_X11_put_ l hG t0 v1 v2 k0 M res (by rw [q_X11_put_, h])
theorem c_X11_casesOf (l : Launch) {G : ZG} (hG : zOk G) (v0 : Int32) (M : ZM) (res : Int64) (h : f_X11_casesOf v0 M = res) : zCt l yX11_casesOf cX11_casesOf 2 (Option.some FieldType.long) 0 G [.int v0] M (some (.long res)) M := cp_X11_casesOf l hG v0 M res (by rw [q_X11_casesOf, h])
end
section
section Z
variable {p : Program} {l : Launch} {e : Env} {s : State} {m : MethodId} {args : Array Value} {below : List Frame} {meth : Method} {c : Code} {A : Nat → Prop}
def f_X11_refuse (t0 : Nat) (v1 : Int32) (M : ZM) : (Int32 × ZM) :=
  zlet (f_X11_look (zr t0 13) (-v1) M) fun (q1 : Int32) =>
  zlet (f_X11_put (zr t0 13) (-v1) (q1 + 1) M) fun (q2 : ZM) =>
  (v1, q2)
set_option maxHeartbeats 4000000 in
set_option maxRecDepth 100000 in
theorem c_X11_refuse (l : Launch) {G : ZG} (hG : zOk G) (t0 : Nat) (v1 : Int32) (k0 : zk G t0 = 21) (M : ZM) (res : (Int32 × ZM)) (h : f_X11_refuse t0 v1 M = res) : zCt l yX11_refuse cX11_refuse 2 (Option.some FieldType.int) 1 G [.ref (za G t0), .int v1] M (some (.int res.1)) res.2 := by
  refine zCt.mk (by decide +kernel) (Nat.le_of_ble_eq_true rfl) ?_
  intro p e s m args below meth c A H locs ls S hr hlk hw hl
  have S : zX p (zR 1) s m args c 0 0 cX11_refuse 2 RX11 := S
  have hx := S.1.1
  have hb := S.1.2.1
  have hown := S.1.2.2.2.1
  have hts := S.1.2.2.2.2
  have hl : lv_has ls 2 [(0, .ref (za G t0)), (1, .int v1)] := hl
  unfold f_X11_refuse at h
  refine lv_aload_n hx hb dX11_refuse_0 rfl (lv_at hl 0 rfl) ?_
  refine z_getR S hw k0 fl_X11_88 rfl dX11_refuse_1 ?_
  refine lv_iload_n hx hb dX11_refuse_4 rfl (lv_at hl 1 rfl) ?_
  refine lv_ineg hx hb dX11_refuse_5 ?_
  refine lv_aload_n hx hb dX11_refuse_6 rfl (lv_at hl 0 rfl) ?_
  refine z_getR S hw k0 fl_X11_88 rfl dX11_refuse_7 ?_
  refine lv_iload_n hx hb dX11_refuse_10 rfl (lv_at hl 1 rfl) ?_
  refine lv_ineg hx hb dX11_refuse_11 ?_
  obtain ⟨q1, eq1, h⟩ := zlet_ex h
  refine z_callS (As := [.ref (za G (zr t0 13)), .int (-v1)]) (rest := [.int (-v1), .ref (za G (zr t0 13))]) (rv := (some (.int q1))) (M1 := M) S hw (c_X11_look l hG (zr t0 13) (-v1) (kr_11_13 hG k0) M q1 eq1.symm) mv_X11_look lk_X11_272 rfl rfl (Nat.le_of_ble_eq_true rfl) ⟨Nat.le_of_ble_eq_true rfl, Nat.le_of_ble_eq_true rfl⟩ hl.1 dX11_refuse_12 (fun H locs hw => ?_)
  refine lv_iconst (v := 1) hx hb dX11_refuse_15 (by decide) ?_
  refine lv_iadd hx hb dX11_refuse_16 ?_
  obtain ⟨q2, eq2, h⟩ := zlet_ex h
  refine z_callS (As := [.ref (za G (zr t0 13)), .int (-v1), .int (q1 + 1)]) (rest := []) (rv := none) (M1 := q2) S hw (c_X11_put l hG (zr t0 13) (-v1) (q1 + 1) (kr_11_13 hG k0) M q2 eq2.symm) mv_X11_put lk_X11_276 rfl rfl (Nat.le_of_ble_eq_true rfl) ⟨Nat.le_of_ble_eq_true rfl, Nat.le_of_ble_eq_true rfl⟩ hl.1 dX11_refuse_17 (fun H locs hw => ?_)
  refine lv_iload_n hx hb dX11_refuse_20 rfl (lv_at hl 1 rfl) ?_
  subst h
  exact z_ret_i S hr hlk hw dX11_refuse_21
def f_X10_size (t0 : Nat) (M : ZM) : Int32 :=
  (M.1 t0 1)
set_option maxHeartbeats 4000000 in
set_option maxRecDepth 100000 in
theorem c_X10_size (l : Launch) {G : ZG} (hG : zOk G) (t0 : Nat) (k0 : zk G t0 = 20) (M : ZM) (res : Int32) (h : f_X10_size t0 M = res) : zCt l yX10_size cX10_size 1 (Option.some FieldType.int) 0 G [.ref (za G t0)] M (some (.int res)) M := by
  refine zCt.mk (by decide +kernel) (Nat.le_of_ble_eq_true rfl) ?_
  intro p e s m args below meth c A H locs ls S hr hlk hw hl
  have S : zX p (zR 0) s m args c 0 0 cX10_size 1 RX10 := S
  have hx := S.1.1
  have hb := S.1.2.1
  have hown := S.1.2.2.2.1
  have hts := S.1.2.2.2.2
  have hl : lv_has ls 1 [(0, .ref (za G t0))] := hl
  unfold f_X10_size at h
  refine lv_aload_n hx hb dX10_size_0 rfl (lv_at hl 0 rfl) ?_
  refine z_getI S hw k0 fl_X10_15 rfl dX10_size_1 ?_
  subst h
  exact z_ret_i S hr hlk hw dX10_size_4
def f_X10_add (t0 : Nat) (v1 : Int32) (M : ZM) : ZM :=
  if 21 ≤ (M.1 t0 1) then (
    M) else (
    zlet (f_X11_put (zr t0 0) (M.1 t0 1) v1 M) fun (q2 : ZM) =>
    zlet (zi q2 t0 1 ((q2.1 t0 1) + 1)) fun (M3 : ZM) =>
    M3)
set_option maxHeartbeats 4000000 in
set_option maxRecDepth 100000 in
theorem c_X10_add (l : Launch) {G : ZG} (hG : zOk G) (t0 : Nat) (v1 : Int32) (k0 : zk G t0 = 20) (M : ZM) (res : ZM) (h : f_X10_add t0 v1 M = res) : zCt l yX10_add cX10_add 2 none 1 G [.ref (za G t0), .int v1] M none res := by
  refine zCt.mk (by decide +kernel) (Nat.le_of_ble_eq_true rfl) ?_
  intro p e s m args below meth c A H locs ls S hr hlk hw hl
  have S : zX p (zR 1) s m args c 0 0 cX10_add 2 RX10 := S
  have hx := S.1.1
  have hb := S.1.2.1
  have hown := S.1.2.2.2.1
  have hts := S.1.2.2.2.2
  have hl : lv_has ls 2 [(0, .ref (za G t0)), (1, .int v1)] := hl
  unfold f_X10_add at h
  refine lv_aload_n hx hb dX10_add_0 rfl (lv_at hl 0 rfl) ?_
  refine z_getI S hw k0 fl_X10_15 rfl dX10_add_1 ?_
  refine lv_bipush (v := 21) hx hb dX10_add_4 (by decide) ?_
  refine lv_icmp_ge (tgt := 31) hx hb dX10_add_6 (by decide) (fun c1 => ?_) (fun c1 => ?_)
  · have h := zif_t h c1
    subst h
    exact z_ret_v S hr hlk hw dX10_add_31
  · have h := zif_f h c1
    refine lv_aload_n hx hb dX10_add_9 rfl (lv_at hl 0 rfl) ?_
    refine z_getR S hw k0 fl_X10_9 rfl dX10_add_10 ?_
    refine lv_aload_n hx hb dX10_add_13 rfl (lv_at hl 0 rfl) ?_
    refine z_getI S hw k0 fl_X10_15 rfl dX10_add_14 ?_
    refine lv_iload_n hx hb dX10_add_17 rfl (lv_at hl 1 rfl) ?_
    obtain ⟨q2, eq2, h⟩ := zlet_ex h
    refine z_callS (As := [.ref (za G (zr t0 0)), .int (M.1 t0 1), .int v1]) (rest := []) (rv := none) (M1 := q2) S hw (c_X11_put l hG (zr t0 0) (M.1 t0 1) v1 (kr_10_0 hG k0) M q2 eq2.symm) mv_X11_put lk_X10_23 rfl rfl (Nat.le_of_ble_eq_true rfl) ⟨Nat.le_of_ble_eq_true rfl, Nat.le_of_ble_eq_true rfl⟩ hl.1 dX10_add_18 (fun H locs hw => ?_)
    refine lv_aload_n hx hb dX10_add_21 rfl (lv_at hl 0 rfl) ?_
    refine lv_dup hx hb dX10_add_22 rfl ?_
    refine z_getI S hw k0 fl_X10_15 rfl dX10_add_23 ?_
    refine lv_iconst (v := 1) hx hb dX10_add_26 (by decide) ?_
    refine lv_iadd hx hb dX10_add_27 ?_
    obtain ⟨M3, eM3, h⟩ := zlet_ex h
    refine z_putI S hw eM3 k0 fl_X10_15 rfl (fun h => absurd h (by decide)) dX10_add_28 (fun H locs hw => ?_)
    subst h
    exact z_ret_v S hr hlk hw dX10_add_31
def f_X11_feed_42 (t0 : Nat) (v1 : Int32) (v2 : Int64) (K : ZM → Option (Int32 × ZM)) : Nat → Int32 → ZM → Option (Int32 × ZM)
  | 0, _, _ => none
  | n + 1, v4, M =>
    if v1 ≤ v4 then (
      K M) else (
      zlet (f_X10_add (zr t0 0) ((((v2).toUInt64 >>> ((((8 * v4) : Int32)).toInt64.toUInt64 &&& Int64.toUInt64 63)).toInt64 &&& 255).toInt32) M) fun (q7 : ZM) =>
      zlet (v4 + 1) fun (x8 : Int32) =>
      f_X11_feed_42 t0 v1 v2 K n x8 q7)

def f_X11_feed (t0 : Nat) (v1 : Int32) (v2 : Int64) (M : ZM) : Option (Int32 × ZM) :=
  if 1 ≤ v1 then (
    if 8 < v1 then (
      zlet (f_X11_refuse t0 (-6) M) fun (q3 : (Int32 × ZM)) =>
      some (q3.1, q3.2)) else (
      zlet (f_X10_size (zr t0 0) M) fun (q4 : Int32) =>
      if (q4 + v1) ≤ 21 then (
        f_X11_feed_42 t0 v1 v2 (fun (M : ZM) =>
          zlet (f_X10_size (zr t0 0) M) fun (q9 : Int32) =>
          some (q9, M)) zN 0 M) else (
        zlet (f_X11_refuse t0 (-6) M) fun (q10 : (Int32 × ZM)) =>
        some (q10.1, q10.2)))) else (
    zlet (f_X11_refuse t0 (-4) M) fun (q11 : (Int32 × ZM)) =>
    some (q11.1, q11.2))
set_option maxHeartbeats 4000000 in
set_option maxRecDepth 100000 in
theorem w_X11_feed_42 {G : ZG} (hG : zOk G) (S : zX p (zR 2) s m args c 0 0 cX11_feed 5 RX11) (hr : meth.sig.returnType = (Option.some FieldType.int)) (hlk : meth.locks = false) (t0 : Nat) (v1 : Int32) (v2 : Int64) (k0 : zk G t0 = 21) {K : ZM → Option (Int32 × ZM)} {res : (Int32 × ZM)} (hK : ∀  (M : ZM), K M = some res → ∀ (H : Heap) (locs : List Loc) (ls : Array Slot), zWd G A s H locs M → lv_has ls 5 [(0, .ref (za G t0))] → W p l e (zR 2) s m args below meth c H locs 0 0 (zQ below G A (some (.int res.1)) res.2 args s) (F0 m 73 ls [])) : ∀ (n : Nat) (v4 : Int32) (M : ZM), f_X11_feed_42 t0 v1 v2 K n v4 M = some res → ∀ (H : Heap) (locs : List Loc) (ls : Array Slot), zWd G A s H locs M → lv_has ls 5 [(0, .ref (za G t0)), (1, .int v1), (2, .long v2), (4, .int v4)] → W p l e (zR 2) s m args below meth c H locs 0 0 (zQ below G A (some (.int res.1)) res.2 args s) (F0 m 42 ls []) := by
  have hx := S.1.1
  have hb := S.1.2.1
  have hown := S.1.2.2.2.1
  have hts := S.1.2.2.2.2
  intro n
  induction n with
  | zero =>
    intro v4 M h
    rw [f_X11_feed_42] at h
    cases h
  | succ n ih =>
    intro v4 M h H locs ls hw hl
    rw [f_X11_feed_42] at h
    refine lv_iload hx hb dX11_feed_42 (lv_at hl 3 rfl) ?_
    refine lv_iload_n hx hb dX11_feed_44 rfl (lv_at hl 1 rfl) ?_
    refine lv_icmp_ge (tgt := 73) hx hb dX11_feed_45 (by decide) (fun c6 => ?_) (fun c6 => ?_)
    · have h := zif_t h c6
      exact hK M h H locs ls hw (lv_sub hl [0] rfl)
    · have h := zif_f h c6
      refine lv_aload_n hx hb dX11_feed_48 rfl (lv_at hl 0 rfl) ?_
      refine z_getR S hw k0 fl_X11_10 rfl dX11_feed_49 ?_
      refine lv_lload_n hx hb dX11_feed_52 rfl (lv_at hl 2 rfl) ?_
      refine lv_bipush (v := 8) hx hb dX11_feed_53 (by decide) ?_
      refine lv_iload hx hb dX11_feed_55 (lv_at hl 3 rfl) ?_
      refine lv_imul hx hb dX11_feed_57 ?_
      refine lv_lushr (v := ((v2).toUInt64 >>> ((((8 * v4) : Int32)).toInt64.toUInt64 &&& Int64.toUInt64 63)).toInt64) hx hb dX11_feed_58 rfl ?_
      refine lv_ldc2 (v := 255) hx hb hown (hts _ kc_X11_108) dX11_feed_59 ?_
      refine lv_land hx hb dX11_feed_62 ?_
      refine lv_l2i (v := ((((v2).toUInt64 >>> ((((8 * v4) : Int32)).toInt64.toUInt64 &&& Int64.toUInt64 63)).toInt64 &&& 255).toInt32)) hx hb dX11_feed_63 rfl ?_
      obtain ⟨q7, eq7, h⟩ := zlet_ex h
      refine z_callV (ci := 10) (As := [.int ((((v2).toUInt64 >>> ((((8 * v4) : Int32)).toInt64.toUInt64 &&& Int64.toUInt64 63)).toInt64 &&& 255).toInt32)]) (rest := []) (rv := none) (M1 := q7) S hw (c_X10_add l hG (zr t0 0) ((((v2).toUInt64 >>> ((((8 * v4) : Int32)).toInt64.toUInt64 &&& Int64.toUInt64 63)).toInt64 &&& 255).toInt32) (kr_11_0 hG k0) M q7 eq7.symm) mv_X10_add lk_X11_92 (kr_11_0 hG k0) ⟨_, _, rfl⟩ (by decide) rfl rfl (Nat.le_of_ble_eq_true rfl) ⟨Nat.le_of_ble_eq_true rfl, Nat.le_of_ble_eq_true rfl⟩ hl.1 dX11_feed_64 (fun H locs hw => ?_)
      obtain ⟨x8, ex8, h⟩ := zlet_ex h
      refine lv_iinc (v := x8) (lv' := [(4, .int x8), (0, .ref (za G t0)), (1, .int v1), (2, .long v2)]) hx hb dX11_feed_67 hl (k := 3) rfl (by rw [ex8]; rfl) (by decide) rfl (fun ls hl => ?_)
      refine lv_goto (tgt := 42) hx hb dX11_feed_70 (by decide) ?_
      exact ih x8 q7 h H locs ls hw (lv_sub hl [1, 2, 3, 0] rfl)
set_option maxHeartbeats 4000000 in
set_option maxRecDepth 100000 in
theorem c_X11_feed (l : Launch) {G : ZG} (hG : zOk G) (t0 : Nat) (v1 : Int32) (v2 : Int64) (k0 : zk G t0 = 21) (M : ZM) (res : (Int32 × ZM)) (h : f_X11_feed t0 v1 v2 M = some res) : zCt l yX11_feed cX11_feed 5 (Option.some FieldType.int) 2 G [.ref (za G t0), .int v1, .long v2] M (some (.int res.1)) res.2 := by
  refine zCt.mk (by decide +kernel) (Nat.le_of_ble_eq_true rfl) ?_
  intro p e s m args below meth c A H locs ls S hr hlk hw hl
  have S : zX p (zR 2) s m args c 0 0 cX11_feed 5 RX11 := S
  have hx := S.1.1
  have hb := S.1.2.1
  have hown := S.1.2.2.2.1
  have hts := S.1.2.2.2.2
  have hl : lv_has ls 5 [(0, .ref (za G t0)), (1, .int v1), (2, .long v2)] := hl
  unfold f_X11_feed at h
  refine lv_iload_n hx hb dX11_feed_0 rfl (lv_at hl 1 rfl) ?_
  refine lv_iconst (v := 1) hx hb dX11_feed_1 (by decide) ?_
  refine lv_icmp_ge (tgt := 12) hx hb dX11_feed_2 (by decide) (fun c1 => ?_) (fun c1 => ?_)
  · have h := zif_t h c1
    refine lv_iload_n hx hb dX11_feed_12 rfl (lv_at hl 1 rfl) ?_
    refine lv_bipush (v := 8) hx hb dX11_feed_13 (by decide) ?_
    refine lv_icmp_gt (tgt := 32) hx hb dX11_feed_15 (by decide) (fun c2 => ?_) (fun c2 => ?_)
    · have h := zif_t h c2
      refine lv_aload_n hx hb dX11_feed_32 rfl (lv_at hl 0 rfl) ?_
      refine lv_bipush (v := (-6)) hx hb dX11_feed_33 (by decide) ?_
      obtain ⟨q3, eq3, h⟩ := zlet_ex h
      refine z_callV (ci := 11) (As := [.int (-6)]) (rest := []) (rv := (some (.int q3.1))) (M1 := q3.2) S hw (c_X11_refuse l hG t0 (-6) k0 M q3 eq3.symm) mv_X11_refuse lk_X11_100 k0 ⟨_, _, rfl⟩ (by decide) rfl rfl (Nat.le_of_ble_eq_true rfl) ⟨Nat.le_of_ble_eq_true rfl, Nat.le_of_ble_eq_true rfl⟩ hl.1 dX11_feed_35 (fun H locs hw => ?_)
      have h := Option.some.inj h
      subst h
      exact z_ret_i S hr hlk hw dX11_feed_38
    · have h := zif_f h c2
      refine lv_aload_n hx hb dX11_feed_18 rfl (lv_at hl 0 rfl) ?_
      refine z_getR S hw k0 fl_X11_10 rfl dX11_feed_19 ?_
      obtain ⟨q4, eq4, h⟩ := zlet_ex h
      refine z_callV (ci := 10) (As := []) (rest := []) (rv := (some (.int q4))) (M1 := M) S hw (c_X10_size l hG (zr t0 0) (kr_11_0 hG k0) M q4 eq4.symm) mv_X10_size lk_X11_104 (kr_11_0 hG k0) ⟨_, _, rfl⟩ (by decide) rfl rfl (Nat.le_of_ble_eq_true rfl) ⟨Nat.le_of_ble_eq_true rfl, Nat.le_of_ble_eq_true rfl⟩ hl.1 dX11_feed_22 (fun H locs hw => ?_)
      refine lv_iload_n hx hb dX11_feed_25 rfl (lv_at hl 1 rfl) ?_
      refine lv_iadd hx hb dX11_feed_26 ?_
      refine lv_bipush (v := 21) hx hb dX11_feed_27 (by decide) ?_
      refine lv_icmp_le (tgt := 39) hx hb dX11_feed_29 (by decide) (fun c5 => ?_) (fun c5 => ?_)
      · have h := zif_t h c5
        refine lv_iconst (v := 0) hx hb dX11_feed_39 (by decide) ?_
        refine lv_istore (lv' := [(4, .int 0), (0, .ref (za G t0)), (1, .int v1), (2, .long v2)]) hx hb dX11_feed_40 hl (by decide) rfl (fun ls hl => ?_)
        refine w_X11_feed_42 hG S hr hlk t0 v1 v2 k0 (fun M h H locs ls hw hl => ?_) zN 0 M h H locs ls hw (lv_sub hl [1, 2, 3, 0] rfl)
        refine lv_aload_n hx hb dX11_feed_73 rfl (lv_at hl 0 rfl) ?_
        refine z_getR S hw k0 fl_X11_10 rfl dX11_feed_74 ?_
        obtain ⟨q9, eq9, h⟩ := zlet_ex h
        refine z_callV (ci := 10) (As := []) (rest := []) (rv := (some (.int q9))) (M1 := M) S hw (c_X10_size l hG (zr t0 0) (kr_11_0 hG k0) M q9 eq9.symm) mv_X10_size lk_X11_104 (kr_11_0 hG k0) ⟨_, _, rfl⟩ (by decide) rfl rfl (Nat.le_of_ble_eq_true rfl) ⟨Nat.le_of_ble_eq_true rfl, Nat.le_of_ble_eq_true rfl⟩ hl.1 dX11_feed_77 (fun H locs hw => ?_)
        have h := Option.some.inj h
        subst h
        exact z_ret_i S hr hlk hw dX11_feed_80
      · have h := zif_f h c5
        refine lv_aload_n hx hb dX11_feed_32 rfl (lv_at hl 0 rfl) ?_
        refine lv_bipush (v := (-6)) hx hb dX11_feed_33 (by decide) ?_
        obtain ⟨q10, eq10, h⟩ := zlet_ex h
        refine z_callV (ci := 11) (As := [.int (-6)]) (rest := []) (rv := (some (.int q10.1))) (M1 := q10.2) S hw (c_X11_refuse l hG t0 (-6) k0 M q10 eq10.symm) mv_X11_refuse lk_X11_100 k0 ⟨_, _, rfl⟩ (by decide) rfl rfl (Nat.le_of_ble_eq_true rfl) ⟨Nat.le_of_ble_eq_true rfl, Nat.le_of_ble_eq_true rfl⟩ hl.1 dX11_feed_35 (fun H locs hw => ?_)
        have h := Option.some.inj h
        subst h
        exact z_ret_i S hr hlk hw dX11_feed_38
  · have h := zif_f h c1
    refine lv_aload_n hx hb dX11_feed_5 rfl (lv_at hl 0 rfl) ?_
    refine lv_bipush (v := (-4)) hx hb dX11_feed_6 (by decide) ?_
    obtain ⟨q11, eq11, h⟩ := zlet_ex h
    refine z_callV (ci := 11) (As := [.int (-4)]) (rest := []) (rv := (some (.int q11.1))) (M1 := q11.2) S hw (c_X11_refuse l hG t0 (-4) k0 M q11 eq11.symm) mv_X11_refuse lk_X11_100 k0 ⟨_, _, rfl⟩ (by decide) rfl rfl (Nat.le_of_ble_eq_true rfl) ⟨Nat.le_of_ble_eq_true rfl, Nat.le_of_ble_eq_true rfl⟩ hl.1 dX11_feed_8 (fun H locs hw => ?_)
    have h := Option.some.inj h
    subst h
    exact z_ret_i S hr hlk hw dX11_feed_11
def f_X10_at (t0 : Nat) (v1 : Int32) (M : ZM) : Int32 :=
  zlet (f_X11_look (zr t0 0) v1 M) fun (q1 : Int32) =>
  q1
set_option maxHeartbeats 4000000 in
set_option maxRecDepth 100000 in
theorem c_X10_at (l : Launch) {G : ZG} (hG : zOk G) (t0 : Nat) (v1 : Int32) (k0 : zk G t0 = 20) (M : ZM) (res : Int32) (h : f_X10_at t0 v1 M = res) : zCt l yX10_at cX10_at 2 (Option.some FieldType.int) 1 G [.ref (za G t0), .int v1] M (some (.int res)) M := by
  refine zCt.mk (by decide +kernel) (Nat.le_of_ble_eq_true rfl) ?_
  intro p e s m args below meth c A H locs ls S hr hlk hw hl
  have S : zX p (zR 1) s m args c 0 0 cX10_at 2 RX10 := S
  have hx := S.1.1
  have hb := S.1.2.1
  have hown := S.1.2.2.2.1
  have hts := S.1.2.2.2.2
  have hl : lv_has ls 2 [(0, .ref (za G t0)), (1, .int v1)] := hl
  unfold f_X10_at at h
  refine lv_aload_n hx hb dX10_at_0 rfl (lv_at hl 0 rfl) ?_
  refine z_getR S hw k0 fl_X10_9 rfl dX10_at_1 ?_
  refine lv_iload_n hx hb dX10_at_4 rfl (lv_at hl 1 rfl) ?_
  obtain ⟨q1, eq1, h⟩ := zlet_ex h
  refine z_callS (As := [.ref (za G (zr t0 0)), .int v1]) (rest := []) (rv := (some (.int q1))) (M1 := M) S hw (c_X11_look l hG (zr t0 0) v1 (kr_10_0 hG k0) M q1 eq1.symm) mv_X11_look lk_X10_19 rfl rfl (Nat.le_of_ble_eq_true rfl) ⟨Nat.le_of_ble_eq_true rfl, Nat.le_of_ble_eq_true rfl⟩ hl.1 dX10_at_5 (fun H locs hw => ?_)
  subst h
  exact z_ret_i S hr hlk hw dX10_at_8
def f_X11_kindOf (v0 : Int32) (M : ZM) : Int32 :=
  if v0 = 33 then (
    (1 : Int32)) else (
  if v0 = 38 then (
    (3 : Int32)) else (
  if v0 = 40 then (
    (2 : Int32)) else (
  if v0 = 45 then (
    (6 : Int32)) else (
  if v0 = 62 then (
    (5 : Int32)) else (
  if v0 = 97 then (
    (0 : Int32)) else (
  if v0 = 98 then (
    (0 : Int32)) else (
  if v0 = 99 then (
    (0 : Int32)) else (
  if v0 = 100 then (
    (0 : Int32)) else (
  if v0 = 101 then (
    (0 : Int32)) else (
  if v0 = 124 then (
    (4 : Int32)) else (
    ((-1) : Int32))))))))))))
set_option maxHeartbeats 4000000 in
set_option maxRecDepth 100000 in
theorem c_X11_kindOf (l : Launch) {G : ZG} (hG : zOk G) (v0 : Int32) (M : ZM) (res : Int32) (h : f_X11_kindOf v0 M = res) : zCt l yX11_kindOf cX11_kindOf 1 (Option.some FieldType.int) 0 G [.int v0] M (some (.int res)) M := by
  refine zCt.mk (by decide +kernel) (Nat.le_of_ble_eq_true rfl) ?_
  intro p e s m args below meth c A H locs ls S hr hlk hw hl
  have S : zX p (zR 0) s m args c 0 0 cX11_kindOf 1 RX11 := S
  have hx := S.1.1
  have hb := S.1.2.1
  have hown := S.1.2.2.2.1
  have hts := S.1.2.2.2.2
  have hl : lv_has ls 1 [(0, .int v0)] := hl
  unfold f_X11_kindOf at h
  refine lv_iload_n hx hb dX11_kindOf_0 rfl (lv_at hl 0 rfl) ?_
  rcases Decidable.em (v0 = 33) with c1 | c1
  · have h := zif_t h c1
    refine z_look S (off := 101) (by rw [c1]; decide +kernel) dX11_kindOf_1 (by decide +kernel) (tgt := 102) (by decide) ?_
    refine lv_iconst (v := 1) hx hb dX11_kindOf_102 (by decide) ?_
    subst h
    exact z_ret_i S hr hlk hw dX11_kindOf_103
  have h := zif_f h c1
  rcases Decidable.em (v0 = 38) with c2 | c2
  · have h := zif_t h c2
    refine z_look S (off := 105) (by rw [c2]; decide +kernel) dX11_kindOf_1 (by decide +kernel) (tgt := 106) (by decide) ?_
    refine lv_iconst (v := 3) hx hb dX11_kindOf_106 (by decide) ?_
    subst h
    exact z_ret_i S hr hlk hw dX11_kindOf_107
  have h := zif_f h c2
  rcases Decidable.em (v0 = 40) with c3 | c3
  · have h := zif_t h c3
    refine z_look S (off := 103) (by rw [c3]; decide +kernel) dX11_kindOf_1 (by decide +kernel) (tgt := 104) (by decide) ?_
    refine lv_iconst (v := 2) hx hb dX11_kindOf_104 (by decide) ?_
    subst h
    exact z_ret_i S hr hlk hw dX11_kindOf_105
  have h := zif_f h c3
  rcases Decidable.em (v0 = 45) with c4 | c4
  · have h := zif_t h c4
    refine z_look S (off := 111) (by rw [c4]; decide +kernel) dX11_kindOf_1 (by decide +kernel) (tgt := 112) (by decide) ?_
    refine lv_bipush (v := 6) hx hb dX11_kindOf_112 (by decide) ?_
    subst h
    exact z_ret_i S hr hlk hw dX11_kindOf_114
  have h := zif_f h c4
  rcases Decidable.em (v0 = 62) with c5 | c5
  · have h := zif_t h c5
    refine z_look S (off := 109) (by rw [c5]; decide +kernel) dX11_kindOf_1 (by decide +kernel) (tgt := 110) (by decide) ?_
    refine lv_iconst (v := 5) hx hb dX11_kindOf_110 (by decide) ?_
    subst h
    exact z_ret_i S hr hlk hw dX11_kindOf_111
  have h := zif_f h c5
  rcases Decidable.em (v0 = 97) with c6 | c6
  · have h := zif_t h c6
    refine z_look S (off := 99) (by rw [c6]; decide +kernel) dX11_kindOf_1 (by decide +kernel) (tgt := 100) (by decide) ?_
    refine lv_iconst (v := 0) hx hb dX11_kindOf_100 (by decide) ?_
    subst h
    exact z_ret_i S hr hlk hw dX11_kindOf_101
  have h := zif_f h c6
  rcases Decidable.em (v0 = 98) with c7 | c7
  · have h := zif_t h c7
    refine z_look S (off := 99) (by rw [c7]; decide +kernel) dX11_kindOf_1 (by decide +kernel) (tgt := 100) (by decide) ?_
    refine lv_iconst (v := 0) hx hb dX11_kindOf_100 (by decide) ?_
    subst h
    exact z_ret_i S hr hlk hw dX11_kindOf_101
  have h := zif_f h c7
  rcases Decidable.em (v0 = 99) with c8 | c8
  · have h := zif_t h c8
    refine z_look S (off := 99) (by rw [c8]; decide +kernel) dX11_kindOf_1 (by decide +kernel) (tgt := 100) (by decide) ?_
    refine lv_iconst (v := 0) hx hb dX11_kindOf_100 (by decide) ?_
    subst h
    exact z_ret_i S hr hlk hw dX11_kindOf_101
  have h := zif_f h c8
  rcases Decidable.em (v0 = 100) with c9 | c9
  · have h := zif_t h c9
    refine z_look S (off := 99) (by rw [c9]; decide +kernel) dX11_kindOf_1 (by decide +kernel) (tgt := 100) (by decide) ?_
    refine lv_iconst (v := 0) hx hb dX11_kindOf_100 (by decide) ?_
    subst h
    exact z_ret_i S hr hlk hw dX11_kindOf_101
  have h := zif_f h c9
  rcases Decidable.em (v0 = 101) with c10 | c10
  · have h := zif_t h c10
    refine z_look S (off := 99) (by rw [c10]; decide +kernel) dX11_kindOf_1 (by decide +kernel) (tgt := 100) (by decide) ?_
    refine lv_iconst (v := 0) hx hb dX11_kindOf_100 (by decide) ?_
    subst h
    exact z_ret_i S hr hlk hw dX11_kindOf_101
  have h := zif_f h c10
  rcases Decidable.em (v0 = 124) with c11 | c11
  · have h := zif_t h c11
    refine z_look S (off := 107) (by rw [c11]; decide +kernel) dX11_kindOf_1 (by decide +kernel) (tgt := 108) (by decide) ?_
    refine lv_iconst (v := 4) hx hb dX11_kindOf_108 (by decide) ?_
    subst h
    exact z_ret_i S hr hlk hw dX11_kindOf_109
  have h := zif_f h c11
  have nc1 := zne c1 (z := 33) (by decide)
  have nc2 := zne c2 (z := 38) (by decide)
  have nc3 := zne c3 (z := 40) (by decide)
  have nc4 := zne c4 (z := 45) (by decide)
  have nc5 := zne c5 (z := 62) (by decide)
  have nc6 := zne c6 (z := 97) (by decide)
  have nc7 := zne c7 (z := 98) (by decide)
  have nc8 := zne c8 (z := 99) (by decide)
  have nc9 := zne c9 (z := 100) (by decide)
  have nc10 := zne c10 (z := 101) (by decide)
  have nc11 := zne c11 (z := 124) (by decide)
  refine z_look S (off := 114) (by simp [Op.lookupswitch.offset, Ne.symm nc1, Ne.symm nc2, Ne.symm nc3, Ne.symm nc4, Ne.symm nc5, Ne.symm nc6, Ne.symm nc7, Ne.symm nc8, Ne.symm nc9, Ne.symm nc10, Ne.symm nc11]) dX11_kindOf_1 (by decide +kernel) (tgt := 115) (by decide) ?_
  refine lv_iconst (v := (-1)) hx hb dX11_kindOf_115 (by decide) ?_
  subst h
  exact z_ret_i S hr hlk hw dX11_kindOf_116
def f_X11_isJoin (v0 : Int32) (M : ZM) : Int32 :=
  if v0 < 3 then (
    (0 : Int32)) else (
    (1 : Int32))
set_option maxHeartbeats 4000000 in
set_option maxRecDepth 100000 in
theorem c_X11_isJoin (l : Launch) {G : ZG} (hG : zOk G) (v0 : Int32) (M : ZM) (res : Int32) (h : f_X11_isJoin v0 M = res) : zCt l yX11_isJoin cX11_isJoin 1 (Option.some FieldType.boolean) 0 G [.int v0] M (some (.int res)) M := by
  refine zCt.mk (by decide +kernel) (Nat.le_of_ble_eq_true rfl) ?_
  intro p e s m args below meth c A H locs ls S hr hlk hw hl
  have S : zX p (zR 0) s m args c 0 0 cX11_isJoin 1 RX11 := S
  have hx := S.1.1
  have hb := S.1.2.1
  have hown := S.1.2.2.2.1
  have hts := S.1.2.2.2.2
  have hl : lv_has ls 1 [(0, .int v0)] := hl
  unfold f_X11_isJoin at h
  refine lv_iload_n hx hb dX11_isJoin_0 rfl (lv_at hl 0 rfl) ?_
  refine lv_iconst (v := 3) hx hb dX11_isJoin_1 (by decide) ?_
  refine lv_icmp_lt (tgt := 9) hx hb dX11_isJoin_2 (by decide) (fun c1 => ?_) (fun c1 => ?_)
  · have h := zif_t h c1
    refine lv_iconst (v := 0) hx hb dX11_isJoin_9 (by decide) ?_
    subst h
    exact z_ret_z S hr hlk (by decide) hw dX11_isJoin_10
  · have h := zif_f h c1
    refine lv_iconst (v := 1) hx hb dX11_isJoin_5 (by decide) ?_
    refine lv_goto (tgt := 10) hx hb dX11_isJoin_6 (by decide) ?_
    subst h
    exact z_ret_z S hr hlk (by decide) hw dX11_isJoin_10
def f_X10_fault_6 (t0 : Nat) (M : ZM) (K : Int32 → Int32 → Option Int32) : Nat → Int32 → Int32 → Int32 → Option Int32
  | 0, _, _, _ => none
  | n + 1, v1, v2, v3 =>
    zlet (fun (v1 : Int32) (v2 : Int32) (v3 : Int32) (v4 : Int32) =>
      if v1 = 0 then (
        some v3) else (
        if v4 = 33 then (
          zlet (v3 + 1) fun (x3 : Int32) =>
          f_X10_fault_6 t0 M K n v1 v2 x3) else (
          some v3))) fun J101 =>
    zlet (fun (v1 : Int32) (v2 : Int32) (v3 : Int32) (v4 : Int32) =>
      if v1 = 0 then (
        zlet (f_X11_kindOf v4 M) fun (q5 : Int32) =>
        zlet (f_X11_isJoin q5 M) fun (q6 : Int32) =>
        if q6 = 0 then (
          J101 v1 v2 v3 v4) else (
          zlet (v3 + 1) fun (x8 : Int32) =>
          f_X10_fault_6 t0 M K n 1 v2 x8)) else (
        J101 v1 v2 v3 v4)) fun J81 =>
    zlet (fun (v1 : Int32) (v2 : Int32) (v3 : Int32) (v4 : Int32) =>
      if v1 = 0 then (
        if v4 = 41 then (
          if v2 ≤ 0 then (
            J81 v1 v2 v3 v4) else (
            zlet (v2 + (-1)) fun (x12 : Int32) =>
            zlet (v3 + 1) fun (x13 : Int32) =>
            f_X10_fault_6 t0 M K n v1 x12 x13)) else (
          J81 v1 v2 v3 v4)) else (
        J81 v1 v2 v3 v4)) fun J60 =>
    zlet (fun (v1 : Int32) (v2 : Int32) (v3 : Int32) (v4 : Int32) =>
      if v1 = 0 then (
        J60 v1 v2 v3 v4) else (
        zlet (f_X11_kindOf v4 M) fun (q15 : Int32) =>
        if q15 = 0 then (
          zlet (v3 + 1) fun (x17 : Int32) =>
          f_X10_fault_6 t0 M K n 0 v2 x17) else (
          J60 v1 v2 v3 v4))) fun J43 =>
    if (M.1 t0 1) ≤ v3 then (
      K v1 v2) else (
      zlet (f_X10_at t0 v3 M) fun (q19 : Int32) =>
      if v1 = 0 then (
        J43 v1 v2 v3 q19) else (
        if q19 = 40 then (
          if 4 ≤ v2 then (
            J43 v1 v2 v3 q19) else (
            zlet (v2 + 1) fun (x23 : Int32) =>
            zlet (v3 + 1) fun (x24 : Int32) =>
            f_X10_fault_6 t0 M K n v1 x23 x24)) else (
          J43 v1 v2 v3 q19)))

def f_X10_fault (t0 : Nat) (M : ZM) : Option Int32 :=
  f_X10_fault_6 t0 M (fun (v1 : Int32) (v2 : Int32) =>
    if v1 = 0 then (
      if v2 ≤ 0 then (
        some ((-1) : Int32)) else (
        some (M.1 t0 1))) else (
      some (M.1 t0 1))) zN 1 0 0
set_option maxHeartbeats 4000000 in
set_option maxRecDepth 100000 in
theorem w_X10_fault_6 {G : ZG} (hG : zOk G) (S : zX p (zR 2) s m args c 0 0 cX10_fault 5 RX10) (hr : meth.sig.returnType = (Option.some FieldType.int)) (hlk : meth.locks = false) (t0 : Nat) (k0 : zk G t0 = 20) (M : ZM) {K : Int32 → Int32 → Option Int32} {res : Int32} (hK : ∀ (v1 : Int32) (v2 : Int32), K v1 v2 = some res → ∀ (H : Heap) (locs : List Loc) (ls : Array Slot), zWd G A s H locs M → lv_has ls 5 [(0, .ref (za G t0)), (1, .int v1), (2, .int v2)] → W p l e (zR 2) s m args below meth c H locs 0 0 (zQ below G A (some (.int res)) M args s) (F0 m 120 ls [])) : ∀ (n : Nat) (v1 : Int32) (v2 : Int32) (v3 : Int32), f_X10_fault_6 t0 M K n v1 v2 v3 = some res → ∀ (H : Heap) (locs : List Loc) (ls : Array Slot), zWd G A s H locs M → lv_has ls 5 [(0, .ref (za G t0)), (1, .int v1), (2, .int v2), (3, .int v3)] → W p l e (zR 2) s m args below meth c H locs 0 0 (zQ below G A (some (.int res)) M args s) (F0 m 6 ls []) := by
  have hx := S.1.1
  have hb := S.1.2.1
  have hown := S.1.2.2.2.1
  have hts := S.1.2.2.2.2
  intro n
  induction n with
  | zero =>
    intro v1 v2 v3 h
    rw [f_X10_fault_6] at h
    cases h
  | succ n ih =>
    intro v1 v2 v3 h H locs ls hw hl
    rw [f_X10_fault_6] at h
    obtain ⟨J101, hJ101, h⟩ := zlet_ex h
    have wJ101 : ∀ (v1 : Int32) (v2 : Int32) (v3 : Int32) (v4 : Int32), J101 v1 v2 v3 v4 = some res → ∀ (H : Heap) (locs : List Loc) (ls : Array Slot), zWd G A s H locs M → lv_has ls 5 [(0, .ref (za G t0)), (1, .int v1), (2, .int v2), (3, .int v3), (4, .int v4)] → W p l e (zR 2) s m args below meth c H locs 0 0 (zQ below G A (some (.int res)) M args s) (F0 m 101 ls []) := by
      intro v1 v2 v3 v4 h H locs ls hw hl
      subst hJ101
      refine lv_iload_n hx hb dX10_fault_101 rfl (lv_at hl 1 rfl) ?_
      refine lv_if_eq (tgt := 112) hx hb dX10_fault_102 (by decide) (fun c1 => ?_) (fun c1 => ?_)
      · have h := zif_t h c1
        refine lv_iload_n hx hb dX10_fault_112 rfl (lv_at hl 3 rfl) ?_
        have h := Option.some.inj h
        subst h
        exact z_ret_i S hr hlk hw dX10_fault_113
      · have h := zif_f h c1
        refine lv_iload hx hb dX10_fault_105 (lv_at hl 4 rfl) ?_
        refine lv_bipush (v := 33) hx hb dX10_fault_107 (by decide) ?_
        refine lv_icmp_eq (tgt := 114) hx hb dX10_fault_109 (by decide) (fun c2 => ?_) (fun c2 => ?_)
        · have h := zif_t h c2
          obtain ⟨x3, ex3, h⟩ := zlet_ex h
          refine lv_iinc (v := x3) (lv' := [(3, .int x3), (0, .ref (za G t0)), (1, .int v1), (2, .int v2), (4, .int v4)]) hx hb dX10_fault_114 hl (k := 3) rfl (by rw [ex3]; rfl) (by decide) rfl (fun ls hl => ?_)
          refine lv_goto (tgt := 6) hx hb dX10_fault_117 (by decide) ?_
          exact ih v1 v2 x3 h H locs ls hw (lv_sub hl [1, 2, 3, 0] rfl)
        · have h := zif_f h c2
          refine lv_iload_n hx hb dX10_fault_112 rfl (lv_at hl 3 rfl) ?_
          have h := Option.some.inj h
          subst h
          exact z_ret_i S hr hlk hw dX10_fault_113
    obtain ⟨J81, hJ81, h⟩ := zlet_ex h
    have wJ81 : ∀ (v1 : Int32) (v2 : Int32) (v3 : Int32) (v4 : Int32), J81 v1 v2 v3 v4 = some res → ∀ (H : Heap) (locs : List Loc) (ls : Array Slot), zWd G A s H locs M → lv_has ls 5 [(0, .ref (za G t0)), (1, .int v1), (2, .int v2), (3, .int v3), (4, .int v4)] → W p l e (zR 2) s m args below meth c H locs 0 0 (zQ below G A (some (.int res)) M args s) (F0 m 81 ls []) := by
      intro v1 v2 v3 v4 h H locs ls hw hl
      subst hJ81
      refine lv_iload_n hx hb dX10_fault_81 rfl (lv_at hl 1 rfl) ?_
      refine lv_if_ne (tgt := 101) hx hb dX10_fault_82 (by decide) (fun c4 => ?_) (fun c4 => ?_)
      · have h := zif_f h c4
        exact wJ101 v1 v2 v3 v4 h H locs ls hw (lv_sub hl [0, 1, 2, 3, 4] rfl)
      · have h := zif_t h c4
        refine lv_iload hx hb dX10_fault_85 (lv_at hl 4 rfl) ?_
        obtain ⟨q5, eq5, h⟩ := zlet_ex h
        refine z_callS (As := [.int v4]) (rest := []) (rv := (some (.int q5))) (M1 := M) S hw (c_X11_kindOf l hG v4 M q5 eq5.symm) mv_X11_kindOf lk_X10_38 rfl rfl (Nat.le_of_ble_eq_true rfl) ⟨Nat.le_of_ble_eq_true rfl, Nat.le_of_ble_eq_true rfl⟩ hl.1 dX10_fault_87 (fun H locs hw => ?_)
        obtain ⟨q6, eq6, h⟩ := zlet_ex h
        refine z_callS (As := [.int q5]) (rest := []) (rv := (some (.int q6))) (M1 := M) S hw (c_X11_isJoin l hG q5 M q6 eq6.symm) mv_X11_isJoin lk_X10_47 rfl rfl (Nat.le_of_ble_eq_true rfl) ⟨Nat.le_of_ble_eq_true rfl, Nat.le_of_ble_eq_true rfl⟩ hl.1 dX10_fault_90 (fun H locs hw => ?_)
        refine lv_if_eq (tgt := 101) hx hb dX10_fault_93 (by decide) (fun c7 => ?_) (fun c7 => ?_)
        · have h := zif_t h c7
          exact wJ101 v1 v2 v3 v4 h H locs ls hw (lv_sub hl [0, 1, 2, 3, 4] rfl)
        · have h := zif_f h c7
          refine lv_iconst (v := 1) hx hb dX10_fault_96 (by decide) ?_
          refine lv_istore_n (lv' := [(1, .int 1), (0, .ref (za G t0)), (2, .int v2), (3, .int v3), (4, .int v4)]) hx hb dX10_fault_97 rfl hl (by decide) rfl (fun ls hl => ?_)
          refine lv_goto (tgt := 114) hx hb dX10_fault_98 (by decide) ?_
          obtain ⟨x8, ex8, h⟩ := zlet_ex h
          refine lv_iinc (v := x8) (lv' := [(3, .int x8), (1, .int 1), (0, .ref (za G t0)), (2, .int v2), (4, .int v4)]) hx hb dX10_fault_114 hl (k := 3) rfl (by rw [ex8]; rfl) (by decide) rfl (fun ls hl => ?_)
          refine lv_goto (tgt := 6) hx hb dX10_fault_117 (by decide) ?_
          exact ih 1 v2 x8 h H locs ls hw (lv_sub hl [2, 1, 3, 0] rfl)
    obtain ⟨J60, hJ60, h⟩ := zlet_ex h
    have wJ60 : ∀ (v1 : Int32) (v2 : Int32) (v3 : Int32) (v4 : Int32), J60 v1 v2 v3 v4 = some res → ∀ (H : Heap) (locs : List Loc) (ls : Array Slot), zWd G A s H locs M → lv_has ls 5 [(0, .ref (za G t0)), (1, .int v1), (2, .int v2), (3, .int v3), (4, .int v4)] → W p l e (zR 2) s m args below meth c H locs 0 0 (zQ below G A (some (.int res)) M args s) (F0 m 60 ls []) := by
      intro v1 v2 v3 v4 h H locs ls hw hl
      subst hJ60
      refine lv_iload_n hx hb dX10_fault_60 rfl (lv_at hl 1 rfl) ?_
      refine lv_if_ne (tgt := 81) hx hb dX10_fault_61 (by decide) (fun c9 => ?_) (fun c9 => ?_)
      · have h := zif_f h c9
        exact wJ81 v1 v2 v3 v4 h H locs ls hw (lv_sub hl [0, 1, 2, 3, 4] rfl)
      · have h := zif_t h c9
        refine lv_iload hx hb dX10_fault_64 (lv_at hl 4 rfl) ?_
        refine lv_bipush (v := 41) hx hb dX10_fault_66 (by decide) ?_
        refine lv_icmp_ne (tgt := 81) hx hb dX10_fault_68 (by decide) (fun c10 => ?_) (fun c10 => ?_)
        · have h := zif_f h c10
          exact wJ81 v1 v2 v3 v4 h H locs ls hw (lv_sub hl [0, 1, 2, 3, 4] rfl)
        · have h := zif_t h c10
          refine lv_iload_n hx hb dX10_fault_71 rfl (lv_at hl 2 rfl) ?_
          refine lv_if_le (tgt := 81) hx hb dX10_fault_72 (by decide) (fun c11 => ?_) (fun c11 => ?_)
          · have h := zif_t h c11
            exact wJ81 v1 v2 v3 v4 h H locs ls hw (lv_sub hl [0, 1, 2, 3, 4] rfl)
          · have h := zif_f h c11
            obtain ⟨x12, ex12, h⟩ := zlet_ex h
            refine lv_iinc (v := x12) (lv' := [(2, .int x12), (0, .ref (za G t0)), (1, .int v1), (3, .int v3), (4, .int v4)]) hx hb dX10_fault_75 hl (k := 2) rfl (by rw [ex12]; rfl) (by decide) rfl (fun ls hl => ?_)
            refine lv_goto (tgt := 114) hx hb dX10_fault_78 (by decide) ?_
            obtain ⟨x13, ex13, h⟩ := zlet_ex h
            refine lv_iinc (v := x13) (lv' := [(3, .int x13), (2, .int x12), (0, .ref (za G t0)), (1, .int v1), (4, .int v4)]) hx hb dX10_fault_114 hl (k := 3) rfl (by rw [ex13]; rfl) (by decide) rfl (fun ls hl => ?_)
            refine lv_goto (tgt := 6) hx hb dX10_fault_117 (by decide) ?_
            exact ih v1 x12 x13 h H locs ls hw (lv_sub hl [2, 3, 1, 0] rfl)
    obtain ⟨J43, hJ43, h⟩ := zlet_ex h
    have wJ43 : ∀ (v1 : Int32) (v2 : Int32) (v3 : Int32) (v4 : Int32), J43 v1 v2 v3 v4 = some res → ∀ (H : Heap) (locs : List Loc) (ls : Array Slot), zWd G A s H locs M → lv_has ls 5 [(0, .ref (za G t0)), (1, .int v1), (2, .int v2), (3, .int v3), (4, .int v4)] → W p l e (zR 2) s m args below meth c H locs 0 0 (zQ below G A (some (.int res)) M args s) (F0 m 43 ls []) := by
      intro v1 v2 v3 v4 h H locs ls hw hl
      subst hJ43
      refine lv_iload_n hx hb dX10_fault_43 rfl (lv_at hl 1 rfl) ?_
      refine lv_if_eq (tgt := 60) hx hb dX10_fault_44 (by decide) (fun c14 => ?_) (fun c14 => ?_)
      · have h := zif_t h c14
        exact wJ60 v1 v2 v3 v4 h H locs ls hw (lv_sub hl [0, 1, 2, 3, 4] rfl)
      · have h := zif_f h c14
        refine lv_iload hx hb dX10_fault_47 (lv_at hl 4 rfl) ?_
        obtain ⟨q15, eq15, h⟩ := zlet_ex h
        refine z_callS (As := [.int v4]) (rest := []) (rv := (some (.int q15))) (M1 := M) S hw (c_X11_kindOf l hG v4 M q15 eq15.symm) mv_X11_kindOf lk_X10_38 rfl rfl (Nat.le_of_ble_eq_true rfl) ⟨Nat.le_of_ble_eq_true rfl, Nat.le_of_ble_eq_true rfl⟩ hl.1 dX10_fault_49 (fun H locs hw => ?_)
        refine lv_if_ne (tgt := 60) hx hb dX10_fault_52 (by decide) (fun c16 => ?_) (fun c16 => ?_)
        · have h := zif_f h c16
          exact wJ60 v1 v2 v3 v4 h H locs ls hw (lv_sub hl [0, 1, 2, 3, 4] rfl)
        · have h := zif_t h c16
          refine lv_iconst (v := 0) hx hb dX10_fault_55 (by decide) ?_
          refine lv_istore_n (lv' := [(1, .int 0), (0, .ref (za G t0)), (2, .int v2), (3, .int v3), (4, .int v4)]) hx hb dX10_fault_56 rfl hl (by decide) rfl (fun ls hl => ?_)
          refine lv_goto (tgt := 114) hx hb dX10_fault_57 (by decide) ?_
          obtain ⟨x17, ex17, h⟩ := zlet_ex h
          refine lv_iinc (v := x17) (lv' := [(3, .int x17), (1, .int 0), (0, .ref (za G t0)), (2, .int v2), (4, .int v4)]) hx hb dX10_fault_114 hl (k := 3) rfl (by rw [ex17]; rfl) (by decide) rfl (fun ls hl => ?_)
          refine lv_goto (tgt := 6) hx hb dX10_fault_117 (by decide) ?_
          exact ih 0 v2 x17 h H locs ls hw (lv_sub hl [2, 1, 3, 0] rfl)
    refine lv_iload_n hx hb dX10_fault_6 rfl (lv_at hl 3 rfl) ?_
    refine lv_aload_n hx hb dX10_fault_7 rfl (lv_at hl 0 rfl) ?_
    refine z_getI S hw k0 fl_X10_15 rfl dX10_fault_8 ?_
    refine lv_icmp_ge (tgt := 120) hx hb dX10_fault_11 (by decide) (fun c18 => ?_) (fun c18 => ?_)
    · have h := zif_t h c18
      exact hK v1 v2 h H locs ls hw (lv_sub hl [0, 1, 2] rfl)
    · have h := zif_f h c18
      refine lv_aload_n hx hb dX10_fault_14 rfl (lv_at hl 0 rfl) ?_
      refine lv_iload_n hx hb dX10_fault_15 rfl (lv_at hl 3 rfl) ?_
      obtain ⟨q19, eq19, h⟩ := zlet_ex h
      refine z_callV (ci := 10) (As := [.int v3]) (rest := []) (rv := (some (.int q19))) (M1 := M) S hw (c_X10_at l hG t0 v3 k0 M q19 eq19.symm) mv_X10_at lk_X10_30 k0 ⟨_, _, rfl⟩ (by decide) rfl rfl (Nat.le_of_ble_eq_true rfl) ⟨Nat.le_of_ble_eq_true rfl, Nat.le_of_ble_eq_true rfl⟩ hl.1 dX10_fault_16 (fun H locs hw => ?_)
      refine lv_istore (lv' := [(4, .int q19), (0, .ref (za G t0)), (1, .int v1), (2, .int v2), (3, .int v3)]) hx hb dX10_fault_19 hl (by decide) rfl (fun ls hl => ?_)
      refine lv_iload_n hx hb dX10_fault_21 rfl (lv_at hl 2 rfl) ?_
      refine lv_if_eq (tgt := 43) hx hb dX10_fault_22 (by decide) (fun c20 => ?_) (fun c20 => ?_)
      · have h := zif_t h c20
        exact wJ43 v1 v2 v3 q19 h H locs ls hw (lv_sub hl [1, 2, 3, 4, 0] rfl)
      · have h := zif_f h c20
        refine lv_iload hx hb dX10_fault_25 (lv_at hl 0 rfl) ?_
        refine lv_bipush (v := 40) hx hb dX10_fault_27 (by decide) ?_
        refine lv_icmp_ne (tgt := 43) hx hb dX10_fault_29 (by decide) (fun c21 => ?_) (fun c21 => ?_)
        · have h := zif_f h c21
          exact wJ43 v1 v2 v3 q19 h H locs ls hw (lv_sub hl [1, 2, 3, 4, 0] rfl)
        · have h := zif_t h c21
          refine lv_iload_n hx hb dX10_fault_32 rfl (lv_at hl 3 rfl) ?_
          refine lv_iconst (v := 4) hx hb dX10_fault_33 (by decide) ?_
          refine lv_icmp_ge (tgt := 43) hx hb dX10_fault_34 (by decide) (fun c22 => ?_) (fun c22 => ?_)
          · have h := zif_t h c22
            exact wJ43 v1 v2 v3 q19 h H locs ls hw (lv_sub hl [1, 2, 3, 4, 0] rfl)
          · have h := zif_f h c22
            obtain ⟨x23, ex23, h⟩ := zlet_ex h
            refine lv_iinc (v := x23) (lv' := [(2, .int x23), (4, .int q19), (0, .ref (za G t0)), (1, .int v1), (3, .int v3)]) hx hb dX10_fault_37 hl (k := 3) rfl (by rw [ex23]; rfl) (by decide) rfl (fun ls hl => ?_)
            refine lv_goto (tgt := 114) hx hb dX10_fault_40 (by decide) ?_
            obtain ⟨x24, ex24, h⟩ := zlet_ex h
            refine lv_iinc (v := x24) (lv' := [(3, .int x24), (2, .int x23), (4, .int q19), (0, .ref (za G t0)), (1, .int v1)]) hx hb dX10_fault_114 hl (k := 4) rfl (by rw [ex24]; rfl) (by decide) rfl (fun ls hl => ?_)
            refine lv_goto (tgt := 6) hx hb dX10_fault_117 (by decide) ?_
            exact ih v1 x23 x24 h H locs ls hw (lv_sub hl [3, 4, 1, 0] rfl)
set_option maxHeartbeats 4000000 in
set_option maxRecDepth 100000 in
theorem c_X10_fault (l : Launch) {G : ZG} (hG : zOk G) (t0 : Nat) (k0 : zk G t0 = 20) (M : ZM) (res : Int32) (h : f_X10_fault t0 M = some res) : zCt l yX10_fault cX10_fault 5 (Option.some FieldType.int) 2 G [.ref (za G t0)] M (some (.int res)) M := by
  refine zCt.mk (by decide +kernel) (Nat.le_of_ble_eq_true rfl) ?_
  intro p e s m args below meth c A H locs ls S hr hlk hw hl
  have S : zX p (zR 2) s m args c 0 0 cX10_fault 5 RX10 := S
  have hx := S.1.1
  have hb := S.1.2.1
  have hown := S.1.2.2.2.1
  have hts := S.1.2.2.2.2
  have hl : lv_has ls 5 [(0, .ref (za G t0))] := hl
  unfold f_X10_fault at h
  refine lv_iconst (v := 1) hx hb dX10_fault_0 (by decide) ?_
  refine lv_istore_n (lv' := [(1, .int 1), (0, .ref (za G t0))]) hx hb dX10_fault_1 rfl hl (by decide) rfl (fun ls hl => ?_)
  refine lv_iconst (v := 0) hx hb dX10_fault_2 (by decide) ?_
  refine lv_istore_n (lv' := [(2, .int 0), (1, .int 1), (0, .ref (za G t0))]) hx hb dX10_fault_3 rfl hl (by decide) rfl (fun ls hl => ?_)
  refine lv_iconst (v := 0) hx hb dX10_fault_4 (by decide) ?_
  refine lv_istore_n (lv' := [(3, .int 0), (2, .int 0), (1, .int 1), (0, .ref (za G t0))]) hx hb dX10_fault_5 rfl hl (by decide) rfl (fun ls hl => ?_)
  refine w_X10_fault_6 hG S hr hlk t0 k0 M (fun v1 v2 h H locs ls hw hl => ?_) zN 1 0 0 h H locs ls hw (lv_sub hl [3, 2, 1, 0] rfl)
  refine lv_iload_n hx hb dX10_fault_120 rfl (lv_at hl 1 rfl) ?_
  refine lv_if_ne (tgt := 128) hx hb dX10_fault_121 (by decide) (fun c25 => ?_) (fun c25 => ?_)
  · have h := zif_f h c25
    refine lv_aload_n hx hb dX10_fault_128 rfl (lv_at hl 0 rfl) ?_
    refine z_getI S hw k0 fl_X10_15 rfl dX10_fault_129 ?_
    refine lv_goto (tgt := 136) hx hb dX10_fault_132 (by decide) ?_
    have h := Option.some.inj h
    subst h
    exact z_ret_i S hr hlk hw dX10_fault_136
  · have h := zif_t h c25
    refine lv_iload_n hx hb dX10_fault_124 rfl (lv_at hl 2 rfl) ?_
    refine lv_if_le (tgt := 135) hx hb dX10_fault_125 (by decide) (fun c26 => ?_) (fun c26 => ?_)
    · have h := zif_t h c26
      refine lv_iconst (v := (-1)) hx hb dX10_fault_135 (by decide) ?_
      have h := Option.some.inj h
      subst h
      exact z_ret_i S hr hlk hw dX10_fault_136
    · have h := zif_f h c26
      refine lv_aload_n hx hb dX10_fault_128 rfl (lv_at hl 0 rfl) ?_
      refine z_getI S hw k0 fl_X10_15 rfl dX10_fault_129 ?_
      refine lv_goto (tgt := 136) hx hb dX10_fault_132 (by decide) ?_
      have h := Option.some.inj h
      subst h
      exact z_ret_i S hr hlk hw dX10_fault_136
def f_X10_clear (t0 : Nat) (M : ZM) : ZM :=
  zlet (zi M t0 1 0) fun (M1 : ZM) =>
  M1
set_option maxHeartbeats 4000000 in
set_option maxRecDepth 100000 in
theorem c_X10_clear (l : Launch) {G : ZG} (hG : zOk G) (t0 : Nat) (k0 : zk G t0 = 20) (M : ZM) (res : ZM) (h : f_X10_clear t0 M = res) : zCt l yX10_clear cX10_clear 1 none 0 G [.ref (za G t0)] M none res := by
  refine zCt.mk (by decide +kernel) (Nat.le_of_ble_eq_true rfl) ?_
  intro p e s m args below meth c A H locs ls S hr hlk hw hl
  have S : zX p (zR 0) s m args c 0 0 cX10_clear 1 RX10 := S
  have hx := S.1.1
  have hb := S.1.2.1
  have hown := S.1.2.2.2.1
  have hts := S.1.2.2.2.2
  have hl : lv_has ls 1 [(0, .ref (za G t0))] := hl
  unfold f_X10_clear at h
  refine lv_aload_n hx hb dX10_clear_0 rfl (lv_at hl 0 rfl) ?_
  refine lv_iconst (v := 0) hx hb dX10_clear_1 (by decide) ?_
  obtain ⟨M1, eM1, h⟩ := zlet_ex h
  refine z_putI S hw eM1 k0 fl_X10_15 rfl (fun h => absurd h (by decide)) dX10_clear_2 (fun H locs hw => ?_)
  subst h
  exact z_ret_v S hr hlk hw dX10_clear_5
def f_X10_become_6 (t0 : Nat) (t1 : Nat) (K : ZM → Option ZM) : Nat → Int32 → ZM → Option ZM
  | 0, _, _ => none
  | n + 1, v2, M =>
    if (M.1 t1 1) ≤ v2 then (
      K M) else (
      zlet (f_X10_at t1 v2 M) fun (q3 : Int32) =>
      zlet (f_X10_add t0 q3 M) fun (q4 : ZM) =>
      zlet (v2 + 1) fun (x5 : Int32) =>
      f_X10_become_6 t0 t1 K n x5 q4)

def f_X10_become (t0 : Nat) (t1 : Nat) (M : ZM) : Option ZM :=
  zlet (f_X10_clear t0 M) fun (q1 : ZM) =>
  f_X10_become_6 t0 t1 (fun (M : ZM) =>
    some M) zN 0 q1
set_option maxHeartbeats 4000000 in
set_option maxRecDepth 100000 in
theorem w_X10_become_6 {G : ZG} (hG : zOk G) (S : zX p (zR 2) s m args c 0 0 cX10_become 3 RX10) (hr : meth.sig.returnType = none) (hlk : meth.locks = false) (t0 : Nat) (t1 : Nat) (k0 : zk G t0 = 20) (k1 : zk G t1 = 20) {K : ZM → Option ZM} {res : ZM} (hK : ∀  (M : ZM), K M = some res → ∀ (H : Heap) (locs : List Loc) (ls : Array Slot), zWd G A s H locs M → lv_has ls 3 [] → W p l e (zR 2) s m args below meth c H locs 0 0 (zQ below G A none res args s) (F0 m 29 ls [])) : ∀ (n : Nat) (v2 : Int32) (M : ZM), f_X10_become_6 t0 t1 K n v2 M = some res → ∀ (H : Heap) (locs : List Loc) (ls : Array Slot), zWd G A s H locs M → lv_has ls 3 [(0, .ref (za G t0)), (1, .ref (za G t1)), (2, .int v2)] → W p l e (zR 2) s m args below meth c H locs 0 0 (zQ below G A none res args s) (F0 m 6 ls []) := by
  have hx := S.1.1
  have hb := S.1.2.1
  have hown := S.1.2.2.2.1
  have hts := S.1.2.2.2.2
  intro n
  induction n with
  | zero =>
    intro v2 M h
    rw [f_X10_become_6] at h
    cases h
  | succ n ih =>
    intro v2 M h H locs ls hw hl
    rw [f_X10_become_6] at h
    refine lv_iload_n hx hb dX10_become_6 rfl (lv_at hl 2 rfl) ?_
    refine lv_aload_n hx hb dX10_become_7 rfl (lv_at hl 1 rfl) ?_
    refine z_getI S hw k1 fl_X10_15 rfl dX10_become_8 ?_
    refine lv_icmp_ge (tgt := 29) hx hb dX10_become_11 (by decide) (fun c2 => ?_) (fun c2 => ?_)
    · have h := zif_t h c2
      exact hK M h H locs ls hw (lv_sub hl [] rfl)
    · have h := zif_f h c2
      refine lv_aload_n hx hb dX10_become_14 rfl (lv_at hl 0 rfl) ?_
      refine lv_aload_n hx hb dX10_become_15 rfl (lv_at hl 1 rfl) ?_
      refine lv_iload_n hx hb dX10_become_16 rfl (lv_at hl 2 rfl) ?_
      obtain ⟨q3, eq3, h⟩ := zlet_ex h
      refine z_callV (ci := 10) (As := [.int v2]) (rest := [.ref (za G t0)]) (rv := (some (.int q3))) (M1 := M) S hw (c_X10_at l hG t1 v2 k1 M q3 eq3.symm) mv_X10_at lk_X10_30 k1 ⟨_, _, rfl⟩ (by decide) rfl rfl (Nat.le_of_ble_eq_true rfl) ⟨Nat.le_of_ble_eq_true rfl, Nat.le_of_ble_eq_true rfl⟩ hl.1 dX10_become_17 (fun H locs hw => ?_)
      obtain ⟨q4, eq4, h⟩ := zlet_ex h
      refine z_callV (ci := 10) (As := [.int q3]) (rest := []) (rv := none) (M1 := q4) S hw (c_X10_add l hG t0 q3 k0 M q4 eq4.symm) mv_X10_add lk_X10_34 k0 ⟨_, _, rfl⟩ (by decide) rfl rfl (Nat.le_of_ble_eq_true rfl) ⟨Nat.le_of_ble_eq_true rfl, Nat.le_of_ble_eq_true rfl⟩ hl.1 dX10_become_20 (fun H locs hw => ?_)
      obtain ⟨x5, ex5, h⟩ := zlet_ex h
      refine lv_iinc (v := x5) (lv' := [(2, .int x5), (0, .ref (za G t0)), (1, .ref (za G t1))]) hx hb dX10_become_23 hl (k := 2) rfl (by rw [ex5]; rfl) (by decide) rfl (fun ls hl => ?_)
      refine lv_goto (tgt := 6) hx hb dX10_become_26 (by decide) ?_
      exact ih x5 q4 h H locs ls hw (lv_sub hl [1, 2, 0] rfl)
set_option maxHeartbeats 4000000 in
set_option maxRecDepth 100000 in
theorem c_X10_become (l : Launch) {G : ZG} (hG : zOk G) (t0 : Nat) (t1 : Nat) (k0 : zk G t0 = 20) (k1 : zk G t1 = 20) (M : ZM) (res : ZM) (h : f_X10_become t0 t1 M = some res) : zCt l yX10_become cX10_become 3 none 2 G [.ref (za G t0), .ref (za G t1)] M none res := by
  refine zCt.mk (by decide +kernel) (Nat.le_of_ble_eq_true rfl) ?_
  intro p e s m args below meth c A H locs ls S hr hlk hw hl
  have S : zX p (zR 2) s m args c 0 0 cX10_become 3 RX10 := S
  have hx := S.1.1
  have hb := S.1.2.1
  have hown := S.1.2.2.2.1
  have hts := S.1.2.2.2.2
  have hl : lv_has ls 3 [(0, .ref (za G t0)), (1, .ref (za G t1))] := hl
  unfold f_X10_become at h
  refine lv_aload_n hx hb dX10_become_0 rfl (lv_at hl 0 rfl) ?_
  obtain ⟨q1, eq1, h⟩ := zlet_ex h
  refine z_callV (ci := 10) (As := []) (rest := []) (rv := none) (M1 := q1) S hw (c_X10_clear l hG t0 k0 M q1 eq1.symm) mv_X10_clear lk_X10_27 k0 ⟨_, _, rfl⟩ (by decide) rfl rfl (Nat.le_of_ble_eq_true rfl) ⟨Nat.le_of_ble_eq_true rfl, Nat.le_of_ble_eq_true rfl⟩ hl.1 dX10_become_1 (fun H locs hw => ?_)
  refine lv_iconst (v := 0) hx hb dX10_become_4 (by decide) ?_
  refine lv_istore_n (lv' := [(2, .int 0), (0, .ref (za G t0)), (1, .ref (za G t1))]) hx hb dX10_become_5 rfl hl (by decide) rfl (fun ls hl => ?_)
  refine w_X10_become_6 hG S hr hlk t0 t1 k0 k1 (fun M h H locs ls hw hl => ?_) zN 0 q1 h H locs ls hw (lv_sub hl [1, 2, 0] rfl)
  have h := Option.some.inj h
  subst h
  exact z_ret_v S hr hlk hw dX10_become_29
def f_X10_closeAfter_4 (t0 : Nat) (M : ZM) (K : Option Int32) : Nat → Int32 → Int32 → Option Int32
  | 0, _, _ => none
  | n + 1, v2, v3 =>
    zlet (fun (v2 : Int32) (v3 : Int32) =>
      if 0 ≤ v2 then (
        zlet (v3 + 1) fun (x2 : Int32) =>
        f_X10_closeAfter_4 t0 M K n v2 x2) else (
        some v3)) fun J45 =>
    if (M.1 t0 1) ≤ v3 then (
      K) else (
      zlet (f_X11_look (zr t0 0) v3 M) fun (q4 : Int32) =>
      if q4 = 40 then (
        zlet (v2 + 1) fun (x8 : Int32) =>
        J45 x8 v3) else (
        if q4 = 41 then (
          zlet (v2 + (-1)) fun (x7 : Int32) =>
          J45 x7 v3) else (
          J45 v2 v3)))

def f_X10_closeAfter (t0 : Nat) (v1 : Int32) (M : ZM) : Option Int32 :=
  f_X10_closeAfter_4 t0 M (
    some (M.1 t0 1)) zN 0 v1
set_option maxHeartbeats 4000000 in
set_option maxRecDepth 100000 in
theorem w_X10_closeAfter_4 {G : ZG} (hG : zOk G) (S : zX p (zR 1) s m args c 0 0 cX10_closeAfter 5 RX10) (hr : meth.sig.returnType = (Option.some FieldType.int)) (hlk : meth.locks = false) (t0 : Nat) (k0 : zk G t0 = 20) (M : ZM) {K : Option Int32} {res : Int32} (hK : K = some res → ∀ (H : Heap) (locs : List Loc) (ls : Array Slot), zWd G A s H locs M → lv_has ls 5 [(0, .ref (za G t0))] → W p l e (zR 1) s m args below meth c H locs 0 0 (zQ below G A (some (.int res)) M args s) (F0 m 57 ls [])) : ∀ (n : Nat) (v2 : Int32) (v3 : Int32), f_X10_closeAfter_4 t0 M K n v2 v3 = some res → ∀ (H : Heap) (locs : List Loc) (ls : Array Slot), zWd G A s H locs M → lv_has ls 5 [(0, .ref (za G t0)), (2, .int v2), (3, .int v3)] → W p l e (zR 1) s m args below meth c H locs 0 0 (zQ below G A (some (.int res)) M args s) (F0 m 4 ls []) := by
  have hx := S.1.1
  have hb := S.1.2.1
  have hown := S.1.2.2.2.1
  have hts := S.1.2.2.2.2
  intro n
  induction n with
  | zero =>
    intro v2 v3 h
    rw [f_X10_closeAfter_4] at h
    cases h
  | succ n ih =>
    intro v2 v3 h H locs ls hw hl
    rw [f_X10_closeAfter_4] at h
    obtain ⟨J45, hJ45, h⟩ := zlet_ex h
    have wJ45 : ∀ (v2 : Int32) (v3 : Int32), J45 v2 v3 = some res → ∀ (H : Heap) (locs : List Loc) (ls : Array Slot), zWd G A s H locs M → lv_has ls 5 [(0, .ref (za G t0)), (2, .int v2), (3, .int v3)] → W p l e (zR 1) s m args below meth c H locs 0 0 (zQ below G A (some (.int res)) M args s) (F0 m 45 ls []) := by
      intro v2 v3 h H locs ls hw hl
      subst hJ45
      refine lv_iload_n hx hb dX10_closeAfter_45 rfl (lv_at hl 1 rfl) ?_
      refine lv_if_ge (tgt := 51) hx hb dX10_closeAfter_46 (by decide) (fun c1 => ?_) (fun c1 => ?_)
      · have h := zif_t h c1
        obtain ⟨x2, ex2, h⟩ := zlet_ex h
        refine lv_iinc (v := x2) (lv' := [(3, .int x2), (0, .ref (za G t0)), (2, .int v2)]) hx hb dX10_closeAfter_51 hl (k := 2) rfl (by rw [ex2]; rfl) (by decide) rfl (fun ls hl => ?_)
        refine lv_goto (tgt := 4) hx hb dX10_closeAfter_54 (by decide) ?_
        exact ih v2 x2 h H locs ls hw (lv_sub hl [1, 2, 0] rfl)
      · have h := zif_f h c1
        refine lv_iload_n hx hb dX10_closeAfter_49 rfl (lv_at hl 2 rfl) ?_
        have h := Option.some.inj h
        subst h
        exact z_ret_i S hr hlk hw dX10_closeAfter_50
    refine lv_iload_n hx hb dX10_closeAfter_4 rfl (lv_at hl 2 rfl) ?_
    refine lv_aload_n hx hb dX10_closeAfter_5 rfl (lv_at hl 0 rfl) ?_
    refine z_getI S hw k0 fl_X10_15 rfl dX10_closeAfter_6 ?_
    refine lv_icmp_ge (tgt := 57) hx hb dX10_closeAfter_9 (by decide) (fun c3 => ?_) (fun c3 => ?_)
    · have h := zif_t h c3
      exact hK  h H locs ls hw (lv_sub hl [0] rfl)
    · have h := zif_f h c3
      refine lv_aload_n hx hb dX10_closeAfter_12 rfl (lv_at hl 0 rfl) ?_
      refine z_getR S hw k0 fl_X10_9 rfl dX10_closeAfter_13 ?_
      refine lv_iload_n hx hb dX10_closeAfter_16 rfl (lv_at hl 2 rfl) ?_
      obtain ⟨q4, eq4, h⟩ := zlet_ex h
      refine z_callS (As := [.ref (za G (zr t0 0)), .int v3]) (rest := []) (rv := (some (.int q4))) (M1 := M) S hw (c_X11_look l hG (zr t0 0) v3 (kr_10_0 hG k0) M q4 eq4.symm) mv_X11_look lk_X10_19 rfl rfl (Nat.le_of_ble_eq_true rfl) ⟨Nat.le_of_ble_eq_true rfl, Nat.le_of_ble_eq_true rfl⟩ hl.1 dX10_closeAfter_17 (fun H locs hw => ?_)
      refine lv_istore (lv' := [(4, .int q4), (0, .ref (za G t0)), (2, .int v2), (3, .int v3)]) hx hb dX10_closeAfter_20 hl (by decide) rfl (fun ls hl => ?_)
      refine lv_iload hx hb dX10_closeAfter_22 (lv_at hl 0 rfl) ?_
      refine lv_bipush (v := 40) hx hb dX10_closeAfter_24 (by decide) ?_
      refine lv_icmp_ne (tgt := 35) hx hb dX10_closeAfter_26 (by decide) (fun c5 => ?_) (fun c5 => ?_)
      · have h := zif_f h c5
        refine lv_iload hx hb dX10_closeAfter_35 (lv_at hl 0 rfl) ?_
        refine lv_bipush (v := 41) hx hb dX10_closeAfter_37 (by decide) ?_
        refine lv_icmp_ne (tgt := 45) hx hb dX10_closeAfter_39 (by decide) (fun c6 => ?_) (fun c6 => ?_)
        · have h := zif_f h c6
          exact wJ45 v2 v3 h H locs ls hw (lv_sub hl [1, 2, 3] rfl)
        · have h := zif_t h c6
          obtain ⟨x7, ex7, h⟩ := zlet_ex h
          refine lv_iinc (v := x7) (lv' := [(2, .int x7), (4, .int q4), (0, .ref (za G t0)), (3, .int v3)]) hx hb dX10_closeAfter_42 hl (k := 2) rfl (by rw [ex7]; rfl) (by decide) rfl (fun ls hl => ?_)
          exact wJ45 x7 v3 h H locs ls hw (lv_sub hl [2, 0, 3] rfl)
      · have h := zif_t h c5
        obtain ⟨x8, ex8, h⟩ := zlet_ex h
        refine lv_iinc (v := x8) (lv' := [(2, .int x8), (4, .int q4), (0, .ref (za G t0)), (3, .int v3)]) hx hb dX10_closeAfter_29 hl (k := 2) rfl (by rw [ex8]; rfl) (by decide) rfl (fun ls hl => ?_)
        refine lv_goto (tgt := 45) hx hb dX10_closeAfter_32 (by decide) ?_
        exact wJ45 x8 v3 h H locs ls hw (lv_sub hl [2, 0, 3] rfl)
set_option maxHeartbeats 4000000 in
set_option maxRecDepth 100000 in
theorem c_X10_closeAfter (l : Launch) {G : ZG} (hG : zOk G) (t0 : Nat) (v1 : Int32) (k0 : zk G t0 = 20) (M : ZM) (res : Int32) (h : f_X10_closeAfter t0 v1 M = some res) : zCt l yX10_closeAfter cX10_closeAfter 5 (Option.some FieldType.int) 1 G [.ref (za G t0), .int v1] M (some (.int res)) M := by
  refine zCt.mk (by decide +kernel) (Nat.le_of_ble_eq_true rfl) ?_
  intro p e s m args below meth c A H locs ls S hr hlk hw hl
  have S : zX p (zR 1) s m args c 0 0 cX10_closeAfter 5 RX10 := S
  have hx := S.1.1
  have hb := S.1.2.1
  have hown := S.1.2.2.2.1
  have hts := S.1.2.2.2.2
  have hl : lv_has ls 5 [(0, .ref (za G t0)), (1, .int v1)] := hl
  unfold f_X10_closeAfter at h
  refine lv_iconst (v := 0) hx hb dX10_closeAfter_0 (by decide) ?_
  refine lv_istore_n (lv' := [(2, .int 0), (0, .ref (za G t0)), (1, .int v1)]) hx hb dX10_closeAfter_1 rfl hl (by decide) rfl (fun ls hl => ?_)
  refine lv_iload_n hx hb dX10_closeAfter_2 rfl (lv_at hl 2 rfl) ?_
  refine lv_istore_n (lv' := [(3, .int v1), (2, .int 0), (0, .ref (za G t0)), (1, .int v1)]) hx hb dX10_closeAfter_3 rfl hl (by decide) rfl (fun ls hl => ?_)
  refine w_X10_closeAfter_4 hG S hr hlk t0 k0 M (fun h H locs ls hw hl => ?_) zN 0 v1 h H locs ls hw (lv_sub hl [2, 1, 0] rfl)
  refine lv_aload_n hx hb dX10_closeAfter_57 rfl (lv_at hl 0 rfl) ?_
  refine z_getI S hw k0 fl_X10_15 rfl dX10_closeAfter_58 ?_
  have h := Option.some.inj h
  subst h
  exact z_ret_i S hr hlk hw dX10_closeAfter_61
def f_X9_number (t0 : Nat) (v1 : Int32) (v2 : Int32) (M : ZM) : Int64 :=
  zlet (f_X11_look_ (zr t0 0) ((v1 * 22) + v2) M) fun (q1 : Int64) =>
  q1
set_option maxHeartbeats 4000000 in
set_option maxRecDepth 100000 in
theorem c_X9_number (l : Launch) {G : ZG} (hG : zOk G) (t0 : Nat) (v1 : Int32) (v2 : Int32) (k0 : zk G t0 = 19) (M : ZM) (res : Int64) (h : f_X9_number t0 v1 v2 M = res) : zCt l yX9_number cX9_number 3 (Option.some FieldType.long) 1 G [.ref (za G t0), .int v1, .int v2] M (some (.long res)) M := by
  refine zCt.mk (by decide +kernel) (Nat.le_of_ble_eq_true rfl) ?_
  intro p e s m args below meth c A H locs ls S hr hlk hw hl
  have S : zX p (zR 1) s m args c 0 0 cX9_number 3 RX9 := S
  have hx := S.1.1
  have hb := S.1.2.1
  have hown := S.1.2.2.2.1
  have hts := S.1.2.2.2.2
  have hl : lv_has ls 3 [(0, .ref (za G t0)), (1, .int v1), (2, .int v2)] := hl
  unfold f_X9_number at h
  refine lv_aload_n hx hb dX9_number_0 rfl (lv_at hl 0 rfl) ?_
  refine z_getR S hw k0 fl_X9_11 rfl dX9_number_1 ?_
  refine lv_iload_n hx hb dX9_number_4 rfl (lv_at hl 1 rfl) ?_
  refine lv_bipush (v := 22) hx hb dX9_number_5 (by decide) ?_
  refine lv_imul hx hb dX9_number_7 ?_
  refine lv_iload_n hx hb dX9_number_8 rfl (lv_at hl 2 rfl) ?_
  refine lv_iadd hx hb dX9_number_9 ?_
  obtain ⟨q1, eq1, h⟩ := zlet_ex h
  refine z_callS (As := [.ref (za G (zr t0 0)), .int ((v1 * 22) + v2)]) (rest := []) (rv := (some (.long q1))) (M1 := M) S hw (c_X11_look_ l hG (zr t0 0) ((v1 * 22) + v2) (kr_9_0 hG k0) M q1 eq1.symm) mv_X11_look_ lk_X9_18 rfl rfl (Nat.le_of_ble_eq_true rfl) ⟨Nat.le_of_ble_eq_true rfl, Nat.le_of_ble_eq_true rfl⟩ hl.1 dX9_number_10 (fun H locs hw => ?_)
  subst h
  exact z_ret_l S hr hlk hw dX9_number_13
def f_X9_fronted (t0 : Nat) (v1 : Int32) (v2 : Int32) (v3 : Int32) (v4 : Int32) (M : ZM) : Int64 :=
  if v1 = 0 then (
    if v3 = (v2 + 1) then (
      (1 : Int64)) else (
      (0 : Int64))) else (
    if v1 = 1 then (
      zlet (f_X9_number t0 (v2 + 1) v3 M) fun (q6 : Int64) =>
      q6) else (
      if v1 = 2 then (
        if v4 = (v3 - 1) then (
          zlet (f_X9_number t0 (v2 + 1) v4 M) fun (q5 : Int64) =>
          q5) else (
          (0 : Int64))) else (
        (0 : Int64))))
set_option maxHeartbeats 4000000 in
set_option maxRecDepth 100000 in
theorem c_X9_fronted (l : Launch) {G : ZG} (hG : zOk G) (t0 : Nat) (v1 : Int32) (v2 : Int32) (v3 : Int32) (v4 : Int32) (k0 : zk G t0 = 19) (M : ZM) (res : Int64) (h : f_X9_fronted t0 v1 v2 v3 v4 M = res) : zCt l yX9_fronted cX9_fronted 5 (Option.some FieldType.long) 2 G [.ref (za G t0), .int v1, .int v2, .int v3, .int v4] M (some (.long res)) M := by
  refine zCt.mk (by decide +kernel) (Nat.le_of_ble_eq_true rfl) ?_
  intro p e s m args below meth c A H locs ls S hr hlk hw hl
  have S : zX p (zR 2) s m args c 0 0 cX9_fronted 5 RX9 := S
  have hx := S.1.1
  have hb := S.1.2.1
  have hown := S.1.2.2.2.1
  have hts := S.1.2.2.2.2
  have hl : lv_has ls 5 [(0, .ref (za G t0)), (1, .int v1), (2, .int v2), (3, .int v3), (4, .int v4)] := hl
  unfold f_X9_fronted at h
  refine lv_iload_n hx hb dX9_fronted_0 rfl (lv_at hl 1 rfl) ?_
  refine lv_if_ne (tgt := 17) hx hb dX9_fronted_1 (by decide) (fun c1 => ?_) (fun c1 => ?_)
  · have h := zif_f h c1
    refine lv_iload_n hx hb dX9_fronted_17 rfl (lv_at hl 1 rfl) ?_
    refine lv_iconst (v := 1) hx hb dX9_fronted_18 (by decide) ?_
    refine lv_icmp_ne (tgt := 31) hx hb dX9_fronted_19 (by decide) (fun c2 => ?_) (fun c2 => ?_)
    · have h := zif_f h c2
      refine lv_iload_n hx hb dX9_fronted_31 rfl (lv_at hl 1 rfl) ?_
      refine lv_iconst (v := 2) hx hb dX9_fronted_32 (by decide) ?_
      refine lv_icmp_ne (tgt := 56) hx hb dX9_fronted_33 (by decide) (fun c3 => ?_) (fun c3 => ?_)
      · have h := zif_f h c3
        refine lv_lconst (v := 0) hx hb dX9_fronted_56 (by decide) ?_
        subst h
        exact z_ret_l S hr hlk hw dX9_fronted_57
      · have h := zif_t h c3
        refine lv_iload hx hb dX9_fronted_36 (lv_at hl 4 rfl) ?_
        refine lv_iload_n hx hb dX9_fronted_38 rfl (lv_at hl 3 rfl) ?_
        refine lv_iconst (v := 1) hx hb dX9_fronted_39 (by decide) ?_
        refine lv_isub hx hb dX9_fronted_40 ?_
        refine lv_icmp_ne (tgt := 56) hx hb dX9_fronted_41 (by decide) (fun c4 => ?_) (fun c4 => ?_)
        · have h := zif_f h c4
          refine lv_lconst (v := 0) hx hb dX9_fronted_56 (by decide) ?_
          subst h
          exact z_ret_l S hr hlk hw dX9_fronted_57
        · have h := zif_t h c4
          refine lv_aload_n hx hb dX9_fronted_44 rfl (lv_at hl 0 rfl) ?_
          refine lv_iload_n hx hb dX9_fronted_45 rfl (lv_at hl 2 rfl) ?_
          refine lv_iconst (v := 1) hx hb dX9_fronted_46 (by decide) ?_
          refine lv_iadd hx hb dX9_fronted_47 ?_
          refine lv_iload hx hb dX9_fronted_48 (lv_at hl 4 rfl) ?_
          obtain ⟨q5, eq5, h⟩ := zlet_ex h
          refine z_callV (ci := 9) (As := [.int (v2 + 1), .int v4]) (rest := []) (rv := (some (.long q5))) (M1 := M) S hw (c_X9_number l hG t0 (v2 + 1) v4 k0 M q5 eq5.symm) mv_X9_number lk_X9_50 k0 ⟨_, _, rfl⟩ (by decide) rfl rfl (Nat.le_of_ble_eq_true rfl) ⟨Nat.le_of_ble_eq_true rfl, Nat.le_of_ble_eq_true rfl⟩ hl.1 dX9_fronted_50 (fun H locs hw => ?_)
          refine lv_goto (tgt := 57) hx hb dX9_fronted_53 (by decide) ?_
          subst h
          exact z_ret_l S hr hlk hw dX9_fronted_57
    · have h := zif_t h c2
      refine lv_aload_n hx hb dX9_fronted_22 rfl (lv_at hl 0 rfl) ?_
      refine lv_iload_n hx hb dX9_fronted_23 rfl (lv_at hl 2 rfl) ?_
      refine lv_iconst (v := 1) hx hb dX9_fronted_24 (by decide) ?_
      refine lv_iadd hx hb dX9_fronted_25 ?_
      refine lv_iload_n hx hb dX9_fronted_26 rfl (lv_at hl 3 rfl) ?_
      obtain ⟨q6, eq6, h⟩ := zlet_ex h
      refine z_callV (ci := 9) (As := [.int (v2 + 1), .int v3]) (rest := []) (rv := (some (.long q6))) (M1 := M) S hw (c_X9_number l hG t0 (v2 + 1) v3 k0 M q6 eq6.symm) mv_X9_number lk_X9_50 k0 ⟨_, _, rfl⟩ (by decide) rfl rfl (Nat.le_of_ble_eq_true rfl) ⟨Nat.le_of_ble_eq_true rfl, Nat.le_of_ble_eq_true rfl⟩ hl.1 dX9_fronted_27 (fun H locs hw => ?_)
      subst h
      exact z_ret_l S hr hlk hw dX9_fronted_30
  · have h := zif_t h c1
    refine lv_iload_n hx hb dX9_fronted_4 rfl (lv_at hl 3 rfl) ?_
    refine lv_iload_n hx hb dX9_fronted_5 rfl (lv_at hl 2 rfl) ?_
    refine lv_iconst (v := 1) hx hb dX9_fronted_6 (by decide) ?_
    refine lv_iadd hx hb dX9_fronted_7 ?_
    refine lv_icmp_ne (tgt := 15) hx hb dX9_fronted_8 (by decide) (fun c7 => ?_) (fun c7 => ?_)
    · have h := zif_f h c7
      refine lv_lconst (v := 0) hx hb dX9_fronted_15 (by decide) ?_
      subst h
      exact z_ret_l S hr hlk hw dX9_fronted_16
    · have h := zif_t h c7
      refine lv_lconst (v := 1) hx hb dX9_fronted_11 (by decide) ?_
      refine lv_goto (tgt := 16) hx hb dX9_fronted_12 (by decide) ?_
      subst h
      exact z_ret_l S hr hlk hw dX9_fronted_16
def f_X9_parted_8 (t0 : Nat) (t1 : Nat) (v2 : Int32) (v3 : Int32) (M : ZM) (K : Int64 → Option Int64) : Nat → Int64 → Int32 → Option Int64
  | 0, _, _ => none
  | n + 1, v4, v6 =>
    if (v3 - 1) ≤ v6 then (
      K v4) else (
      zlet (f_X10_at t1 v6 M) fun (q3 : Int32) =>
      zlet (f_X11_kindOf q3 M) fun (q4 : Int32) =>
      zlet (f_X11_isJoin q4 M) fun (q5 : Int32) =>
      if q5 = 0 then (
        zlet (v6 + 1) fun (x7 : Int32) =>
        f_X9_parted_8 t0 t1 v2 v3 M K n v4 x7) else (
        zlet (f_X9_number t0 v2 v6 M) fun (q8 : Int64) =>
        zlet (f_X9_number t0 (v6 + 1) v3 M) fun (q9 : Int64) =>
        zlet (v4 + (q8 * q9)) fun (x10 : Int64) =>
        zlet (v6 + 1) fun (x11 : Int32) =>
        f_X9_parted_8 t0 t1 v2 v3 M K n x10 x11))

def f_X9_parted (t0 : Nat) (t1 : Nat) (v2 : Int32) (v3 : Int32) (M : ZM) : Option Int64 :=
  zlet (v2 + 1) fun (x1 : Int32) =>
  f_X9_parted_8 t0 t1 v2 v3 M (fun (v4 : Int64) =>
    some v4) zN 0 x1
set_option maxHeartbeats 4000000 in
set_option maxRecDepth 100000 in
theorem w_X9_parted_8 {G : ZG} (hG : zOk G) (S : zX p (zR 2) s m args c 0 0 cX9_parted 7 RX9) (hr : meth.sig.returnType = (Option.some FieldType.long)) (hlk : meth.locks = false) (t0 : Nat) (t1 : Nat) (v2 : Int32) (v3 : Int32) (k0 : zk G t0 = 19) (k1 : zk G t1 = 20) (M : ZM) {K : Int64 → Option Int64} {res : Int64} (hK : ∀ (v4 : Int64), K v4 = some res → ∀ (H : Heap) (locs : List Loc) (ls : Array Slot), zWd G A s H locs M → lv_has ls 7 [(4, .long v4)] → W p l e (zR 2) s m args below meth c H locs 0 0 (zQ below G A (some (.long res)) M args s) (F0 m 59 ls [])) : ∀ (n : Nat) (v4 : Int64) (v6 : Int32), f_X9_parted_8 t0 t1 v2 v3 M K n v4 v6 = some res → ∀ (H : Heap) (locs : List Loc) (ls : Array Slot), zWd G A s H locs M → lv_has ls 7 [(0, .ref (za G t0)), (1, .ref (za G t1)), (2, .int v2), (3, .int v3), (4, .long v4), (6, .int v6)] → W p l e (zR 2) s m args below meth c H locs 0 0 (zQ below G A (some (.long res)) M args s) (F0 m 8 ls []) := by
  have hx := S.1.1
  have hb := S.1.2.1
  have hown := S.1.2.2.2.1
  have hts := S.1.2.2.2.2
  intro n
  induction n with
  | zero =>
    intro v4 v6 h
    rw [f_X9_parted_8] at h
    cases h
  | succ n ih =>
    intro v4 v6 h H locs ls hw hl
    rw [f_X9_parted_8] at h
    refine lv_iload hx hb dX9_parted_8 (lv_at hl 5 rfl) ?_
    refine lv_iload_n hx hb dX9_parted_10 rfl (lv_at hl 3 rfl) ?_
    refine lv_iconst (v := 1) hx hb dX9_parted_11 (by decide) ?_
    refine lv_isub hx hb dX9_parted_12 ?_
    refine lv_icmp_ge (tgt := 59) hx hb dX9_parted_13 (by decide) (fun c2 => ?_) (fun c2 => ?_)
    · have h := zif_t h c2
      exact hK v4 h H locs ls hw (lv_sub hl [4] rfl)
    · have h := zif_f h c2
      refine lv_aload_n hx hb dX9_parted_16 rfl (lv_at hl 1 rfl) ?_
      refine lv_iload hx hb dX9_parted_17 (lv_at hl 5 rfl) ?_
      obtain ⟨q3, eq3, h⟩ := zlet_ex h
      refine z_callV (ci := 10) (As := [.int v6]) (rest := []) (rv := (some (.int q3))) (M1 := M) S hw (c_X10_at l hG t1 v6 k1 M q3 eq3.symm) mv_X10_at lk_X9_32 k1 ⟨_, _, rfl⟩ (by decide) rfl rfl (Nat.le_of_ble_eq_true rfl) ⟨Nat.le_of_ble_eq_true rfl, Nat.le_of_ble_eq_true rfl⟩ hl.1 dX9_parted_19 (fun H locs hw => ?_)
      obtain ⟨q4, eq4, h⟩ := zlet_ex h
      refine z_callS (As := [.int q3]) (rest := []) (rv := (some (.int q4))) (M1 := M) S hw (c_X11_kindOf l hG q3 M q4 eq4.symm) mv_X11_kindOf lk_X9_35 rfl rfl (Nat.le_of_ble_eq_true rfl) ⟨Nat.le_of_ble_eq_true rfl, Nat.le_of_ble_eq_true rfl⟩ hl.1 dX9_parted_22 (fun H locs hw => ?_)
      obtain ⟨q5, eq5, h⟩ := zlet_ex h
      refine z_callS (As := [.int q4]) (rest := []) (rv := (some (.int q5))) (M1 := M) S hw (c_X11_isJoin l hG q4 M q5 eq5.symm) mv_X11_isJoin lk_X9_54 rfl rfl (Nat.le_of_ble_eq_true rfl) ⟨Nat.le_of_ble_eq_true rfl, Nat.le_of_ble_eq_true rfl⟩ hl.1 dX9_parted_25 (fun H locs hw => ?_)
      refine lv_if_eq (tgt := 53) hx hb dX9_parted_28 (by decide) (fun c6 => ?_) (fun c6 => ?_)
      · have h := zif_t h c6
        obtain ⟨x7, ex7, h⟩ := zlet_ex h
        refine lv_iinc (v := x7) (lv' := [(6, .int x7), (0, .ref (za G t0)), (1, .ref (za G t1)), (2, .int v2), (3, .int v3), (4, .long v4)]) hx hb dX9_parted_53 hl (k := 5) rfl (by rw [ex7]; rfl) (by decide) rfl (fun ls hl => ?_)
        refine lv_goto (tgt := 8) hx hb dX9_parted_56 (by decide) ?_
        exact ih v4 x7 h H locs ls hw (lv_sub hl [1, 2, 3, 4, 5, 0] rfl)
      · have h := zif_f h c6
        refine lv_lload hx hb dX9_parted_31 (lv_at hl 4 rfl) ?_
        refine lv_aload_n hx hb dX9_parted_33 rfl (lv_at hl 0 rfl) ?_
        refine lv_iload_n hx hb dX9_parted_34 rfl (lv_at hl 2 rfl) ?_
        refine lv_iload hx hb dX9_parted_35 (lv_at hl 5 rfl) ?_
        obtain ⟨q8, eq8, h⟩ := zlet_ex h
        refine z_callV (ci := 9) (As := [.int v2, .int v6]) (rest := [.long v4]) (rv := (some (.long q8))) (M1 := M) S hw (c_X9_number l hG t0 v2 v6 k0 M q8 eq8.symm) mv_X9_number lk_X9_50 k0 ⟨_, _, rfl⟩ (by decide) rfl rfl (Nat.le_of_ble_eq_true rfl) ⟨Nat.le_of_ble_eq_true rfl, Nat.le_of_ble_eq_true rfl⟩ hl.1 dX9_parted_37 (fun H locs hw => ?_)
        refine lv_aload_n hx hb dX9_parted_40 rfl (lv_at hl 0 rfl) ?_
        refine lv_iload hx hb dX9_parted_41 (lv_at hl 5 rfl) ?_
        refine lv_iconst (v := 1) hx hb dX9_parted_43 (by decide) ?_
        refine lv_iadd hx hb dX9_parted_44 ?_
        refine lv_iload_n hx hb dX9_parted_45 rfl (lv_at hl 3 rfl) ?_
        obtain ⟨q9, eq9, h⟩ := zlet_ex h
        refine z_callV (ci := 9) (As := [.int (v6 + 1), .int v3]) (rest := [.long q8, .long v4]) (rv := (some (.long q9))) (M1 := M) S hw (c_X9_number l hG t0 (v6 + 1) v3 k0 M q9 eq9.symm) mv_X9_number lk_X9_50 k0 ⟨_, _, rfl⟩ (by decide) rfl rfl (Nat.le_of_ble_eq_true rfl) ⟨Nat.le_of_ble_eq_true rfl, Nat.le_of_ble_eq_true rfl⟩ hl.1 dX9_parted_46 (fun H locs hw => ?_)
        refine lv_lmul hx hb dX9_parted_49 ?_
        refine lv_ladd hx hb dX9_parted_50 ?_
        obtain ⟨x10, ex10, h⟩ := zlet_ex h
        refine lv_toplE ex10 ?_
        refine lv_lstore (lv' := [(4, .long x10), (0, .ref (za G t0)), (1, .ref (za G t1)), (2, .int v2), (3, .int v3), (6, .int v6)]) hx hb dX9_parted_51 hl (by decide) rfl (fun ls hl => ?_)
        obtain ⟨x11, ex11, h⟩ := zlet_ex h
        refine lv_iinc (v := x11) (lv' := [(6, .int x11), (4, .long x10), (0, .ref (za G t0)), (1, .ref (za G t1)), (2, .int v2), (3, .int v3)]) hx hb dX9_parted_53 hl (k := 5) rfl (by rw [ex11]; rfl) (by decide) rfl (fun ls hl => ?_)
        refine lv_goto (tgt := 8) hx hb dX9_parted_56 (by decide) ?_
        exact ih x10 x11 h H locs ls hw (lv_sub hl [2, 3, 4, 5, 1, 0] rfl)
set_option maxHeartbeats 4000000 in
set_option maxRecDepth 100000 in
theorem c_X9_parted (l : Launch) {G : ZG} (hG : zOk G) (t0 : Nat) (t1 : Nat) (v2 : Int32) (v3 : Int32) (k0 : zk G t0 = 19) (k1 : zk G t1 = 20) (M : ZM) (res : Int64) (h : f_X9_parted t0 t1 v2 v3 M = some res) : zCt l yX9_parted cX9_parted 7 (Option.some FieldType.long) 2 G [.ref (za G t0), .ref (za G t1), .int v2, .int v3] M (some (.long res)) M := by
  refine zCt.mk (by decide +kernel) (Nat.le_of_ble_eq_true rfl) ?_
  intro p e s m args below meth c A H locs ls S hr hlk hw hl
  have S : zX p (zR 2) s m args c 0 0 cX9_parted 7 RX9 := S
  have hx := S.1.1
  have hb := S.1.2.1
  have hown := S.1.2.2.2.1
  have hts := S.1.2.2.2.2
  have hl : lv_has ls 7 [(0, .ref (za G t0)), (1, .ref (za G t1)), (2, .int v2), (3, .int v3)] := hl
  unfold f_X9_parted at h
  refine lv_lconst (v := 0) hx hb dX9_parted_0 (by decide) ?_
  refine lv_lstore (lv' := [(4, .long 0), (0, .ref (za G t0)), (1, .ref (za G t1)), (2, .int v2), (3, .int v3)]) hx hb dX9_parted_1 hl (by decide) rfl (fun ls hl => ?_)
  refine lv_iload_n hx hb dX9_parted_3 rfl (lv_at hl 3 rfl) ?_
  refine lv_iconst (v := 1) hx hb dX9_parted_4 (by decide) ?_
  refine lv_iadd hx hb dX9_parted_5 ?_
  obtain ⟨x1, ex1, h⟩ := zlet_ex h
  refine lv_topiE ex1 ?_
  refine lv_istore (lv' := [(6, .int x1), (4, .long 0), (0, .ref (za G t0)), (1, .ref (za G t1)), (2, .int v2), (3, .int v3)]) hx hb dX9_parted_6 hl (by decide) rfl (fun ls hl => ?_)
  refine w_X9_parted_8 hG S hr hlk t0 t1 v2 v3 k0 k1 M (fun v4 h H locs ls hw hl => ?_) zN 0 x1 h H locs ls hw (lv_sub hl [2, 3, 4, 5, 1, 0] rfl)
  refine lv_lload hx hb dX9_parted_59 (lv_at hl 0 rfl) ?_
  have h := Option.some.inj h
  subst h
  exact z_ret_l S hr hlk hw dX9_parted_61
end Z
end
