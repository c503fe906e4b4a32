-- ===== PART A: goes FIRST, ahead of the names: the tables' words, and 'selects' of the private methods out of them =====
/-- a private method of a class that the tables say can be made, by its rows of tables_1 -/
def lw_okq (q : MethodName × Nat) : Prop := (q.1.cls ≠ "java/lang/invoke/MethodHandle" ∧ q.1.cls ≠ "java/lang/invoke/VarHandle") ∧ Cond.instantiable q.1.cls q.2 ∈ tables_1 ∧ Cond.privateMethod q.1 ∈ tables_1 ∧ Cond.instanceMethod q.1 ∈ tables_1
theorem lw_p0 : lw_okq (⟨"KnitStreets$Texts", "push", "(I)V"⟩, 6) := ⟨⟨by decide +kernel, by decide +kernel⟩, List.mem_of_getElem? (i := 27) (by decide +kernel), List.mem_of_getElem? (i := 335) (by decide +kernel), List.mem_of_getElem? (i := 336) (by decide +kernel)⟩
theorem lw_p1 : lw_okq (⟨"KnitStreets$Texts", "pop", "()I"⟩, 6) := ⟨⟨by decide +kernel, by decide +kernel⟩, List.mem_of_getElem? (i := 27) (by decide +kernel), List.mem_of_getElem? (i := 345) (by decide +kernel), List.mem_of_getElem? (i := 346) (by decide +kernel)⟩
theorem lw_p2 : lw_okq (⟨"KnitStreets", "isLoop", "(II)Z"⟩, 12) := ⟨⟨by decide +kernel, by decide +kernel⟩, List.mem_of_getElem? (i := 19) (by decide +kernel), List.mem_of_getElem? (i := 397) (by decide +kernel), List.mem_of_getElem? (i := 398) (by decide +kernel)⟩
theorem lw_p3 : lw_okq (⟨"KnitStreets$Town", "draw", "()I"⟩, 14) := ⟨⟨by decide +kernel, by decide +kernel⟩, List.mem_of_getElem? (i := 57) (by decide +kernel), List.mem_of_getElem? (i := 432) (by decide +kernel), List.mem_of_getElem? (i := 433) (by decide +kernel)⟩
theorem lw_p4 : lw_okq (⟨"KnitStreets$Town", "walkSomewhere", "()V"⟩, 14) := ⟨⟨by decide +kernel, by decide +kernel⟩, List.mem_of_getElem? (i := 57) (by decide +kernel), List.mem_of_getElem? (i := 450) (by decide +kernel), List.mem_of_getElem? (i := 451) (by decide +kernel)⟩
theorem lw_p5 : lw_okq (⟨"KnitStreets$Town", "lose", "(II)V"⟩, 14) := ⟨⟨by decide +kernel, by decide +kernel⟩, List.mem_of_getElem? (i := 57) (by decide +kernel), List.mem_of_getElem? (i := 457) (by decide +kernel), List.mem_of_getElem? (i := 458) (by decide +kernel)⟩
theorem lw_p6 : lw_okq (⟨"KnitStreets$Town", "mendFirst", "()V"⟩, 14) := ⟨⟨by decide +kernel, by decide +kernel⟩, List.mem_of_getElem? (i := 57) (by decide +kernel), List.mem_of_getElem? (i := 461) (by decide +kernel), List.mem_of_getElem? (i := 462) (by decide +kernel)⟩
theorem lw_p7 : lw_okq (⟨"KnitStreets$Ways", "begin", "(LKnitStreets$Town;II)I"⟩, 3) := ⟨⟨by decide +kernel, by decide +kernel⟩, List.mem_of_getElem? (i := 126) (by decide +kernel), List.mem_of_getElem? (i := 481) (by decide +kernel), List.mem_of_getElem? (i := 482) (by decide +kernel)⟩
theorem lw_p8 : lw_okq (⟨"KnitStreets$Ways", "step", "(LKnitStreets$Town;)I"⟩, 3) := ⟨⟨by decide +kernel, by decide +kernel⟩, List.mem_of_getElem? (i := 126) (by decide +kernel), List.mem_of_getElem? (i := 487) (by decide +kernel), List.mem_of_getElem? (i := 488) (by decide +kernel)⟩
theorem lw_p9 : lw_okq (⟨"KnitStreets$Ways", "near", "(LKnitStreets$Town;I)I"⟩, 3) := ⟨⟨by decide +kernel, by decide +kernel⟩, List.mem_of_getElem? (i := 126) (by decide +kernel), List.mem_of_getElem? (i := 491) (by decide +kernel), List.mem_of_getElem? (i := 492) (by decide +kernel)⟩
theorem lw_p10 : lw_okq (⟨"KnitStreets", "isSheet", "(I)Z"⟩, 12) := ⟨⟨by decide +kernel, by decide +kernel⟩, List.mem_of_getElem? (i := 19) (by decide +kernel), List.mem_of_getElem? (i := 567) (by decide +kernel), List.mem_of_getElem? (i := 568) (by decide +kernel)⟩
theorem lw_p11 : lw_okq (⟨"KnitStreets", "difference", "(ILKnitStreets$Sheet;)I"⟩, 12) := ⟨⟨by decide +kernel, by decide +kernel⟩, List.mem_of_getElem? (i := 19) (by decide +kernel), List.mem_of_getElem? (i := 576) (by decide +kernel), List.mem_of_getElem? (i := 577) (by decide +kernel)⟩
theorem lw_p12 : lw_okq (⟨"KnitStreets$Reader", "moveOn", "()V"⟩, 8) := ⟨⟨by decide +kernel, by decide +kernel⟩, List.mem_of_getElem? (i := 158) (by decide +kernel), List.mem_of_getElem? (i := 621) (by decide +kernel), List.mem_of_getElem? (i := 622) (by decide +kernel)⟩
theorem lw_p13 : lw_okq (⟨"KnitStreets$Reader", "byteAt", "(I)I"⟩, 8) := ⟨⟨by decide +kernel, by decide +kernel⟩, List.mem_of_getElem? (i := 158) (by decide +kernel), List.mem_of_getElem? (i := 625) (by decide +kernel), List.mem_of_getElem? (i := 626) (by decide +kernel)⟩
theorem lw_p14 : lw_okq (⟨"KnitStreets$Reader", "keyHere", "()I"⟩, 8) := ⟨⟨by decide +kernel, by decide +kernel⟩, List.mem_of_getElem? (i := 158) (by decide +kernel), List.mem_of_getElem? (i := 632) (by decide +kernel), List.mem_of_getElem? (i := 633) (by decide +kernel)⟩
theorem lw_p15 : lw_okq (⟨"KnitStreets$Reader", "isWord", "(Ljava/lang/String;)Z"⟩, 8) := ⟨⟨by decide +kernel, by decide +kernel⟩, List.mem_of_getElem? (i := 158) (by decide +kernel), List.mem_of_getElem? (i := 637) (by decide +kernel), List.mem_of_getElem? (i := 638) (by decide +kernel)⟩
def lw_privs_1 : List (MethodName × Nat) := [(⟨"KnitStreets$Texts", "push", "(I)V"⟩, 6), (⟨"KnitStreets$Texts", "pop", "()I"⟩, 6), (⟨"KnitStreets", "isLoop", "(II)Z"⟩, 12), (⟨"KnitStreets$Town", "draw", "()I"⟩, 14), (⟨"KnitStreets$Town", "walkSomewhere", "()V"⟩, 14), (⟨"KnitStreets$Town", "lose", "(II)V"⟩, 14), (⟨"KnitStreets$Town", "mendFirst", "()V"⟩, 14), (⟨"KnitStreets$Ways", "begin", "(LKnitStreets$Town;II)I"⟩, 3), (⟨"KnitStreets$Ways", "step", "(LKnitStreets$Town;)I"⟩, 3), (⟨"KnitStreets$Ways", "near", "(LKnitStreets$Town;I)I"⟩, 3), (⟨"KnitStreets", "isSheet", "(I)Z"⟩, 12), (⟨"KnitStreets", "difference", "(ILKnitStreets$Sheet;)I"⟩, 12), (⟨"KnitStreets$Reader", "moveOn", "()V"⟩, 8), (⟨"KnitStreets$Reader", "byteAt", "(I)I"⟩, 8), (⟨"KnitStreets$Reader", "keyHere", "()I"⟩, 8), (⟨"KnitStreets$Reader", "isWord", "(Ljava/lang/String;)Z"⟩, 8)]
theorem lw_r1 : ∀ q ∈ lw_privs_1, lw_okq q := List.forall_mem_cons.mpr ⟨lw_p0, List.forall_mem_cons.mpr ⟨lw_p1, List.forall_mem_cons.mpr ⟨lw_p2, List.forall_mem_cons.mpr ⟨lw_p3, List.forall_mem_cons.mpr ⟨lw_p4, List.forall_mem_cons.mpr ⟨lw_p5, List.forall_mem_cons.mpr ⟨lw_p6, List.forall_mem_cons.mpr ⟨lw_p7, List.forall_mem_cons.mpr ⟨lw_p8, List.forall_mem_cons.mpr ⟨lw_p9, List.forall_mem_cons.mpr ⟨lw_p10, List.forall_mem_cons.mpr ⟨lw_p11, List.forall_mem_cons.mpr ⟨lw_p12, List.forall_mem_cons.mpr ⟨lw_p13, List.forall_mem_cons.mpr ⟨lw_p14, List.forall_mem_cons.mpr ⟨lw_p15, fun _ h => absurd h List.not_mem_nil⟩⟩⟩⟩⟩⟩⟩⟩⟩⟩⟩⟩⟩⟩⟩⟩
theorem lw_p16 : lw_okq (⟨"KnitStreets$Reader", "level", "(III)Z"⟩, 8) := ⟨⟨by decide +kernel, by decide +kernel⟩, List.mem_of_getElem? (i := 158) (by decide +kernel), List.mem_of_getElem? (i := 691) (by decide +kernel), List.mem_of_getElem? (i := 692) (by decide +kernel)⟩
theorem lw_p17 : lw_okq (⟨"KnitStreets$Reader", "piece", "(II)Z"⟩, 8) := ⟨⟨by decide +kernel, by decide +kernel⟩, List.mem_of_getElem? (i := 158) (by decide +kernel), List.mem_of_getElem? (i := 695) (by decide +kernel), List.mem_of_getElem? (i := 696) (by decide +kernel)⟩
theorem lw_p18 : lw_okq (⟨"KnitStreets$Reader", "number", "()Z"⟩, 8) := ⟨⟨by decide +kernel, by decide +kernel⟩, List.mem_of_getElem? (i := 158) (by decide +kernel), List.mem_of_getElem? (i := 699) (by decide +kernel), List.mem_of_getElem? (i := 700) (by decide +kernel)⟩
theorem lw_p19 : lw_okq (⟨"KnitStreets$Reader", "leaf", "(I)Z"⟩, 8) := ⟨⟨by decide +kernel, by decide +kernel⟩, List.mem_of_getElem? (i := 158) (by decide +kernel), List.mem_of_getElem? (i := 703) (by decide +kernel), List.mem_of_getElem? (i := 704) (by decide +kernel)⟩
theorem lw_p20 : lw_okq (⟨"KnitStreets$Reader", "write", "(I)V"⟩, 8) := ⟨⟨by decide +kernel, by decide +kernel⟩, List.mem_of_getElem? (i := 158) (by decide +kernel), List.mem_of_getElem? (i := 707) (by decide +kernel), List.mem_of_getElem? (i := 708) (by decide +kernel)⟩
theorem lw_p21 : lw_okq (⟨"KnitStreets$Reader", "name", "()Z"⟩, 8) := ⟨⟨by decide +kernel, by decide +kernel⟩, List.mem_of_getElem? (i := 158) (by decide +kernel), List.mem_of_getElem? (i := 711) (by decide +kernel), List.mem_of_getElem? (i := 712) (by decide +kernel)⟩
theorem lw_p22 : lw_okq (⟨"KnitStreets$Reader", "isSign", "(I)Z"⟩, 8) := ⟨⟨by decide +kernel, by decide +kernel⟩, List.mem_of_getElem? (i := 158) (by decide +kernel), List.mem_of_getElem? (i := 718) (by decide +kernel), List.mem_of_getElem? (i := 719) (by decide +kernel)⟩
theorem lw_p23 : lw_okq (⟨"KnitStreets", "isSlot", "(I)Z"⟩, 12) := ⟨⟨by decide +kernel, by decide +kernel⟩, List.mem_of_getElem? (i := 19) (by decide +kernel), List.mem_of_getElem? (i := 782) (by decide +kernel), List.mem_of_getElem? (i := 783) (by decide +kernel)⟩
theorem lw_p24 : lw_okq (⟨"KnitStreets", "isWaiting", "(III)Z"⟩, 12) := ⟨⟨by decide +kernel, by decide +kernel⟩, List.mem_of_getElem? (i := 19) (by decide +kernel), List.mem_of_getElem? (i := 823) (by decide +kernel), List.mem_of_getElem? (i := 824) (by decide +kernel)⟩
theorem lw_p25 : lw_okq (⟨"KnitStreetsModel", "comes", "(III)V"⟩, 33) := ⟨⟨by decide +kernel, by decide +kernel⟩, List.mem_of_getElem? (i := 839) (by decide +kernel), List.mem_of_getElem? (i := 956) (by decide +kernel), List.mem_of_getElem? (i := 957) (by decide +kernel)⟩
theorem lw_p26 : lw_okq (⟨"KnitStreetsModel", "sets", "(III)V"⟩, 33) := ⟨⟨by decide +kernel, by decide +kernel⟩, List.mem_of_getElem? (i := 839) (by decide +kernel), List.mem_of_getElem? (i := 960) (by decide +kernel), List.mem_of_getElem? (i := 961) (by decide +kernel)⟩
theorem lw_p27 : lw_okq (⟨"KnitStreetsModel", "isCourse", "(I)Z"⟩, 33) := ⟨⟨by decide +kernel, by decide +kernel⟩, List.mem_of_getElem? (i := 839) (by decide +kernel), List.mem_of_getElem? (i := 968) (by decide +kernel), List.mem_of_getElem? (i := 969) (by decide +kernel)⟩
theorem lw_p28 : lw_okq (⟨"KnitStreetsModel", "holding", "(I)I"⟩, 33) := ⟨⟨by decide +kernel, by decide +kernel⟩, List.mem_of_getElem? (i := 839) (by decide +kernel), List.mem_of_getElem? (i := 973) (by decide +kernel), List.mem_of_getElem? (i := 974) (by decide +kernel)⟩
theorem lw_p29 : lw_okq (⟨"KnitStreetsModel", "holds", "()I"⟩, 33) := ⟨⟨by decide +kernel, by decide +kernel⟩, List.mem_of_getElem? (i := 839) (by decide +kernel), List.mem_of_getElem? (i := 977) (by decide +kernel), List.mem_of_getElem? (i := 978) (by decide +kernel)⟩
theorem lw_p30 : lw_okq (⟨"KnitStreetsModel", "of", "(II)I"⟩, 33) := ⟨⟨by decide +kernel, by decide +kernel⟩, List.mem_of_getElem? (i := 839) (by decide +kernel), List.mem_of_getElem? (i := 981) (by decide +kernel), List.mem_of_getElem? (i := 982) (by decide +kernel)⟩
theorem lw_p31 : lw_okq (⟨"KnitStreetsModel", "hangs", "(II)I"⟩, 33) := ⟨⟨by decide +kernel, by decide +kernel⟩, List.mem_of_getElem? (i := 839) (by decide +kernel), List.mem_of_getElem? (i := 988) (by decide +kernel), List.mem_of_getElem? (i := 989) (by decide +kernel)⟩
def lw_privs_2 : List (MethodName × Nat) := [(⟨"KnitStreets$Reader", "level", "(III)Z"⟩, 8), (⟨"KnitStreets$Reader", "piece", "(II)Z"⟩, 8), (⟨"KnitStreets$Reader", "number", "()Z"⟩, 8), (⟨"KnitStreets$Reader", "leaf", "(I)Z"⟩, 8), (⟨"KnitStreets$Reader", "write", "(I)V"⟩, 8), (⟨"KnitStreets$Reader", "name", "()Z"⟩, 8), (⟨"KnitStreets$Reader", "isSign", "(I)Z"⟩, 8), (⟨"KnitStreets", "isSlot", "(I)Z"⟩, 12), (⟨"KnitStreets", "isWaiting", "(III)Z"⟩, 12), (⟨"KnitStreetsModel", "comes", "(III)V"⟩, 33), (⟨"KnitStreetsModel", "sets", "(III)V"⟩, 33), (⟨"KnitStreetsModel", "isCourse", "(I)Z"⟩, 33), (⟨"KnitStreetsModel", "holding", "(I)I"⟩, 33), (⟨"KnitStreetsModel", "holds", "()I"⟩, 33), (⟨"KnitStreetsModel", "of", "(II)I"⟩, 33), (⟨"KnitStreetsModel", "hangs", "(II)I"⟩, 33)]
theorem lw_r2 : ∀ q ∈ lw_privs_2, lw_okq q := List.forall_mem_cons.mpr ⟨lw_p16, List.forall_mem_cons.mpr ⟨lw_p17, List.forall_mem_cons.mpr ⟨lw_p18, List.forall_mem_cons.mpr ⟨lw_p19, List.forall_mem_cons.mpr ⟨lw_p20, List.forall_mem_cons.mpr ⟨lw_p21, List.forall_mem_cons.mpr ⟨lw_p22, List.forall_mem_cons.mpr ⟨lw_p23, List.forall_mem_cons.mpr ⟨lw_p24, List.forall_mem_cons.mpr ⟨lw_p25, List.forall_mem_cons.mpr ⟨lw_p26, List.forall_mem_cons.mpr ⟨lw_p27, List.forall_mem_cons.mpr ⟨lw_p28, List.forall_mem_cons.mpr ⟨lw_p29, List.forall_mem_cons.mpr ⟨lw_p30, List.forall_mem_cons.mpr ⟨lw_p31, fun _ h => absurd h List.not_mem_nil⟩⟩⟩⟩⟩⟩⟩⟩⟩⟩⟩⟩⟩⟩⟩⟩
theorem lw_p32 : lw_okq (⟨"KnitStreetsModel", "wears", "(I)I"⟩, 33) := ⟨⟨by decide +kernel, by decide +kernel⟩, List.mem_of_getElem? (i := 839) (by decide +kernel), List.mem_of_getElem? (i := 992) (by decide +kernel), List.mem_of_getElem? (i := 993) (by decide +kernel)⟩
theorem lw_p33 : lw_okq (⟨"KnitStreetsModel", "plain", "(I)I"⟩, 33) := ⟨⟨by decide +kernel, by decide +kernel⟩, List.mem_of_getElem? (i := 839) (by decide +kernel), List.mem_of_getElem? (i := 996) (by decide +kernel), List.mem_of_getElem? (i := 997) (by decide +kernel)⟩
theorem lw_p34 : lw_okq (⟨"KnitStreetsModel", "counts", "(I)I"⟩, 33) := ⟨⟨by decide +kernel, by decide +kernel⟩, List.mem_of_getElem? (i := 839) (by decide +kernel), List.mem_of_getElem? (i := 1000) (by decide +kernel), List.mem_of_getElem? (i := 1001) (by decide +kernel)⟩
theorem lw_p35 : lw_okq (⟨"KnitStreetsModel", "textAt", "(I)I"⟩, 33) := ⟨⟨by decide +kernel, by decide +kernel⟩, List.mem_of_getElem? (i := 839) (by decide +kernel), List.mem_of_getElem? (i := 1004) (by decide +kernel), List.mem_of_getElem? (i := 1005) (by decide +kernel)⟩
theorem lw_p36 : lw_okq (⟨"KnitStreetsModel", "worked", "(I)I"⟩, 33) := ⟨⟨by decide +kernel, by decide +kernel⟩, List.mem_of_getElem? (i := 839) (by decide +kernel), List.mem_of_getElem? (i := 1008) (by decide +kernel), List.mem_of_getElem? (i := 1009) (by decide +kernel)⟩
theorem lw_p37 : lw_okq (⟨"KnitStreetsModel", "bears", "(I)I"⟩, 33) := ⟨⟨by decide +kernel, by decide +kernel⟩, List.mem_of_getElem? (i := 839) (by decide +kernel), List.mem_of_getElem? (i := 1018) (by decide +kernel), List.mem_of_getElem? (i := 1019) (by decide +kernel)⟩
theorem lw_p38 : lw_okq (⟨"KnitStreetsModel", "worth", "(I)I"⟩, 33) := ⟨⟨by decide +kernel, by decide +kernel⟩, List.mem_of_getElem? (i := 839) (by decide +kernel), List.mem_of_getElem? (i := 1022) (by decide +kernel), List.mem_of_getElem? (i := 1023) (by decide +kernel)⟩
theorem lw_p39 : lw_okq (⟨"KnitStreetsModel", "changes", "(II)I"⟩, 33) := ⟨⟨by decide +kernel, by decide +kernel⟩, List.mem_of_getElem? (i := 839) (by decide +kernel), List.mem_of_getElem? (i := 1038) (by decide +kernel), List.mem_of_getElem? (i := 1039) (by decide +kernel)⟩
theorem lw_p40 : lw_okq (⟨"KnitStreetsModel", "isLost", "(II)Z"⟩, 33) := ⟨⟨by decide +kernel, by decide +kernel⟩, List.mem_of_getElem? (i := 839) (by decide +kernel), List.mem_of_getElem? (i := 1058) (by decide +kernel), List.mem_of_getElem? (i := 1059) (by decide +kernel)⟩
theorem lw_p41 : lw_okq (⟨"KnitStreetsModel", "losesOrNot", "(II)V"⟩, 33) := ⟨⟨by decide +kernel, by decide +kernel⟩, List.mem_of_getElem? (i := 839) (by decide +kernel), List.mem_of_getElem? (i := 1063) (by decide +kernel), List.mem_of_getElem? (i := 1064) (by decide +kernel)⟩
theorem lw_p42 : lw_okq (⟨"KnitStreetsModel", "drawn", "()I"⟩, 33) := ⟨⟨by decide +kernel, by decide +kernel⟩, List.mem_of_getElem? (i := 839) (by decide +kernel), List.mem_of_getElem? (i := 1081) (by decide +kernel), List.mem_of_getElem? (i := 1082) (by decide +kernel)⟩
theorem lw_p43 : lw_okq (⟨"KnitStreetsModel", "goesOnMany", "(I)V"⟩, 33) := ⟨⟨by decide +kernel, by decide +kernel⟩, List.mem_of_getElem? (i := 839) (by decide +kernel), List.mem_of_getElem? (i := 1094) (by decide +kernel), List.mem_of_getElem? (i := 1095) (by decide +kernel)⟩
theorem lw_p44 : lw_okq (⟨"KnitStreetsModel", "goesOn", "()V"⟩, 33) := ⟨⟨by decide +kernel, by decide +kernel⟩, List.mem_of_getElem? (i := 839) (by decide +kernel), List.mem_of_getElem? (i := 1098) (by decide +kernel), List.mem_of_getElem? (i := 1099) (by decide +kernel)⟩
theorem lw_p45 : lw_okq (⟨"KnitStreetsModel", "isWalked", "()V"⟩, 33) := ⟨⟨by decide +kernel, by decide +kernel⟩, List.mem_of_getElem? (i := 839) (by decide +kernel), List.mem_of_getElem? (i := 1102) (by decide +kernel), List.mem_of_getElem? (i := 1103) (by decide +kernel)⟩
theorem lw_p46 : lw_okq (⟨"KnitStreetsModel", "loses", "(II)V"⟩, 33) := ⟨⟨by decide +kernel, by decide +kernel⟩, List.mem_of_getElem? (i := 839) (by decide +kernel), List.mem_of_getElem? (i := 1106) (by decide +kernel), List.mem_of_getElem? (i := 1107) (by decide +kernel)⟩
theorem lw_p47 : lw_okq (⟨"KnitStreetsModel", "mends", "()V"⟩, 33) := ⟨⟨by decide +kernel, by decide +kernel⟩, List.mem_of_getElem? (i := 839) (by decide +kernel), List.mem_of_getElem? (i := 1110) (by decide +kernel), List.mem_of_getElem? (i := 1111) (by decide +kernel)⟩
def lw_privs_3 : List (MethodName × Nat) := [(⟨"KnitStreetsModel", "wears", "(I)I"⟩, 33), (⟨"KnitStreetsModel", "plain", "(I)I"⟩, 33), (⟨"KnitStreetsModel", "counts", "(I)I"⟩, 33), (⟨"KnitStreetsModel", "textAt", "(I)I"⟩, 33), (⟨"KnitStreetsModel", "worked", "(I)I"⟩, 33), (⟨"KnitStreetsModel", "bears", "(I)I"⟩, 33), (⟨"KnitStreetsModel", "worth", "(I)I"⟩, 33), (⟨"KnitStreetsModel", "changes", "(II)I"⟩, 33), (⟨"KnitStreetsModel", "isLost", "(II)Z"⟩, 33), (⟨"KnitStreetsModel", "losesOrNot", "(II)V"⟩, 33), (⟨"KnitStreetsModel", "drawn", "()I"⟩, 33), (⟨"KnitStreetsModel", "goesOnMany", "(I)V"⟩, 33), (⟨"KnitStreetsModel", "goesOn", "()V"⟩, 33), (⟨"KnitStreetsModel", "isWalked", "()V"⟩, 33), (⟨"KnitStreetsModel", "loses", "(II)V"⟩, 33), (⟨"KnitStreetsModel", "mends", "()V"⟩, 33)]
theorem lw_r3 : ∀ q ∈ lw_privs_3, lw_okq q := List.forall_mem_cons.mpr ⟨lw_p32, List.forall_mem_cons.mpr ⟨lw_p33, List.forall_mem_cons.mpr ⟨lw_p34, List.forall_mem_cons.mpr ⟨lw_p35, List.forall_mem_cons.mpr ⟨lw_p36, List.forall_mem_cons.mpr ⟨lw_p37, List.forall_mem_cons.mpr ⟨lw_p38, List.forall_mem_cons.mpr ⟨lw_p39, List.forall_mem_cons.mpr ⟨lw_p40, List.forall_mem_cons.mpr ⟨lw_p41, List.forall_mem_cons.mpr ⟨lw_p42, List.forall_mem_cons.mpr ⟨lw_p43, List.forall_mem_cons.mpr ⟨lw_p44, List.forall_mem_cons.mpr ⟨lw_p45, List.forall_mem_cons.mpr ⟨lw_p46, List.forall_mem_cons.mpr ⟨lw_p47, fun _ h => absurd h List.not_mem_nil⟩⟩⟩⟩⟩⟩⟩⟩⟩⟩⟩⟩⟩⟩⟩⟩
theorem lw_p48 : lw_okq (⟨"KnitStreetsModel", "lostOfAll", "()I"⟩, 33) := ⟨⟨by decide +kernel, by decide +kernel⟩, List.mem_of_getElem? (i := 839) (by decide +kernel), List.mem_of_getElem? (i := 1119) (by decide +kernel), List.mem_of_getElem? (i := 1120) (by decide +kernel)⟩
theorem lw_p49 : lw_okq (⟨"KnitStreetsModel", "findsWays", "(II)I"⟩, 33) := ⟨⟨by decide +kernel, by decide +kernel⟩, List.mem_of_getElem? (i := 839) (by decide +kernel), List.mem_of_getElem? (i := 1130) (by decide +kernel), List.mem_of_getElem? (i := 1131) (by decide +kernel)⟩
theorem lw_p50 : lw_okq (⟨"KnitStreetsModel", "comesTo", "(III)Z"⟩, 33) := ⟨⟨by decide +kernel, by decide +kernel⟩, List.mem_of_getElem? (i := 839) (by decide +kernel), List.mem_of_getElem? (i := 1134) (by decide +kernel), List.mem_of_getElem? (i := 1135) (by decide +kernel)⟩
theorem lw_p51 : lw_okq (⟨"KnitStreetsModel", "isHeld", "(II)Z"⟩, 33) := ⟨⟨by decide +kernel, by decide +kernel⟩, List.mem_of_getElem? (i := 839) (by decide +kernel), List.mem_of_getElem? (i := 1138) (by decide +kernel), List.mem_of_getElem? (i := 1139) (by decide +kernel)⟩
theorem lw_p52 : lw_okq (⟨"KnitStreetsModel", "stepsFrom", "(III)Z"⟩, 33) := ⟨⟨by decide +kernel, by decide +kernel⟩, List.mem_of_getElem? (i := 839) (by decide +kernel), List.mem_of_getElem? (i := 1142) (by decide +kernel), List.mem_of_getElem? (i := 1143) (by decide +kernel)⟩
theorem lw_p53 : lw_okq (⟨"KnitStreetsModel", "pulledWith", "(II)I"⟩, 33) := ⟨⟨by decide +kernel, by decide +kernel⟩, List.mem_of_getElem? (i := 839) (by decide +kernel), List.mem_of_getElem? (i := 1158) (by decide +kernel), List.mem_of_getElem? (i := 1159) (by decide +kernel)⟩
theorem lw_p54 : lw_okq (⟨"KnitStreetsModel", "laysBy", "()V"⟩, 33) := ⟨⟨by decide +kernel, by decide +kernel⟩, List.mem_of_getElem? (i := 839) (by decide +kernel), List.mem_of_getElem? (i := 1174) (by decide +kernel), List.mem_of_getElem? (i := 1175) (by decide +kernel)⟩
theorem lw_p55 : lw_okq (⟨"KnitStreetsModel", "laysBack", "()V"⟩, 33) := ⟨⟨by decide +kernel, by decide +kernel⟩, List.mem_of_getElem? (i := 839) (by decide +kernel), List.mem_of_getElem? (i := 1178) (by decide +kernel), List.mem_of_getElem? (i := 1179) (by decide +kernel)⟩
theorem lw_p56 : lw_okq (⟨"KnitStreetsModel", "bestOf", "(IIIII)I"⟩, 33) := ⟨⟨by decide +kernel, by decide +kernel⟩, List.mem_of_getElem? (i := 839) (by decide +kernel), List.mem_of_getElem? (i := 1194) (by decide +kernel), List.mem_of_getElem? (i := 1195) (by decide +kernel)⟩
theorem lw_p57 : lw_okq (⟨"KnitStreetsModel", "parse", "()I"⟩, 33) := ⟨⟨by decide +kernel, by decide +kernel⟩, List.mem_of_getElem? (i := 839) (by decide +kernel), List.mem_of_getElem? (i := 1222) (by decide +kernel), List.mem_of_getElem? (i := 1223) (by decide +kernel)⟩
theorem lw_p58 : lw_okq (⟨"KnitStreetsModel", "nextToken", "()V"⟩, 33) := ⟨⟨by decide +kernel, by decide +kernel⟩, List.mem_of_getElem? (i := 839) (by decide +kernel), List.mem_of_getElem? (i := 1226) (by decide +kernel), List.mem_of_getElem? (i := 1227) (by decide +kernel)⟩
theorem lw_p59 : lw_okq (⟨"KnitStreetsModel", "isLetter", "(I)Z"⟩, 33) := ⟨⟨by decide +kernel, by decide +kernel⟩, List.mem_of_getElem? (i := 839) (by decide +kernel), List.mem_of_getElem? (i := 1230) (by decide +kernel), List.mem_of_getElem? (i := 1231) (by decide +kernel)⟩
theorem lw_p60 : lw_okq (⟨"KnitStreetsModel", "isDigit", "(I)Z"⟩, 33) := ⟨⟨by decide +kernel, by decide +kernel⟩, List.mem_of_getElem? (i := 839) (by decide +kernel), List.mem_of_getElem? (i := 1236) (by decide +kernel), List.mem_of_getElem? (i := 1237) (by decide +kernel)⟩
theorem lw_p61 : lw_okq (⟨"KnitStreetsModel", "key", "()I"⟩, 33) := ⟨⟨by decide +kernel, by decide +kernel⟩, List.mem_of_getElem? (i := 839) (by decide +kernel), List.mem_of_getElem? (i := 1242) (by decide +kernel), List.mem_of_getElem? (i := 1243) (by decide +kernel)⟩
theorem lw_p62 : lw_okq (⟨"KnitStreetsModel", "isWordAt", "(IIII)Z"⟩, 33) := ⟨⟨by decide +kernel, by decide +kernel⟩, List.mem_of_getElem? (i := 839) (by decide +kernel), List.mem_of_getElem? (i := 1246) (by decide +kernel), List.mem_of_getElem? (i := 1247) (by decide +kernel)⟩
theorem lw_p63 : lw_okq (⟨"KnitStreetsModel", "either", "(I)Z"⟩, 33) := ⟨⟨by decide +kernel, by decide +kernel⟩, List.mem_of_getElem? (i := 839) (by decide +kernel), List.mem_of_getElem? (i := 1250) (by decide +kernel), List.mem_of_getElem? (i := 1251) (by decide +kernel)⟩
def lw_privs_4 : List (MethodName × Nat) := [(⟨"KnitStreetsModel", "lostOfAll", "()I"⟩, 33), (⟨"KnitStreetsModel", "findsWays", "(II)I"⟩, 33), (⟨"KnitStreetsModel", "comesTo", "(III)Z"⟩, 33), (⟨"KnitStreetsModel", "isHeld", "(II)Z"⟩, 33), (⟨"KnitStreetsModel", "stepsFrom", "(III)Z"⟩, 33), (⟨"KnitStreetsModel", "pulledWith", "(II)I"⟩, 33), (⟨"KnitStreetsModel", "laysBy", "()V"⟩, 33), (⟨"KnitStreetsModel", "laysBack", "()V"⟩, 33), (⟨"KnitStreetsModel", "bestOf", "(IIIII)I"⟩, 33), (⟨"KnitStreetsModel", "parse", "()I"⟩, 33), (⟨"KnitStreetsModel", "nextToken", "()V"⟩, 33), (⟨"KnitStreetsModel", "isLetter", "(I)Z"⟩, 33), (⟨"KnitStreetsModel", "isDigit", "(I)Z"⟩, 33), (⟨"KnitStreetsModel", "key", "()I"⟩, 33), (⟨"KnitStreetsModel", "isWordAt", "(IIII)Z"⟩, 33), (⟨"KnitStreetsModel", "either", "(I)Z"⟩, 33)]
theorem lw_r4 : ∀ q ∈ lw_privs_4, lw_okq q := List.forall_mem_cons.mpr ⟨lw_p48, List.forall_mem_cons.mpr ⟨lw_p49, List.forall_mem_cons.mpr ⟨lw_p50, List.forall_mem_cons.mpr ⟨lw_p51, List.forall_mem_cons.mpr ⟨lw_p52, List.forall_mem_cons.mpr ⟨lw_p53, List.forall_mem_cons.mpr ⟨lw_p54, List.forall_mem_cons.mpr ⟨lw_p55, List.forall_mem_cons.mpr ⟨lw_p56, List.forall_mem_cons.mpr ⟨lw_p57, List.forall_mem_cons.mpr ⟨lw_p58, List.forall_mem_cons.mpr ⟨lw_p59, List.forall_mem_cons.mpr ⟨lw_p60, List.forall_mem_cons.mpr ⟨lw_p61, List.forall_mem_cons.mpr ⟨lw_p62, List.forall_mem_cons.mpr ⟨lw_p63, fun _ h => absurd h List.not_mem_nil⟩⟩⟩⟩⟩⟩⟩⟩⟩⟩⟩⟩⟩⟩⟩⟩
theorem lw_p64 : lw_okq (⟨"KnitStreetsModel", "both", "(I)Z"⟩, 33) := ⟨⟨by decide +kernel, by decide +kernel⟩, List.mem_of_getElem? (i := 839) (by decide +kernel), List.mem_of_getElem? (i := 1254) (by decide +kernel), List.mem_of_getElem? (i := 1255) (by decide +kernel)⟩
theorem lw_p65 : lw_okq (⟨"KnitStreetsModel", "test", "(I)Z"⟩, 33) := ⟨⟨by decide +kernel, by decide +kernel⟩, List.mem_of_getElem? (i := 839) (by decide +kernel), List.mem_of_getElem? (i := 1258) (by decide +kernel), List.mem_of_getElem? (i := 1259) (by decide +kernel)⟩
theorem lw_p66 : lw_okq (⟨"KnitStreetsModel", "sum", "(I)Z"⟩, 33) := ⟨⟨by decide +kernel, by decide +kernel⟩, List.mem_of_getElem? (i := 839) (by decide +kernel), List.mem_of_getElem? (i := 1262) (by decide +kernel), List.mem_of_getElem? (i := 1263) (by decide +kernel)⟩
theorem lw_p67 : lw_okq (⟨"KnitStreetsModel", "term", "(I)Z"⟩, 33) := ⟨⟨by decide +kernel, by decide +kernel⟩, List.mem_of_getElem? (i := 839) (by decide +kernel), List.mem_of_getElem? (i := 1266) (by decide +kernel), List.mem_of_getElem? (i := 1267) (by decide +kernel)⟩
theorem lw_p68 : lw_okq (⟨"KnitStreetsModel", "part0", "(I)Z"⟩, 33) := ⟨⟨by decide +kernel, by decide +kernel⟩, List.mem_of_getElem? (i := 839) (by decide +kernel), List.mem_of_getElem? (i := 1270) (by decide +kernel), List.mem_of_getElem? (i := 1271) (by decide +kernel)⟩
theorem lw_p69 : lw_okq (⟨"KnitStreetsModel", "step", "(II)V"⟩, 33) := ⟨⟨by decide +kernel, by decide +kernel⟩, List.mem_of_getElem? (i := 839) (by decide +kernel), List.mem_of_getElem? (i := 1274) (by decide +kernel), List.mem_of_getElem? (i := 1275) (by decide +kernel)⟩
theorem lw_p70 : lw_okq (⟨"KnitStreetsModel", "isSign", "(I)Z"⟩, 33) := ⟨⟨by decide +kernel, by decide +kernel⟩, List.mem_of_getElem? (i := 839) (by decide +kernel), List.mem_of_getElem? (i := 1281) (by decide +kernel), List.mem_of_getElem? (i := 1282) (by decide +kernel)⟩
theorem lw_p71 : lw_okq (⟨"KnitStreetsModel", "isText", "(I)Z"⟩, 33) := ⟨⟨by decide +kernel, by decide +kernel⟩, List.mem_of_getElem? (i := 839) (by decide +kernel), List.mem_of_getElem? (i := 1289) (by decide +kernel), List.mem_of_getElem? (i := 1290) (by decide +kernel)⟩
theorem lw_p72 : lw_okq (⟨"KnitStreetsModel", "offBy", "(II)I"⟩, 33) := ⟨⟨by decide +kernel, by decide +kernel⟩, List.mem_of_getElem? (i := 839) (by decide +kernel), List.mem_of_getElem? (i := 1327) (by decide +kernel), List.mem_of_getElem? (i := 1328) (by decide +kernel)⟩
theorem lw_p73 : lw_okq (⟨"KnitStreetsModel", "setAside", "([I[I)V"⟩, 33) := ⟨⟨by decide +kernel, by decide +kernel⟩, List.mem_of_getElem? (i := 839) (by decide +kernel), List.mem_of_getElem? (i := 1366) (by decide +kernel), List.mem_of_getElem? (i := 1367) (by decide +kernel)⟩
def lw_privs_5 : List (MethodName × Nat) := [(⟨"KnitStreetsModel", "both", "(I)Z"⟩, 33), (⟨"KnitStreetsModel", "test", "(I)Z"⟩, 33), (⟨"KnitStreetsModel", "sum", "(I)Z"⟩, 33), (⟨"KnitStreetsModel", "term", "(I)Z"⟩, 33), (⟨"KnitStreetsModel", "part0", "(I)Z"⟩, 33), (⟨"KnitStreetsModel", "step", "(II)V"⟩, 33), (⟨"KnitStreetsModel", "isSign", "(I)Z"⟩, 33), (⟨"KnitStreetsModel", "isText", "(I)Z"⟩, 33), (⟨"KnitStreetsModel", "offBy", "(II)I"⟩, 33), (⟨"KnitStreetsModel", "setAside", "([I[I)V"⟩, 33)]
theorem lw_r5 : ∀ q ∈ lw_privs_5, lw_okq q := List.forall_mem_cons.mpr ⟨lw_p64, List.forall_mem_cons.mpr ⟨lw_p65, List.forall_mem_cons.mpr ⟨lw_p66, List.forall_mem_cons.mpr ⟨lw_p67, List.forall_mem_cons.mpr ⟨lw_p68, List.forall_mem_cons.mpr ⟨lw_p69, List.forall_mem_cons.mpr ⟨lw_p70, List.forall_mem_cons.mpr ⟨lw_p71, List.forall_mem_cons.mpr ⟨lw_p72, List.forall_mem_cons.mpr ⟨lw_p73, fun _ h => absurd h List.not_mem_nil⟩⟩⟩⟩⟩⟩⟩⟩⟩⟩
def lw_privs : List (MethodName × Nat) := lw_privs_1 ++ (lw_privs_2 ++ (lw_privs_3 ++ (lw_privs_4 ++ (lw_privs_5))))
def lw_tbl : List Cond := k2_sels lw_privs ++ tables_1
theorem lw_privs_ok : ∀ q ∈ lw_privs, lw_okq q := by
  show ∀ q ∈ lw_privs_1 ++ (lw_privs_2 ++ (lw_privs_3 ++ (lw_privs_4 ++ (lw_privs_5)))), lw_okq q
  exact List.forall_mem_append.mpr ⟨lw_r1, List.forall_mem_append.mpr ⟨lw_r2, List.forall_mem_append.mpr ⟨lw_r3, List.forall_mem_append.mpr ⟨lw_r4, lw_r5⟩⟩⟩⟩
def RX0 : String := "KnitStreets$Kinds"
def TX0 : u_T := fun k => match k with
  | _ => ("", "", "", false)
def tyX0 : Nat → FieldType := fun k => match k with
  | _ => .int
abbrev wsX00 : List Cond := u_ws RX0 TX0 0
theorem nmX0 : ∀ a, a < 0 → ∀ b, b < 0 → a ≠ b → (TX0 a).2.1 ≠ (TX0 b).2.1 := by decide +kernel
theorem tyX0_ok : ∀ k, k < 0 → parseFieldDescriptor (TX0 k).2.2.1 = some (tyX0 k) := by decide +kernel
abbrev cX0_isKind : ByteArray := prog_2_method_2_code
def yX0_isKind : MethodName := ⟨RX0, "isKind", "(I)Z"⟩
abbrev cX0_isUnder : ByteArray := prog_2_method_3_code
def yX0_isUnder : MethodName := ⟨RX0, "isUnder", "(II)Z"⟩
abbrev cX0_borne : ByteArray := prog_2_method_4_code
def yX0_borne : MethodName := ⟨RX0, "borne", "(II)I"⟩
abbrev cX0_over : ByteArray := prog_2_method_5_code
def yX0_over : MethodName := ⟨RX0, "over", "(II)I"⟩
abbrev cX0_under : ByteArray := prog_2_method_6_code
def yX0_under : MethodName := ⟨RX0, "under", "(II)I"⟩
abbrev cX0_wears : ByteArray := prog_2_method_7_code
def yX0_wears : MethodName := ⟨RX0, "wears", "(II)I"⟩
abbrev cX0_bears : ByteArray := prog_2_method_8_code
def yX0_bears : MethodName := ⟨RX0, "bears", "(II)I"⟩
abbrev cX0_worth : ByteArray := prog_2_method_9_code
def yX0_worth : MethodName := ⟨RX0, "worth", "(II)I"⟩
abbrev cX0_crossed : ByteArray := prog_2_method_10_code
def yX0_crossed : MethodName := ⟨RX0, "crossed", "(I)I"⟩
abbrev cX0_oneBack : ByteArray := prog_2_method_11_code
def yX0_oneBack : MethodName := ⟨RX0, "oneBack", "(I)I"⟩
abbrev cX0_oneOn : ByteArray := prog_2_method_12_code
def yX0_oneOn : MethodName := ⟨RX0, "oneOn", "(I)I"⟩
def RX1 : String := "KnitStreets$Reader"
def TX1 : u_T := fun k => match k with
  | 0 => ("KnitStreets$Reader", "tape", "LKnitStreets$Tape;", true)
  | 1 => ("KnitStreets$Reader", "row", "[I", true)
  | 2 => ("KnitStreets$Reader", "size", "I", false)
  | 3 => ("KnitStreets$Reader", "leaves", "I", false)
  | 4 => ("KnitStreets$Reader", "key", "I", false)
  | 5 => ("KnitStreets$Reader", "sort", "I", false)
  | 6 => ("KnitStreets$Reader", "start", "I", false)
  | _ => ("KnitStreets$Reader", "end", "I", false)
def tyX1 : Nat → FieldType := fun k => match k with
  | 0 => .object "KnitStreets$Tape"
  | 1 => .array .int
  | 2 => .int
  | 3 => .int
  | 4 => .int
  | 5 => .int
  | 6 => .int
  | _ => .int
abbrev wsX10 : List Cond := u_ws RX1 TX1 8
theorem nmX1 : ∀ a, a < 8 → ∀ b, b < 8 → a ≠ b → (TX1 a).2.1 ≠ (TX1 b).2.1 := by decide +kernel
theorem tyX1_ok : ∀ k, k < 8 → parseFieldDescriptor (TX1 k).2.2.1 = some (tyX1 k) := by decide +kernel
abbrev cX1_init : ByteArray := prog_3_method_1_code
def yX1_init : MethodName := ⟨RX1, "<init>", "(LKnitStreets$Tape;)V"⟩
abbrev cX1_faultOfTape : ByteArray := prog_3_method_2_code
def yX1_faultOfTape : MethodName := ⟨RX1, "faultOfTape", "()I"⟩
abbrev cX1_moveOn : ByteArray := prog_3_method_3_code
def yX1_moveOn : MethodName := ⟨RX1, "moveOn", "()V"⟩
abbrev cX1_byteAt : ByteArray := prog_3_method_4_code
def yX1_byteAt : MethodName := ⟨RX1, "byteAt", "(I)I"⟩
abbrev cX1_sortOf : ByteArray := prog_3_method_5_code
def yX1_sortOf : MethodName := ⟨RX1, "sortOf", "(I)I"⟩
abbrev cX1_keyHere : ByteArray := prog_3_method_6_code
def yX1_keyHere : MethodName := ⟨RX1, "keyHere", "()I"⟩
abbrev cX1_isWord : ByteArray := prog_3_method_7_code
def yX1_isWord : MethodName := ⟨RX1, "isWord", "(Ljava/lang/String;)Z"⟩
abbrev cX1_level : ByteArray := prog_3_method_8_code
def yX1_level : MethodName := ⟨RX1, "level", "(III)Z"⟩
abbrev cX1_levelOf : ByteArray := prog_3_method_9_code
def yX1_levelOf : MethodName := ⟨RX1, "levelOf", "(I)I"⟩
abbrev cX1_piece : ByteArray := prog_3_method_10_code
def yX1_piece : MethodName := ⟨RX1, "piece", "(II)Z"⟩
abbrev cX1_isSign : ByteArray := prog_3_method_11_code
def yX1_isSign : MethodName := ⟨RX1, "isSign", "(I)Z"⟩
abbrev cX1_number : ByteArray := prog_3_method_12_code
def yX1_number : MethodName := ⟨RX1, "number", "()Z"⟩
abbrev cX1_name : ByteArray := prog_3_method_13_code
def yX1_name : MethodName := ⟨RX1, "name", "()Z"⟩
abbrev cX1_leaf : ByteArray := prog_3_method_14_code
def yX1_leaf : MethodName := ⟨RX1, "leaf", "(I)Z"⟩
abbrev cX1_write : ByteArray := prog_3_method_15_code
def yX1_write : MethodName := ⟨RX1, "write", "(I)V"⟩
def RX2 : String := "KnitStreets$Sheet"
def TX2 : u_T := fun k => match k with
  | 0 => ("KnitStreets$Sheet", "places", "[I", true)
  | 1 => ("KnitStreets$Sheet", "sort", "I", false)
  | _ => ("KnitStreets$Sheet", "size", "I", false)
def tyX2 : Nat → FieldType := fun k => match k with
  | 0 => .array .int
  | 1 => .int
  | _ => .int
abbrev wsX20 : List Cond := u_ws RX2 TX2 3
theorem nmX2 : ∀ a, a < 3 → ∀ b, b < 3 → a ≠ b → (TX2 a).2.1 ≠ (TX2 b).2.1 := by decide +kernel
theorem tyX2_ok : ∀ k, k < 3 → parseFieldDescriptor (TX2 k).2.2.1 = some (tyX2 k) := by decide +kernel
abbrev cX2_init : ByteArray := prog_4_method_1_code
def yX2_init : MethodName := ⟨RX2, "<init>", "()V"⟩
abbrev cX2_begin : ByteArray := prog_4_method_2_code
def yX2_begin : MethodName := ⟨RX2, "begin", "(II)V"⟩
abbrev cX2_become : ByteArray := prog_4_method_3_code
def yX2_become : MethodName := ⟨RX2, "become", "(LKnitStreets$Sheet;)V"⟩
abbrev cX2_isMissing : ByteArray := prog_4_method_4_code
def yX2_isMissing : MethodName := ⟨RX2, "isMissing", "()Z"⟩
abbrev cX2_hasPlace : ByteArray := prog_4_method_5_code
def yX2_hasPlace : MethodName := ⟨RX2, "hasPlace", "(I)Z"⟩
abbrev cX2_hasNumber : ByteArray := prog_4_method_6_code
def yX2_hasNumber : MethodName := ⟨RX2, "hasNumber", "(I)Z"⟩
abbrev cX2_hasPlaces : ByteArray := prog_4_method_7_code
def yX2_hasPlaces : MethodName := ⟨RX2, "hasPlaces", "(II)Z"⟩
def RX3 : String := "KnitStreets$Slot"
def TX3 : u_T := fun k => match k with
  | 0 => ("KnitStreets$Slot", "row", "LKnitStreets$Sheet;", true)
  | 1 => ("KnitStreets$Slot", "thing", "I", false)
  | 2 => ("KnitStreets$Slot", "kind", "I", false)
  | 3 => ("KnitStreets$Slot", "gauge", "I", false)
  | _ => ("KnitStreets$Slot", "number", "I", false)
def tyX3 : Nat → FieldType := fun k => match k with
  | 0 => .object "KnitStreets$Sheet"
  | 1 => .int
  | 2 => .int
  | 3 => .int
  | _ => .int
abbrev wsX30 : List Cond := u_ws RX3 TX3 5
theorem nmX3 : ∀ a, a < 5 → ∀ b, b < 5 → a ≠ b → (TX3 a).2.1 ≠ (TX3 b).2.1 := by decide +kernel
theorem tyX3_ok : ∀ k, k < 5 → parseFieldDescriptor (TX3 k).2.2.1 = some (tyX3 k) := by decide +kernel
abbrev cX3_init : ByteArray := prog_5_method_1_code
def yX3_init : MethodName := ⟨RX3, "<init>", "()V"⟩
abbrev cX3_takeCourse : ByteArray := prog_5_method_2_code
def yX3_takeCourse : MethodName := ⟨RX3, "takeCourse", "(II)V"⟩
abbrev cX3_takeSheet : ByteArray := prog_5_method_3_code
def yX3_takeSheet : MethodName := ⟨RX3, "takeSheet", "(LKnitStreets$Sheet;)V"⟩
abbrev cX3_takeNumber : ByteArray := prog_5_method_4_code
def yX3_takeNumber : MethodName := ⟨RX3, "takeNumber", "(I)V"⟩
def RX4 : String := "KnitStreets$Tape"
def TX4 : u_T := fun k => match k with
  | 0 => ("KnitStreets$Tape", "bytes", "[I", true)
  | _ => ("KnitStreets$Tape", "length", "I", false)
def tyX4 : Nat → FieldType := fun k => match k with
  | 0 => .array .int
  | _ => .int
abbrev wsX40 : List Cond := u_ws RX4 TX4 2
theorem nmX4 : ∀ a, a < 2 → ∀ b, b < 2 → a ≠ b → (TX4 a).2.1 ≠ (TX4 b).2.1 := by decide +kernel
theorem tyX4_ok : ∀ k, k < 2 → parseFieldDescriptor (TX4 k).2.2.1 = some (tyX4 k) := by decide +kernel
abbrev cX4_init : ByteArray := prog_6_method_1_code
def yX4_init : MethodName := ⟨RX4, "<init>", "()V"⟩
abbrev cX4_add : ByteArray := prog_6_method_2_code
def yX4_add : MethodName := ⟨RX4, "add", "(I)V"⟩
def RX5 : String := "KnitStreets$Texts"
def TX5 : u_T := fun k => match k with
  | 0 => ("KnitStreets$Texts", "rows", "[[I", true)
  | 1 => ("KnitStreets$Texts", "sizes", "[I", true)
  | 2 => ("KnitStreets$Texts", "key", "[I", true)
  | 3 => ("KnitStreets$Texts", "leaves", "[I", true)
  | 4 => ("KnitStreets$Texts", "stack", "[I", true)
  | _ => ("KnitStreets$Texts", "top", "I", false)
def tyX5 : Nat → FieldType := fun k => match k with
  | 0 => .array (.array .int)
  | 1 => .array .int
  | 2 => .array .int
  | 3 => .array .int
  | 4 => .array .int
  | _ => .int
abbrev wsX50 : List Cond := u_ws RX5 TX5 6
theorem nmX5 : ∀ a, a < 6 → ∀ b, b < 6 → a ≠ b → (TX5 a).2.1 ≠ (TX5 b).2.1 := by decide +kernel
theorem tyX5_ok : ∀ k, k < 6 → parseFieldDescriptor (TX5 k).2.2.1 = some (tyX5 k) := by decide +kernel
abbrev cX5_init : ByteArray := prog_7_method_1_code
def yX5_init : MethodName := ⟨RX5, "<init>", "()V"⟩
abbrev cX5_isName : ByteArray := prog_7_method_2_code
def yX5_isName : MethodName := ⟨RX5, "isName", "(II)Z"⟩
abbrev cX5_store : ByteArray := prog_7_method_3_code
def yX5_store : MethodName := ⟨RX5, "store", "(ILKnitStreets$Reader;)V"⟩
abbrev cX5_gives : ByteArray := prog_7_method_4_code
def yX5_gives : MethodName := ⟨RX5, "gives", "(ILKnitStreets$Town;I)I"⟩
abbrev cX5_isLetter : ByteArray := prog_7_method_5_code
def yX5_isLetter : MethodName := ⟨RX5, "isLetter", "(I)Z"⟩
abbrev cX5_named : ByteArray := prog_7_method_6_code
def yX5_named : MethodName := ⟨RX5, "named", "(ILKnitStreets$Town;I)I"⟩
abbrev cX5_joined : ByteArray := prog_7_method_7_code
def yX5_joined : MethodName := ⟨RX5, "joined", "(III)I"⟩
abbrev cX5_truth : ByteArray := prog_7_method_8_code
def yX5_truth : MethodName := ⟨RX5, "truth", "(Z)I"⟩
abbrev cX5_push : ByteArray := prog_7_method_9_code
def yX5_push : MethodName := ⟨RX5, "push", "(I)V"⟩
abbrev cX5_pop : ByteArray := prog_7_method_10_code
def yX5_pop : MethodName := ⟨RX5, "pop", "()I"⟩
def RX6 : String := "KnitStreets$Town"
def TX6 : u_T := fun k => match k with
  | 0 => ("KnitStreets$Town", "kind", "[I", true)
  | 1 => ("KnitStreets$Town", "gauge", "[I", true)
  | 2 => ("KnitStreets$Town", "wear", "[I", true)
  | 3 => ("KnitStreets$Town", "lost", "[I", true)
  | 4 => ("KnitStreets$Town", "rules", "[I", true)
  | 5 => ("KnitStreets$Town", "counting", "[I", true)
  | 6 => ("KnitStreets$Town", "laws", "LKnitStreets$Texts;", true)
  | 7 => ("KnitStreets$Town", "courses", "I", false)
  | 8 => ("KnitStreets$Town", "walked", "I", false)
  | 9 => ("KnitStreets$Town", "runs", "I", false)
  | 10 => ("KnitStreets$Town", "mended", "I", false)
  | 11 => ("KnitStreets$Town", "night", "I", false)
  | 12 => ("KnitStreets$Town", "z", "I", false)
  | _ => ("KnitStreets$Town", "texts", "I", false)
def tyX6 : Nat → FieldType := fun k => match k with
  | 0 => .array .int
  | 1 => .array .int
  | 2 => .array .int
  | 3 => .array .int
  | 4 => .array .int
  | 5 => .array .int
  | 6 => .object "KnitStreets$Texts"
  | 7 => .int
  | 8 => .int
  | 9 => .int
  | 10 => .int
  | 11 => .int
  | 12 => .int
  | _ => .int
abbrev wsX60 : List Cond := u_ws RX6 TX6 14
theorem nmX6 : ∀ a, a < 14 → ∀ b, b < 14 → a ≠ b → (TX6 a).2.1 ≠ (TX6 b).2.1 := by decide +kernel
theorem tyX6_ok : ∀ k, k < 14 → parseFieldDescriptor (TX6 k).2.2.1 = some (tyX6 k) := by decide +kernel
abbrev cX6_init : ByteArray := prog_8_method_1_code
def yX6_init : MethodName := ⟨RX6, "<init>", "(LKnitStreets$Texts;)V"⟩
abbrev cX6_become : ByteArray := prog_8_method_2_code
def yX6_become : MethodName := ⟨RX6, "become", "(LKnitStreets$Town;)V"⟩
abbrev cX6_has : ByteArray := prog_8_method_3_code
def yX6_has : MethodName := ⟨RX6, "has", "(I)Z"⟩
abbrev cX6_isFull : ByteArray := prog_8_method_4_code
def yX6_isFull : MethodName := ⟨RX6, "isFull", "()Z"⟩
abbrev cX6_add : ByteArray := prog_8_method_5_code
def yX6_add : MethodName := ⟨RX6, "add", "(III)V"⟩
abbrev cX6_addText : ByteArray := prog_8_method_6_code
def yX6_addText : MethodName := ⟨RX6, "addText", "(I)I"⟩
abbrev cX6_drawCourse : ByteArray := prog_8_method_7_code
def yX6_drawCourse : MethodName := ⟨RX6, "drawCourse", "()V"⟩
abbrev cX6_holding : ByteArray := prog_8_method_8_code
def yX6_holding : MethodName := ⟨RX6, "holding", "(I)I"⟩
abbrev cX6_holdingOn : ByteArray := prog_8_method_9_code
def yX6_holdingOn : MethodName := ⟨RX6, "holdingOn", "(II)I"⟩
abbrev cX6_held : ByteArray := prog_8_method_10_code
def yX6_held : MethodName := ⟨RX6, "held", "()I"⟩
abbrev cX6_heldWithout : ByteArray := prog_8_method_11_code
def yX6_heldWithout : MethodName := ⟨RX6, "heldWithout", "(II)I"⟩
abbrev cX6_lostLoops : ByteArray := prog_8_method_12_code
def yX6_lostLoops : MethodName := ⟨RX6, "lostLoops", "()I"⟩
abbrev cX6_lostBelow : ByteArray := prog_8_method_13_code
def yX6_lostBelow : MethodName := ⟨RX6, "lostBelow", "(II)I"⟩
abbrev cX6_wears : ByteArray := prog_8_method_14_code
def yX6_wears : MethodName := ⟨RX6, "wears", "(I)I"⟩
abbrev cX6_passNights : ByteArray := prog_8_method_15_code
def yX6_passNights : MethodName := ⟨RX6, "passNights", "(I)V"⟩
abbrev cX6_passNight : ByteArray := prog_8_method_16_code
def yX6_passNight : MethodName := ⟨RX6, "passNight", "()V"⟩
abbrev cX6_draw : ByteArray := prog_8_method_17_code
def yX6_draw : MethodName := ⟨RX6, "draw", "()I"⟩
abbrev cX6_walkSomewhere : ByteArray := prog_8_method_18_code
def yX6_walkSomewhere : MethodName := ⟨RX6, "walkSomewhere", "()V"⟩
abbrev cX6_lose : ByteArray := prog_8_method_19_code
def yX6_lose : MethodName := ⟨RX6, "lose", "(II)V"⟩
abbrev cX6_mendFirst : ByteArray := prog_8_method_20_code
def yX6_mendFirst : MethodName := ⟨RX6, "mendFirst", "()V"⟩
def RX7 : String := "KnitStreets$Ways"
def TX7 : u_T := fun k => match k with
  | 0 => ("KnitStreets$Ways", "unseen", "[I", true)
  | 1 => ("KnitStreets$Ways", "front", "[I", true)
  | _ => ("KnitStreets$Ways", "next", "[I", true)
def tyX7 : Nat → FieldType := fun k => match k with
  | 0 => .array .int
  | 1 => .array .int
  | _ => .array .int
abbrev wsX70 : List Cond := u_ws RX7 TX7 3
theorem nmX7 : ∀ a, a < 3 → ∀ b, b < 3 → a ≠ b → (TX7 a).2.1 ≠ (TX7 b).2.1 := by decide +kernel
theorem tyX7_ok : ∀ k, k < 3 → parseFieldDescriptor (TX7 k).2.2.1 = some (tyX7 k) := by decide +kernel
abbrev cX7_init : ByteArray := prog_9_method_1_code
def yX7_init : MethodName := ⟨RX7, "<init>", "()V"⟩
abbrev cX7_steps : ByteArray := prog_9_method_2_code
def yX7_steps : MethodName := ⟨RX7, "steps", "(LKnitStreets$Town;IIII)I"⟩
abbrev cX7_reached : ByteArray := prog_9_method_3_code
def yX7_reached : MethodName := ⟨RX7, "reached", "(LKnitStreets$Town;II)I"⟩
abbrev cX7_begin : ByteArray := prog_9_method_4_code
def yX7_begin : MethodName := ⟨RX7, "begin", "(LKnitStreets$Town;II)I"⟩
abbrev cX7_step : ByteArray := prog_9_method_5_code
def yX7_step : MethodName := ⟨RX7, "step", "(LKnitStreets$Town;)I"⟩
abbrev cX7_near : ByteArray := prog_9_method_6_code
def yX7_near : MethodName := ⟨RX7, "near", "(LKnitStreets$Town;I)I"⟩
def RX8 : String := "KnitStreets"
def TX8 : u_T := fun k => match k with
  | 0 => ("KnitStreets", "texts", "LKnitStreets$Texts;", true)
  | 1 => ("KnitStreets", "now", "LKnitStreets$Town;", true)
  | 2 => ("KnitStreets", "image", "LKnitStreets$Town;", true)
  | 3 => ("KnitStreets", "thought", "LKnitStreets$Town;", true)
  | 4 => ("KnitStreets", "ways", "LKnitStreets$Ways;", true)
  | 5 => ("KnitStreets", "tape", "LKnitStreets$Tape;", true)
  | 6 => ("KnitStreets", "reader", "LKnitStreets$Reader;", true)
  | 7 => ("KnitStreets", "sheets", "[LKnitStreets$Sheet;", true)
  | 8 => ("KnitStreets", "slots", "[LKnitStreets$Slot;", true)
  | 9 => ("KnitStreets", "waiting", "[I", true)
  | 10 => ("KnitStreets", "waits", "I", false)
  | _ => ("KnitStreets", "imageKept", "Z", false)
def tyX8 : Nat → FieldType := fun k => match k with
  | 0 => .object "KnitStreets$Texts"
  | 1 => .object "KnitStreets$Town"
  | 2 => .object "KnitStreets$Town"
  | 3 => .object "KnitStreets$Town"
  | 4 => .object "KnitStreets$Ways"
  | 5 => .object "KnitStreets$Tape"
  | 6 => .object "KnitStreets$Reader"
  | 7 => .array (.object "KnitStreets$Sheet")
  | 8 => .array (.object "KnitStreets$Slot")
  | 9 => .array .int
  | 10 => .int
  | _ => .boolean
abbrev wsX80 : List Cond := u_ws RX8 TX8 12
theorem nmX8 : ∀ a, a < 12 → ∀ b, b < 12 → a ≠ b → (TX8 a).2.1 ≠ (TX8 b).2.1 := by decide +kernel
theorem tyX8_ok : ∀ k, k < 12 → parseFieldDescriptor (TX8 k).2.2.1 = some (tyX8 k) := by decide +kernel
abbrev cX8_init : ByteArray := prog_1_method_1_code
def yX8_init : MethodName := ⟨RX8, "<init>", "()V"⟩
abbrev cX8_knit : ByteArray := prog_1_method_2_code
def yX8_knit : MethodName := ⟨RX8, "knit", "(II)I"⟩
abbrev cX8_told : ByteArray := prog_1_method_3_code
def yX8_told : MethodName := ⟨RX8, "told", "(II)I"⟩
abbrev cX8_as : ByteArray := prog_1_method_4_code
def yX8_as : MethodName := ⟨RX8, "as", "(II)I"⟩
abbrev cX8_turns : ByteArray := prog_1_method_5_code
def yX8_turns : MethodName := ⟨RX8, "turns", "(II)I"⟩
abbrev cX8_set : ByteArray := prog_1_method_6_code
def yX8_set : MethodName := ⟨RX8, "set", "(III)I"⟩
abbrev cX8_drops : ByteArray := prog_1_method_7_code
def yX8_drops : MethodName := ⟨RX8, "drops", "(II)I"⟩
abbrev cX8_hooks : ByteArray := prog_1_method_8_code
def yX8_hooks : MethodName := ⟨RX8, "hooks", "(II)I"⟩
abbrev cX8_rule : ByteArray := prog_1_method_9_code
def yX8_rule : MethodName := ⟨RX8, "rule", "(II)I"⟩
abbrev cX8_deal : ByteArray := prog_1_method_10_code
def yX8_deal : MethodName := ⟨RX8, "deal", "(I)I"⟩
abbrev cX8_seed : ByteArray := prog_1_method_11_code
def yX8_seed : MethodName := ⟨RX8, "seed", "(I)I"⟩
abbrev cX8_nights : ByteArray := prog_1_method_12_code
def yX8_nights : MethodName := ⟨RX8, "nights", "(I)I"⟩
abbrev cX8_town : ByteArray := prog_1_method_13_code
def yX8_town : MethodName := ⟨RX8, "town", "(I)I"⟩
abbrev cX8_way : ByteArray := prog_1_method_14_code
def yX8_way : MethodName := ⟨RX8, "way", "(IIII)I"⟩
abbrev cX8_reach : ByteArray := prog_1_method_15_code
def yX8_reach : MethodName := ⟨RX8, "reach", "(II)I"⟩
abbrev cX8_pulled : ByteArray := prog_1_method_16_code
def yX8_pulled : MethodName := ⟨RX8, "pulled", "(II)I"⟩
abbrev cX8_worst : ByteArray := prog_1_method_17_code
def yX8_worst : MethodName := ⟨RX8, "worst", "(I)I"⟩
abbrev cX8_needs : ByteArray := prog_1_method_18_code
def yX8_needs : MethodName := ⟨RX8, "needs", "(II)I"⟩
abbrev cX8_behind : ByteArray := prog_1_method_19_code
def yX8_behind : MethodName := ⟨RX8, "behind", "(II)I"⟩
abbrev cX8_gone : ByteArray := prog_1_method_20_code
def yX8_gone : MethodName := ⟨RX8, "gone", "(II)I"⟩
abbrev cX8_thick : ByteArray := prog_1_method_21_code
def yX8_thick : MethodName := ⟨RX8, "thick", "(III)I"⟩
abbrev cX8_becomes : ByteArray := prog_1_method_22_code
def yX8_becomes : MethodName := ⟨RX8, "becomes", "(III)I"⟩
abbrev cX8_like : ByteArray := prog_1_method_23_code
def yX8_like : MethodName := ⟨RX8, "like", "(II)I"⟩
abbrev cX8_fee : ByteArray := prog_1_method_24_code
def yX8_fee : MethodName := ⟨RX8, "fee", "()I"⟩
abbrev cX8_fine : ByteArray := prog_1_method_25_code
def yX8_fine : MethodName := ⟨RX8, "fine", "(I)I"⟩
abbrev cX8_feed : ByteArray := prog_1_method_26_code
def yX8_feed : MethodName := ⟨RX8, "feed", "(III)I"⟩
abbrev cX8_trim : ByteArray := prog_1_method_27_code
def yX8_trim : MethodName := ⟨RX8, "trim", "(I)I"⟩
abbrev cX8_text : ByteArray := prog_1_method_28_code
def yX8_text : MethodName := ⟨RX8, "text", "()I"⟩
abbrev cX8_textTold : ByteArray := prog_1_method_29_code
def yX8_textTold : MethodName := ⟨RX8, "textTold", "(II)I"⟩
abbrev cX8_why : ByteArray := prog_1_method_30_code
def yX8_why : MethodName := ⟨RX8, "why", "(I)I"⟩
abbrev cX8_sheet : ByteArray := prog_1_method_31_code
def yX8_sheet : MethodName := ⟨RX8, "sheet", "(III)I"⟩
abbrev cX8_mark : ByteArray := prog_1_method_32_code
def yX8_mark : MethodName := ⟨RX8, "mark", "(III)I"⟩
abbrev cX8_pour : ByteArray := prog_1_method_33_code
def yX8_pour : MethodName := ⟨RX8, "pour", "(I)I"⟩
abbrev cX8_reads : ByteArray := prog_1_method_34_code
def yX8_reads : MethodName := ⟨RX8, "reads", "(I)I"⟩
abbrev cX8_copy : ByteArray := prog_1_method_35_code
def yX8_copy : MethodName := ⟨RX8, "copy", "(IIIII)I"⟩
abbrev cX8_lay : ByteArray := prog_1_method_36_code
def yX8_lay : MethodName := ⟨RX8, "lay", "(III)I"⟩
abbrev cX8_ask : ByteArray := prog_1_method_37_code
def yX8_ask : MethodName := ⟨RX8, "ask", "(II)I"⟩
abbrev cX8_item : ByteArray := prog_1_method_38_code
def yX8_item : MethodName := ⟨RX8, "item", "(II)I"⟩
abbrev cX8_rest : ByteArray := prog_1_method_39_code
def yX8_rest : MethodName := ⟨RX8, "rest", "(II)I"⟩
abbrev cX8_tell : ByteArray := prog_1_method_40_code
def yX8_tell : MethodName := ⟨RX8, "tell", "(I)I"⟩
abbrev cX8_check : ByteArray := prog_1_method_41_code
def yX8_check : MethodName := ⟨RX8, "check", "(I)I"⟩
abbrev cX8_keep : ByteArray := prog_1_method_42_code
def yX8_keep : MethodName := ⟨RX8, "keep", "()I"⟩
abbrev cX8_back : ByteArray := prog_1_method_43_code
def yX8_back : MethodName := ⟨RX8, "back", "()I"⟩
abbrev cX8_count : ByteArray := prog_1_method_44_code
def yX8_count : MethodName := ⟨RX8, "count", "(I)I"⟩
abbrev cX8_isLoop : ByteArray := prog_1_method_45_code
def yX8_isLoop : MethodName := ⟨RX8, "isLoop", "(II)Z"⟩
abbrev cX8_isSheet : ByteArray := prog_1_method_46_code
def yX8_isSheet : MethodName := ⟨RX8, "isSheet", "(I)Z"⟩
abbrev cX8_isSlot : ByteArray := prog_1_method_47_code
def yX8_isSlot : MethodName := ⟨RX8, "isSlot", "(I)Z"⟩
abbrev cX8_isGauge : ByteArray := prog_1_method_48_code
def yX8_isGauge : MethodName := ⟨RX8, "isGauge", "(I)Z"⟩
abbrev cX8_isPlan : ByteArray := prog_1_method_49_code
def yX8_isPlan : MethodName := ⟨RX8, "isPlan", "(II)Z"⟩
abbrev cX8_heldWithin : ByteArray := prog_1_method_50_code
def yX8_heldWithin : MethodName := ⟨RX8, "heldWithin", "(II)I"⟩
abbrev cX8_difference : ByteArray := prog_1_method_51_code
def yX8_difference : MethodName := ⟨RX8, "difference", "(ILKnitStreets$Sheet;)I"⟩
abbrev cX8_isWaiting : ByteArray := prog_1_method_52_code
def yX8_isWaiting : MethodName := ⟨RX8, "isWaiting", "(III)Z"⟩
def RX9 : String := "KnitStreetsModel"
def TX9 : u_T := fun k => match k with
  | 0 => ("KnitStreetsModel", "s", "[I", true)
  | 1 => ("KnitStreetsModel", "image", "[I", true)
  | 2 => ("KnitStreetsModel", "aside", "[I", true)
  | 3 => ("KnitStreetsModel", "hasImage", "Z", false)
  | 4 => ("KnitStreetsModel", "tSort", "[I", true)
  | 5 => ("KnitStreetsModel", "tSize", "[I", true)
  | 6 => ("KnitStreetsModel", "tNumber", "[I", true)
  | 7 => ("KnitStreetsModel", "held", "[I", true)
  | 8 => ("KnitStreetsModel", "heldNumber", "[I", true)
  | 9 => ("KnitStreetsModel", "heldWorth", "[I", true)
  | 10 => ("KnitStreetsModel", "heldSize", "[I", true)
  | 11 => ("KnitStreetsModel", "heldRow", "[I", true)
  | 12 => ("KnitStreetsModel", "hold", "[I", true)
  | 13 => ("KnitStreetsModel", "far", "[I", true)
  | 14 => ("KnitStreetsModel", "close", "[I", true)
  | 15 => ("KnitStreetsModel", "tape", "[I", true)
  | 16 => ("KnitStreetsModel", "taped", "I", false)
  | 17 => ("KnitStreetsModel", "begin", "I", false)
  | 18 => ("KnitStreetsModel", "behind", "I", false)
  | 19 => ("KnitStreetsModel", "token", "I", false)
  | 20 => ("KnitStreetsModel", "number", "I", false)
  | 21 => ("KnitStreetsModel", "letter", "I", false)
  | 22 => ("KnitStreetsModel", "deep", "I", false)
  | 23 => ("KnitStreetsModel", "turned", "I", false)
  | 24 => ("KnitStreetsModel", "laid", "I", false)
  | 25 => ("KnitStreetsModel", "laidAt", "I", false)
  | 26 => ("KnitStreetsModel", "said", "I", false)
  | 27 => ("KnitStreetsModel", "named", "[I", true)
  | 28 => ("KnitStreetsModel", "pile", "[I", true)
  | 29 => ("KnitStreetsModel", "carried", "[I", true)
  | 30 => ("KnitStreetsModel", "waits", "[I", true)
  | 31 => ("KnitStreetsModel", "waiting", "I", false)
  | _ => ("KnitStreetsModel", "rowDue", "[I", true)
def tyX9 : Nat → FieldType := fun k => match k with
  | 0 => .array .int
  | 1 => .array .int
  | 2 => .array .int
  | 3 => .boolean
  | 4 => .array .int
  | 5 => .array .int
  | 6 => .array .int
  | 7 => .array .int
  | 8 => .array .int
  | 9 => .array .int
  | 10 => .array .int
  | 11 => .array .int
  | 12 => .array .int
  | 13 => .array .int
  | 14 => .array .int
  | 15 => .array .int
  | 16 => .int
  | 17 => .int
  | 18 => .int
  | 19 => .int
  | 20 => .int
  | 21 => .int
  | 22 => .int
  | 23 => .int
  | 24 => .int
  | 25 => .int
  | 26 => .int
  | 27 => .array .int
  | 28 => .array .int
  | 29 => .array .int
  | 30 => .array .int
  | 31 => .int
  | _ => .array .int
abbrev wsX90 : List Cond := u_ws RX9 TX9 33
theorem nmX9 : ∀ a, a < 33 → ∀ b, b < 33 → a ≠ b → (TX9 a).2.1 ≠ (TX9 b).2.1 := by decide +kernel
theorem tyX9_ok : ∀ k, k < 33 → parseFieldDescriptor (TX9 k).2.2.1 = some (tyX9 k) := by decide +kernel
abbrev cX9_init : ByteArray := prog_11_method_1_code
def yX9_init : MethodName := ⟨RX9, "<init>", "()V"⟩
abbrev cX9_isIn : ByteArray := prog_11_method_2_code
def yX9_isIn : MethodName := ⟨RX9, "isIn", "(JJJ)Z"⟩
abbrev cX9_orNone : ByteArray := prog_11_method_3_code
def yX9_orNone : MethodName := ⟨RX9, "orNone", "(I)I"⟩
abbrev cX9_within : ByteArray := prog_11_method_4_code
def yX9_within : MethodName := ⟨RX9, "within", "(II)I"⟩
abbrev cX9_off : ByteArray := prog_11_method_5_code
def yX9_off : MethodName := ⟨RX9, "off", "(II)I"⟩
abbrev cX9_changes : ByteArray := prog_11_method_6_code
def yX9_changes : MethodName := ⟨RX9, "changes", "(II)I"⟩
abbrev cX9_textAt : ByteArray := prog_11_method_7_code
def yX9_textAt : MethodName := ⟨RX9, "textAt", "(I)I"⟩
abbrev cX9_of : ByteArray := prog_11_method_8_code
def yX9_of : MethodName := ⟨RX9, "of", "(II)I"⟩
abbrev cX9_sets : ByteArray := prog_11_method_9_code
def yX9_sets : MethodName := ⟨RX9, "sets", "(III)V"⟩
abbrev cX9_isCourse : ByteArray := prog_11_method_10_code
def yX9_isCourse : MethodName := ⟨RX9, "isCourse", "(I)Z"⟩
abbrev cX9_isText : ByteArray := prog_11_method_11_code
def yX9_isText : MethodName := ⟨RX9, "isText", "(I)Z"⟩
abbrev cX9_drawn : ByteArray := prog_11_method_12_code
def yX9_drawn : MethodName := ⟨RX9, "drawn", "()I"⟩
abbrev cX9_isOf : ByteArray := prog_11_method_13_code
def yX9_isOf : MethodName := ⟨RX9, "isOf", "(II)Z"⟩
abbrev cX9_isLoop : ByteArray := prog_11_method_14_code
def yX9_isLoop : MethodName := ⟨RX9, "isLoop", "(I)Z"⟩
abbrev cX9_isAmong : ByteArray := prog_11_method_15_code
def yX9_isAmong : MethodName := ⟨RX9, "isAmong", "(II)Z"⟩
abbrev cX9_bits : ByteArray := prog_11_method_16_code
def yX9_bits : MethodName := ⟨RX9, "bits", "(I)I"⟩
abbrev cX9_comes : ByteArray := prog_11_method_17_code
def yX9_comes : MethodName := ⟨RX9, "comes", "(III)V"⟩
abbrev cX9_knit : ByteArray := prog_11_method_18_code
def yX9_knit : MethodName := ⟨RX9, "knit", "(II)I"⟩
abbrev cX9_hangs : ByteArray := prog_11_method_19_code
def yX9_hangs : MethodName := ⟨RX9, "hangs", "(II)I"⟩
abbrev cX9_holds : ByteArray := prog_11_method_20_code
def yX9_holds : MethodName := ⟨RX9, "holds", "()I"⟩
abbrev cX9_plain : ByteArray := prog_11_method_21_code
def yX9_plain : MethodName := ⟨RX9, "plain", "(I)I"⟩
abbrev cX9_wears : ByteArray := prog_11_method_22_code
def yX9_wears : MethodName := ⟨RX9, "wears", "(I)I"⟩
abbrev cX9_bears : ByteArray := prog_11_method_23_code
def yX9_bears : MethodName := ⟨RX9, "bears", "(I)I"⟩
abbrev cX9_worth : ByteArray := prog_11_method_24_code
def yX9_worth : MethodName := ⟨RX9, "worth", "(I)I"⟩
abbrev cX9_holding : ByteArray := prog_11_method_25_code
def yX9_holding : MethodName := ⟨RX9, "holding", "(I)I"⟩
abbrev cX9_told : ByteArray := prog_11_method_26_code
def yX9_told : MethodName := ⟨RX9, "told", "(II)I"⟩
abbrev cX9_as : ByteArray := prog_11_method_27_code
def yX9_as : MethodName := ⟨RX9, "as", "(II)I"⟩
abbrev cX9_turns : ByteArray := prog_11_method_28_code
def yX9_turns : MethodName := ⟨RX9, "turns", "(II)I"⟩
abbrev cX9_set : ByteArray := prog_11_method_29_code
def yX9_set : MethodName := ⟨RX9, "set", "(III)I"⟩
abbrev cX9_isLost : ByteArray := prog_11_method_30_code
def yX9_isLost : MethodName := ⟨RX9, "isLost", "(II)Z"⟩
abbrev cX9_losesOrNot : ByteArray := prog_11_method_31_code
def yX9_losesOrNot : MethodName := ⟨RX9, "losesOrNot", "(II)V"⟩
abbrev cX9_isThere : ByteArray := prog_11_method_32_code
def yX9_isThere : MethodName := ⟨RX9, "isThere", "(ZI)Z"⟩
abbrev cX9_drops : ByteArray := prog_11_method_33_code
def yX9_drops : MethodName := ⟨RX9, "drops", "(II)I"⟩
abbrev cX9_hooks : ByteArray := prog_11_method_34_code
def yX9_hooks : MethodName := ⟨RX9, "hooks", "(II)I"⟩
abbrev cX9_rule : ByteArray := prog_11_method_35_code
def yX9_rule : MethodName := ⟨RX9, "rule", "(II)I"⟩
abbrev cX9_deal : ByteArray := prog_11_method_36_code
def yX9_deal : MethodName := ⟨RX9, "deal", "(I)I"⟩
abbrev cX9_seed : ByteArray := prog_11_method_37_code
def yX9_seed : MethodName := ⟨RX9, "seed", "(I)I"⟩
abbrev cX9_loses : ByteArray := prog_11_method_38_code
def yX9_loses : MethodName := ⟨RX9, "loses", "(II)V"⟩
abbrev cX9_isWalked : ByteArray := prog_11_method_39_code
def yX9_isWalked : MethodName := ⟨RX9, "isWalked", "()V"⟩
abbrev cX9_mends : ByteArray := prog_11_method_40_code
def yX9_mends : MethodName := ⟨RX9, "mends", "()V"⟩
abbrev cX9_goesOn : ByteArray := prog_11_method_41_code
def yX9_goesOn : MethodName := ⟨RX9, "goesOn", "()V"⟩
abbrev cX9_goesOnMany : ByteArray := prog_11_method_42_code
def yX9_goesOnMany : MethodName := ⟨RX9, "goesOnMany", "(I)V"⟩
abbrev cX9_nights : ByteArray := prog_11_method_43_code
def yX9_nights : MethodName := ⟨RX9, "nights", "(I)I"⟩
abbrev cX9_lostOfAll : ByteArray := prog_11_method_44_code
def yX9_lostOfAll : MethodName := ⟨RX9, "lostOfAll", "()I"⟩
abbrev cX9_town : ByteArray := prog_11_method_45_code
def yX9_town : MethodName := ⟨RX9, "town", "(I)I"⟩
abbrev cX9_isHeld : ByteArray := prog_11_method_46_code
def yX9_isHeld : MethodName := ⟨RX9, "isHeld", "(II)Z"⟩
abbrev cX9_comesTo : ByteArray := prog_11_method_47_code
def yX9_comesTo : MethodName := ⟨RX9, "comesTo", "(III)Z"⟩
abbrev cX9_stepsFrom : ByteArray := prog_11_method_48_code
def yX9_stepsFrom : MethodName := ⟨RX9, "stepsFrom", "(III)Z"⟩
abbrev cX9_findsWays : ByteArray := prog_11_method_49_code
def yX9_findsWays : MethodName := ⟨RX9, "findsWays", "(II)I"⟩
abbrev cX9_way : ByteArray := prog_11_method_50_code
def yX9_way : MethodName := ⟨RX9, "way", "(IIII)I"⟩
abbrev cX9_reach : ByteArray := prog_11_method_51_code
def yX9_reach : MethodName := ⟨RX9, "reach", "(II)I"⟩
abbrev cX9_pulledWith : ByteArray := prog_11_method_52_code
def yX9_pulledWith : MethodName := ⟨RX9, "pulledWith", "(II)I"⟩
abbrev cX9_pulled : ByteArray := prog_11_method_53_code
def yX9_pulled : MethodName := ⟨RX9, "pulled", "(II)I"⟩
abbrev cX9_worst : ByteArray := prog_11_method_54_code
def yX9_worst : MethodName := ⟨RX9, "worst", "(I)I"⟩
abbrev cX9_needs : ByteArray := prog_11_method_55_code
def yX9_needs : MethodName := ⟨RX9, "needs", "(II)I"⟩
abbrev cX9_laysBy : ByteArray := prog_11_method_56_code
def yX9_laysBy : MethodName := ⟨RX9, "laysBy", "()V"⟩
abbrev cX9_laysBack : ByteArray := prog_11_method_57_code
def yX9_laysBack : MethodName := ⟨RX9, "laysBack", "()V"⟩
abbrev cX9_behind : ByteArray := prog_11_method_58_code
def yX9_behind : MethodName := ⟨RX9, "behind", "(II)I"⟩
abbrev cX9_gone : ByteArray := prog_11_method_59_code
def yX9_gone : MethodName := ⟨RX9, "gone", "(II)I"⟩
abbrev cX9_isAsked : ByteArray := prog_11_method_60_code
def yX9_isAsked : MethodName := ⟨RX9, "isAsked", "(II)Z"⟩
abbrev cX9_bestOf : ByteArray := prog_11_method_61_code
def yX9_bestOf : MethodName := ⟨RX9, "bestOf", "(IIIII)I"⟩
abbrev cX9_thick : ByteArray := prog_11_method_62_code
def yX9_thick : MethodName := ⟨RX9, "thick", "(III)I"⟩
abbrev cX9_becomes : ByteArray := prog_11_method_63_code
def yX9_becomes : MethodName := ⟨RX9, "becomes", "(III)I"⟩
abbrev cX9_fee : ByteArray := prog_11_method_64_code
def yX9_fee : MethodName := ⟨RX9, "fee", "()I"⟩
abbrev cX9_fine : ByteArray := prog_11_method_65_code
def yX9_fine : MethodName := ⟨RX9, "fine", "(I)I"⟩
abbrev cX9_feed : ByteArray := prog_11_method_66_code
def yX9_feed : MethodName := ⟨RX9, "feed", "(III)I"⟩
abbrev cX9_trim : ByteArray := prog_11_method_67_code
def yX9_trim : MethodName := ⟨RX9, "trim", "(I)I"⟩
abbrev cX9_isLetter : ByteArray := prog_11_method_68_code
def yX9_isLetter : MethodName := ⟨RX9, "isLetter", "(I)Z"⟩
abbrev cX9_isDigit : ByteArray := prog_11_method_69_code
def yX9_isDigit : MethodName := ⟨RX9, "isDigit", "(I)Z"⟩
abbrev cX9_nextToken : ByteArray := prog_11_method_70_code
def yX9_nextToken : MethodName := ⟨RX9, "nextToken", "()V"⟩
abbrev cX9_isSign : ByteArray := prog_11_method_71_code
def yX9_isSign : MethodName := ⟨RX9, "isSign", "(I)Z"⟩
abbrev cX9_isWordAt : ByteArray := prog_11_method_72_code
def yX9_isWordAt : MethodName := ⟨RX9, "isWordAt", "(IIII)Z"⟩
abbrev cX9_key : ByteArray := prog_11_method_73_code
def yX9_key : MethodName := ⟨RX9, "key", "()I"⟩
abbrev cX9_isName : ByteArray := prog_11_method_74_code
def yX9_isName : MethodName := ⟨RX9, "isName", "(II)Z"⟩
abbrev cX9_step : ByteArray := prog_11_method_75_code
def yX9_step : MethodName := ⟨RX9, "step", "(II)V"⟩
abbrev cX9_either : ByteArray := prog_11_method_76_code
def yX9_either : MethodName := ⟨RX9, "either", "(I)Z"⟩
abbrev cX9_both : ByteArray := prog_11_method_77_code
def yX9_both : MethodName := ⟨RX9, "both", "(I)Z"⟩
abbrev cX9_test : ByteArray := prog_11_method_78_code
def yX9_test : MethodName := ⟨RX9, "test", "(I)Z"⟩
abbrev cX9_sum : ByteArray := prog_11_method_79_code
def yX9_sum : MethodName := ⟨RX9, "sum", "(I)Z"⟩
abbrev cX9_term : ByteArray := prog_11_method_80_code
def yX9_term : MethodName := ⟨RX9, "term", "(I)Z"⟩
abbrev cX9_part0 : ByteArray := prog_11_method_81_code
def yX9_part0 : MethodName := ⟨RX9, "part0", "(I)Z"⟩
abbrev cX9_parse : ByteArray := prog_11_method_82_code
def yX9_parse : MethodName := ⟨RX9, "parse", "()I"⟩
abbrev cX9_text : ByteArray := prog_11_method_83_code
def yX9_text : MethodName := ⟨RX9, "text", "()I"⟩
abbrev cX9_textTold : ByteArray := prog_11_method_84_code
def yX9_textTold : MethodName := ⟨RX9, "textTold", "(II)I"⟩
abbrev cX9_counts : ByteArray := prog_11_method_85_code
def yX9_counts : MethodName := ⟨RX9, "counts", "(I)I"⟩
abbrev cX9_why : ByteArray := prog_11_method_86_code
def yX9_why : MethodName := ⟨RX9, "why", "(I)I"⟩
abbrev cX9_joined : ByteArray := prog_11_method_87_code
def yX9_joined : MethodName := ⟨RX9, "joined", "(III)I"⟩
abbrev cX9_worked : ByteArray := prog_11_method_88_code
def yX9_worked : MethodName := ⟨RX9, "worked", "(I)I"⟩
abbrev cX9_isSheet : ByteArray := prog_11_method_89_code
def yX9_isSheet : MethodName := ⟨RX9, "isSheet", "(I)Z"⟩
abbrev cX9_sheet : ByteArray := prog_11_method_90_code
def yX9_sheet : MethodName := ⟨RX9, "sheet", "(III)I"⟩
abbrev cX9_mark : ByteArray := prog_11_method_91_code
def yX9_mark : MethodName := ⟨RX9, "mark", "(III)I"⟩
abbrev cX9_pour : ByteArray := prog_11_method_92_code
def yX9_pour : MethodName := ⟨RX9, "pour", "(I)I"⟩
abbrev cX9_reads : ByteArray := prog_11_method_93_code
def yX9_reads : MethodName := ⟨RX9, "reads", "(I)I"⟩
abbrev cX9_offBy : ByteArray := prog_11_method_94_code
def yX9_offBy : MethodName := ⟨RX9, "offBy", "(II)I"⟩
abbrev cX9_like : ByteArray := prog_11_method_95_code
def yX9_like : MethodName := ⟨RX9, "like", "(II)I"⟩
abbrev cX9_copy : ByteArray := prog_11_method_96_code
def yX9_copy : MethodName := ⟨RX9, "copy", "(IIIII)I"⟩
abbrev cX9_isSlot : ByteArray := prog_11_method_97_code
def yX9_isSlot : MethodName := ⟨RX9, "isSlot", "(I)Z"⟩
abbrev cX9_lay : ByteArray := prog_11_method_98_code
def yX9_lay : MethodName := ⟨RX9, "lay", "(III)I"⟩
abbrev cX9_ask : ByteArray := prog_11_method_99_code
def yX9_ask : MethodName := ⟨RX9, "ask", "(II)I"⟩
abbrev cX9_item : ByteArray := prog_11_method_100_code
def yX9_item : MethodName := ⟨RX9, "item", "(II)I"⟩
abbrev cX9_rest : ByteArray := prog_11_method_101_code
def yX9_rest : MethodName := ⟨RX9, "rest", "(II)I"⟩
abbrev cX9_tell : ByteArray := prog_11_method_102_code
def yX9_tell : MethodName := ⟨RX9, "tell", "(I)I"⟩
abbrev cX9_setAside : ByteArray := prog_11_method_103_code
def yX9_setAside : MethodName := ⟨RX9, "setAside", "([I[I)V"⟩
abbrev cX9_check : ByteArray := prog_11_method_104_code
def yX9_check : MethodName := ⟨RX9, "check", "(I)I"⟩
abbrev cX9_keep : ByteArray := prog_11_method_105_code
def yX9_keep : MethodName := ⟨RX9, "keep", "()I"⟩
abbrev cX9_back : ByteArray := prog_11_method_106_code
def yX9_back : MethodName := ⟨RX9, "back", "()I"⟩
abbrev cX9_count : ByteArray := prog_11_method_107_code
def yX9_count : MethodName := ⟨RX9, "count", "(I)I"⟩
def RJ6 : String := "java/lang/Integer"
def TJ6 : u_T := fun k => match k with
  | _ => ("", "", "", false)
def tyJ6 : Nat → FieldType := fun k => match k with
  | _ => .int
abbrev wsJ60 : List Cond := u_ws RJ6 TJ6 0
theorem nmJ6 : ∀ a, a < 0 → ∀ b, b < 0 → a ≠ b → (TJ6 a).2.1 ≠ (TJ6 b).2.1 := by decide +kernel
theorem tyJ6_ok : ∀ k, k < 0 → parseFieldDescriptor (TJ6 k).2.2.1 = some (tyJ6 k) := by decide +kernel
abbrev cJ6_bitCount_0f7a4 : ByteArray := prog_12_method_49_code
def yJ6_bitCount_0f7a4 : MethodName := ⟨RJ6, "bitCount", "(I)I"⟩
def RJ9 : String := "java/lang/Math"
def TJ9 : u_T := fun k => match k with
  | _ => ("", "", "", false)
def tyJ9 : Nat → FieldType := fun k => match k with
  | _ => .int
abbrev wsJ90 : List Cond := u_ws RJ9 TJ9 0
theorem nmJ9 : ∀ a, a < 0 → ∀ b, b < 0 → a ≠ b → (TJ9 a).2.1 ≠ (TJ9 b).2.1 := by decide +kernel
theorem tyJ9_ok : ∀ k, k < 0 → parseFieldDescriptor (TJ9 k).2.2.1 = some (tyJ9 k) := by decide +kernel
abbrev cJ9_abs_0f7a4 : ByteArray := prog_13_method_59_code
def yJ9_abs_0f7a4 : MethodName := ⟨RJ9, "abs", "(I)I"⟩
abbrev cJ9_max_7cf53 : ByteArray := prog_13_method_65_code
def yJ9_max_7cf53 : MethodName := ⟨RJ9, "max", "(II)I"⟩
abbrev cJ9_min_7cf53 : ByteArray := prog_13_method_69_code
def yJ9_min_7cf53 : MethodName := ⟨RJ9, "min", "(II)I"⟩
def RJ0 : String := "java/lang/String"
def TJ0 : u_T := fun k => match k with
  | _ => ("", "", "", false)
def tyJ0 : Nat → FieldType := fun k => match k with
  | _ => .int
abbrev wsJ00 : List Cond := u_ws RJ0 TJ0 0
theorem nmJ0 : ∀ a, a < 0 → ∀ b, b < 0 → a ≠ b → (TJ0 a).2.1 ≠ (TJ0 b).2.1 := by decide +kernel
theorem tyJ0_ok : ∀ k, k < 0 → parseFieldDescriptor (TJ0 k).2.2.1 = some (tyJ0 k) := by decide +kernel
abbrev cJ0_length_8abf5 : ByteArray := prog_14_method_54_code
def yJ0_length_8abf5 : MethodName := ⟨RJ0, "length", "()I"⟩
abbrev cJ0_charAt_5068e : ByteArray := prog_14_method_56_code
def yJ0_charAt_5068e : MethodName := ⟨RJ0, "charAt", "(I)C"⟩
abbrev cJ0_coder_7d493 : ByteArray := prog_14_method_152_code
def yJ0_coder_7d493 : MethodName := ⟨RJ0, "coder", "()B"⟩
abbrev cJ0_isLatin1_aae02 : ByteArray := prog_14_method_154_code
def yJ0_isLatin1_aae02 : MethodName := ⟨RJ0, "isLatin1", "()Z"⟩
abbrev cJ0_checkIndex_df160 : ByteArray := prog_14_method_155_code
def yJ0_checkIndex_df160 : MethodName := ⟨RJ0, "checkIndex", "(II)V"⟩
def RJ1 : String := "java/lang/StringLatin1"
def TJ1 : u_T := fun k => match k with
  | _ => ("", "", "", false)
def tyJ1 : Nat → FieldType := fun k => match k with
  | _ => .int
abbrev wsJ10 : List Cond := u_ws RJ1 TJ1 0
theorem nmJ1 : ∀ a, a < 0 → ∀ b, b < 0 → a ≠ b → (TJ1 a).2.1 ≠ (TJ1 b).2.1 := by decide +kernel
theorem tyJ1_ok : ∀ k, k < 0 → parseFieldDescriptor (TJ1 k).2.2.1 = some (tyJ1 k) := by decide +kernel
abbrev cJ1_charAt_3b067 : ByteArray := prog_15_method_2_code
def yJ1_charAt_3b067 : MethodName := ⟨RJ1, "charAt", "([BI)C"⟩
def RJ2 : String := "java/lang/StringUTF16"
def TJ2 : u_T := fun k => match k with
  | _ => ("", "", "", false)
def tyJ2 : Nat → FieldType := fun k => match k with
  | _ => .int
abbrev wsJ20 : List Cond := u_ws RJ2 TJ2 0
theorem nmJ2 : ∀ a, a < 0 → ∀ b, b < 0 → a ≠ b → (TJ2 a).2.1 ≠ (TJ2 b).2.1 := by decide +kernel
theorem tyJ2_ok : ∀ k, k < 0 → parseFieldDescriptor (TJ2 k).2.2.1 = some (tyJ2 k) := by decide +kernel
abbrev cJ2_getChar_3b067 : ByteArray := prog_16_method_5_code
def yJ2_getChar_3b067 : MethodName := ⟨RJ2, "getChar", "([BI)C"⟩
abbrev cJ2_length_9d52b : ByteArray := prog_16_method_6_code
def yJ2_length_9d52b : MethodName := ⟨RJ2, "length", "([B)I"⟩
abbrev cJ2_charAt_3b067 : ByteArray := prog_16_method_83_code
def yJ2_charAt_3b067 : MethodName := ⟨RJ2, "charAt", "([BI)C"⟩
abbrev cJ2_checkIndex_2214a : ByteArray := prog_16_method_91_code
def yJ2_checkIndex_2214a : MethodName := ⟨RJ2, "checkIndex", "(I[B)V"⟩
def RJ10 : String := "java/lang/System"
def TJ10 : u_T := fun k => match k with
  | _ => ("", "", "", false)
def tyJ10 : Nat → FieldType := fun k => match k with
  | _ => .int
abbrev wsJ100 : List Cond := u_ws RJ10 TJ10 0
theorem nmJ10 : ∀ a, a < 0 → ∀ b, b < 0 → a ≠ b → (TJ10 a).2.1 ≠ (TJ10 b).2.1 := by decide +kernel
theorem tyJ10_ok : ∀ k, k < 0 → parseFieldDescriptor (TJ10 k).2.2.1 = some (tyJ10 k) := by decide +kernel
def RJ3 : String := "jdk/internal/util/Preconditions"
def TJ3 : u_T := fun k => match k with
  | _ => ("", "", "", false)
def tyJ3 : Nat → FieldType := fun k => match k with
  | _ => .int
abbrev wsJ30 : List Cond := u_ws RJ3 TJ3 0
theorem nmJ3 : ∀ a, a < 0 → ∀ b, b < 0 → a ≠ b → (TJ3 a).2.1 ≠ (TJ3 b).2.1 := by decide +kernel
theorem tyJ3_ok : ∀ k, k < 0 → parseFieldDescriptor (TJ3 k).2.2.1 = some (tyJ3 k) := by decide +kernel
abbrev cJ3_checkIndex_8e157 : ByteArray := prog_18_method_11_code
def yJ3_checkIndex_8e157 : MethodName := ⟨RJ3, "checkIndex", "(IILjava/util/function/BiFunction;)I"⟩
def RL : String := "KnitStreetsLaw"
abbrev cL_law : ByteArray := code
def yL_law : MethodName := ⟨RL, "law", "([I)Z"⟩
abbrev vwCl : List vw_C := [(RX1, TX1, 8), (RX2, TX2, 3), (RX3, TX3, 5), (RX4, TX4, 2), (RX5, TX5, 6), (RX6, TX6, 14), (RX7, TX7, 3), (RX8, TX8, 12), (RX9, TX9, 33)]
